theorem dFi_firstKey_0 : decode prog_6_method_7_code 0 = .ok (.iconst 0, 1) := by decide +kernel
theorem dFi_firstKey_1 : decode prog_6_method_7_code 1 = .ok (.istore_n 1, 1) := by decide +kernel
theorem dFi_firstKey_2 : decode prog_6_method_7_code 2 = .ok (.iload_n 1, 1) := by decide +kernel
theorem dFi_firstKey_3 : decode prog_6_method_7_code 3 = .ok (.bipush 24, 2) := by decide +kernel
theorem dFi_firstKey_5 : decode prog_6_method_7_code 5 = .ok (.if_icmp .ge 24, 3) := by decide +kernel
theorem dFi_firstKey_8 : decode prog_6_method_7_code 8 = .ok (.aload_n 0, 1) := by decide +kernel
theorem dFi_firstKey_9 : decode prog_6_method_7_code 9 = .ok (.getfield 25, 3) := by decide +kernel
theorem dFi_firstKey_12 : decode prog_6_method_7_code 12 = .ok (.iload_n 1, 1) := by decide +kernel
theorem dFi_firstKey_13 : decode prog_6_method_7_code 13 = .ok (.iaload, 1) := by decide +kernel
theorem dFi_firstKey_14 : decode prog_6_method_7_code 14 = .ok (.aload_n 0, 1) := by decide +kernel
theorem dFi_firstKey_15 : decode prog_6_method_7_code 15 = .ok (.getfield 97, 3) := by decide +kernel
theorem dFi_firstKey_18 : decode prog_6_method_7_code 18 = .ok (.if_icmp .ne 5, 3) := by decide +kernel
theorem dFi_firstKey_21 : decode prog_6_method_7_code 21 = .ok (.iload_n 1, 1) := by decide +kernel
theorem dFi_firstKey_22 : decode prog_6_method_7_code 22 = .ok (.ireturn, 1) := by decide +kernel
theorem dFi_firstKey_23 : decode prog_6_method_7_code 23 = .ok (.iinc 1 1, 3) := by decide +kernel
theorem dFi_firstKey_26 : decode prog_6_method_7_code 26 = .ok (.goto (-24), 3) := by decide +kernel
theorem dFi_firstKey_29 : decode prog_6_method_7_code 29 = .ok (.iconst 0, 1) := by decide +kernel
theorem dFi_firstKey_30 : decode prog_6_method_7_code 30 = .ok (.ireturn, 1) := by decide +kernel
set_option maxRecDepth 100000 in
set_option maxHeartbeats 4000000 in
theorem tFi_firstKey_J29 {X : KC} {q : Int × KM} (hX : kOk X 1 prog_6_method_7_code 2 "KeyPath$PathFinder") (hR : kRet X (some .int) q) (σ : KM) {Θ : (Int × KM) → Prop} (hT : ∀ z, Θ (z) → z = q) : kJ X 29 [lq 8, none] [] σ (fFi_firstKey_J29 σ) Θ := by
  refine k_iconst hX dFi_firstKey_29 ?_
  exact k_iret hX hR hT dFi_firstKey_30
set_option maxRecDepth 100000 in
set_option maxHeartbeats 4000000 in
theorem tFi_firstKey_J21 {X : KC} {q : Int × KM} (hX : kOk X 1 prog_6_method_7_code 2 "KeyPath$PathFinder") (hR : kRet X (some .int) q) (x1 : Int) (σ : KM) {Θ : (Int × KM) → Prop} (hT : ∀ z, Θ (z) → z = q) : kJ X 21 [lq 8, li x1] [] σ (fFi_firstKey_J21 x1 σ) Θ := by
  refine k_iload_n hX dFi_firstKey_21 rfl ?_
  exact k_iret hX hR hT dFi_firstKey_22
set_option maxRecDepth 100000 in
set_option maxHeartbeats 4000000 in
theorem tFi_firstKey_B2 {X : KC} {q : Int × KM} (hX : kOk X 1 prog_6_method_7_code 2 "KeyPath$PathFinder") (hR : kRet X (some .int) q) (x1 : Int) (σ : KM) {Θ : ((Int × KM) ⊕ (Int × KM)) → Prop} (hT : ∀ z, Θ (.inr (z)) → z = q) (hb0 : ∀ s : Int × KM, Θ (.inl s) → kW X 2 [lq 8, li s.1] [] s.2) : kJ X 2 [lq 8, li x1] [] σ (fFi_firstKey_B2 x1 σ) Θ := by
  refine k_iload_n hX dFi_firstKey_2 rfl ?_
  refine k_bipush hX dFi_firstKey_3 (by decide) ?_
  refine k_icmp_ge (tgt := 29) hX dFi_firstKey_5 (by decide) ?_ ?_
  · refine k_exit ?_
    refine k_less [true, false] (L' := [lq 8, none]) rfl ?_
    exact tFi_firstKey_J29 hX hR σ hT
  · refine k_aload_n hX dFi_firstKey_8 rfl ?_
    refine gf_55 hX dFi_firstKey_9 ?_
    refine k_iload_n hX dFi_firstKey_12 rfl ?_
    refine k_iald hX (by decide) rfl dFi_firstKey_13 rfl (fun y1 => ?_)
    refine k_aload_n hX dFi_firstKey_14 rfl ?_
    refine gf_53 hX dFi_firstKey_15 ?_
    refine k_icmp_ne (tgt := 23) hX dFi_firstKey_18 (by decide) ?_ ?_
    · refine k_iincL (Lf := fun y2 => [lq 8, li y2]) hX dFi_firstKey_23 rfl (by decide) rfl (fun _ => rfl) (fun y2 => ?_)
      refine k_goto (tgt := 2) hX dFi_firstKey_26 (by decide) ?_
      exact k_back (hb0 (y2, σ))
    · refine k_exit ?_
      exact tFi_firstKey_J21 hX hR x1 σ hT
set_option maxRecDepth 100000 in
set_option maxHeartbeats 4000000 in
theorem tFi_firstKey_L2 {X : KC} {q : Int × KM} (hX : kOk X 1 prog_6_method_7_code 2 "KeyPath$PathFinder") (hR : kRet X (some .int) q) (x1 : Int) (σ : KM) {Θ : (Int × KM) → Prop} (hT : ∀ z, Θ (z) → z = q) : kJ X 2 [lq 8, li x1] [] σ (fFi_firstKey_L2 x1 σ) Θ :=
  k_iter (f := fun s => fFi_firstKey_B2 s.1 s.2) (Lf := fun s => [lq 8, li s.1]) (mf := fun s => s.2) (Θ := Θ) (fun s => tFi_firstKey_B2 hX hR s.1 s.2 hT (fun _ h9 => h9)) kF (x1, σ)
set_option maxRecDepth 100000 in
set_option maxHeartbeats 4000000 in
theorem sFi_firstKey (σ : KM) : kSem 1 (⟨"KeyPath$PathFinder", "firstKey", "()I"⟩ : MethodName) prog_6_method_7_code 2 (some .int) [kr 8] σ (fFi_firstKey σ) := by
  refine kSem.of (L0 := [lq 8, none]) (by decide) (Nat.le_of_ble_eq_true rfl) rfl (fun X q hX hR => ?_)
  have hT : ∀ z : Int × KM, (fun z => z = q) z → z = q := fun _ h => h
  refine k_iconst hX dFi_firstKey_0 ?_
  refine k_istore_n (L' := [lq 8, li 0]) hX dFi_firstKey_1 rfl (by decide) rfl ?_
  exact tFi_firstKey_L2 hX hR 0 σ hT
theorem cl_27 {X : KC} {d n : Nat} {cc : ByteArray} {pc : Nat} {L : List (Option KV)} {st : List KV} {σ : KM} {Z : Type} {Θ : Z → Prop} {G : Int → KM → Option Z} (hX : kOk X d cc n "KeyPath$PathFinder") (hdd : 1 + 1 ≤ d) (hst : k_cat st ≤ 8) (hd : decode cc pc = .ok (.invokevirtual 103, 3)) (h : ∀ r τ, kJ X (pc + 3) L (ki r :: st) τ (G r τ) Θ) : kJ X pc L (kr 8 :: st) σ (kCall (fFi_firstKey σ) G) Θ :=
  k_callV (np := 0) (av := []) (ret := (some .int)) hX (by decide) rfl rfl rfl (sFi_firstKey σ) ⟨⟨hdd, by decide⟩, tw_735, tw_8, by decide +kernel⟩ rfl tw_732 tw_734 ts_30 hst hd h
theorem dFi_follow_0 : decode prog_6_method_6_code 0 = .ok (.iconst 0, 1) := by decide +kernel
theorem dFi_follow_1 : decode prog_6_method_6_code 1 = .ok (.istore_n 1, 1) := by decide +kernel
theorem dFi_follow_2 : decode prog_6_method_6_code 2 = .ok (.iload_n 1, 1) := by decide +kernel
theorem dFi_follow_3 : decode prog_6_method_6_code 3 = .ok (.aload_n 0, 1) := by decide +kernel
theorem dFi_follow_4 : decode prog_6_method_6_code 4 = .ok (.getfield 53, 3) := by decide +kernel
theorem dFi_follow_7 : decode prog_6_method_6_code 7 = .ok (.if_icmp .ge 31, 3) := by decide +kernel
theorem dFi_follow_10 : decode prog_6_method_6_code 10 = .ok (.aload_n 0, 1) := by decide +kernel
theorem dFi_follow_11 : decode prog_6_method_6_code 11 = .ok (.getfield 31, 3) := by decide +kernel
theorem dFi_follow_14 : decode prog_6_method_6_code 14 = .ok (.iload_n 1, 1) := by decide +kernel
theorem dFi_follow_15 : decode prog_6_method_6_code 15 = .ok (.iload_n 1, 1) := by decide +kernel
theorem dFi_follow_16 : decode prog_6_method_6_code 16 = .ok (.ifCond .ne 10, 3) := by decide +kernel
theorem dFi_follow_19 : decode prog_6_method_6_code 19 = .ok (.aload_n 0, 1) := by decide +kernel
theorem dFi_follow_20 : decode prog_6_method_6_code 20 = .ok (.invokevirtual 103, 3) := by decide +kernel
theorem dFi_follow_23 : decode prog_6_method_6_code 23 = .ok (.goto 8, 3) := by decide +kernel
theorem dFi_follow_26 : decode prog_6_method_6_code 26 = .ok (.aload_n 0, 1) := by decide +kernel
theorem dFi_follow_27 : decode prog_6_method_6_code 27 = .ok (.iload_n 1, 1) := by decide +kernel
theorem dFi_follow_28 : decode prog_6_method_6_code 28 = .ok (.invokevirtual 107, 3) := by decide +kernel
theorem dFi_follow_31 : decode prog_6_method_6_code 31 = .ok (.iastore, 1) := by decide +kernel
theorem dFi_follow_32 : decode prog_6_method_6_code 32 = .ok (.iinc 1 1, 3) := by decide +kernel
theorem dFi_follow_35 : decode prog_6_method_6_code 35 = .ok (.goto (-33), 3) := by decide +kernel
theorem dFi_follow_38 : decode prog_6_method_6_code 38 = .ok (.return_, 1) := by decide +kernel
set_option maxRecDepth 100000 in
set_option maxHeartbeats 4000000 in
theorem tFi_follow_J38 {X : KC} {q : Int × KM} (hX : kOk X 2 prog_6_method_6_code 2 "KeyPath$PathFinder") (hR : kRet X none q) (σ : KM) {Θ : (Int × KM) → Prop} (hT : ∀ z, Θ (z) → z = q) : kJ X 38 [lq 8, none] [] σ (fFi_follow_J38 σ) Θ := by
  exact k_vret hX hR hT dFi_follow_38
set_option maxRecDepth 100000 in
set_option maxHeartbeats 4000000 in
theorem tFi_follow_J31 {X : KC} {q : Int × KM} (hX : kOk X 2 prog_6_method_6_code 2 "KeyPath$PathFinder") (hR : kRet X none q) (x1 t0 t1 : Int) (σ : KM) {Θ : ((Int × KM) ⊕ (Int × KM)) → Prop} (hT : ∀ z, Θ (.inr (z)) → z = q) (hb0 : ∀ s : Int × KM, Θ (.inl s) → kW X 2 [lq 8, li s.1] [] s.2) : kJ X 31 [lq 8, li x1] [ki t0, ki t1, kr 39] σ (fFi_follow_J31 x1 t0 t1 σ) Θ := by
  refine k_iast hX (by decide) rfl dFi_follow_31 rfl (fun τ1 => ?_)
  refine k_iincL (Lf := fun y2 => [lq 8, li y2]) hX dFi_follow_32 rfl (by decide) rfl (fun _ => rfl) (fun y2 => ?_)
  refine k_goto (tgt := 2) hX dFi_follow_35 (by decide) ?_
  exact k_back (hb0 (y2, τ1))
set_option maxRecDepth 100000 in
set_option maxHeartbeats 4000000 in
theorem tFi_follow_B2 {X : KC} {q : Int × KM} (hX : kOk X 2 prog_6_method_6_code 2 "KeyPath$PathFinder") (hR : kRet X none q) (x1 : Int) (σ : KM) {Θ : ((Int × KM) ⊕ (Int × KM)) → Prop} (hT : ∀ z, Θ (.inr (z)) → z = q) (hb0 : ∀ s : Int × KM, Θ (.inl s) → kW X 2 [lq 8, li s.1] [] s.2) : kJ X 2 [lq 8, li x1] [] σ (fFi_follow_B2 x1 σ) Θ := by
  refine k_iload_n hX dFi_follow_2 rfl ?_
  refine k_aload_n hX dFi_follow_3 rfl ?_
  refine gf_43 hX dFi_follow_4 ?_
  refine k_icmp_ge (tgt := 38) hX dFi_follow_7 (by decide) ?_ ?_
  · refine k_exit ?_
    refine k_less [true, false] (L' := [lq 8, none]) rfl ?_
    exact tFi_follow_J38 hX hR σ hT
  · refine k_aload_n hX dFi_follow_10 rfl ?_
    refine gf_62 hX dFi_follow_11 ?_
    refine k_iload_n hX dFi_follow_14 rfl ?_
    refine k_iload_n hX dFi_follow_15 rfl ?_
    refine k_if_ne (tgt := 26) hX dFi_follow_16 (by decide) ?_ ?_
    · refine k_aload_n hX dFi_follow_26 rfl ?_
      refine k_iload_n hX dFi_follow_27 rfl ?_
      refine cl_26 hX (by decide) (Nat.le_of_ble_eq_true rfl) dFi_follow_28 (fun r2 τ1 => ?_)
      exact tFi_follow_J31 hX hR x1 r2 x1 τ1 hT hb0
    · refine k_aload_n hX dFi_follow_19 rfl ?_
      refine cl_27 hX (by decide) (Nat.le_of_ble_eq_true rfl) dFi_follow_20 (fun r4 τ3 => ?_)
      refine k_goto (tgt := 31) hX dFi_follow_23 (by decide) ?_
      exact tFi_follow_J31 hX hR x1 r4 x1 τ3 hT hb0
set_option maxRecDepth 100000 in
set_option maxHeartbeats 4000000 in
theorem tFi_follow_L2 {X : KC} {q : Int × KM} (hX : kOk X 2 prog_6_method_6_code 2 "KeyPath$PathFinder") (hR : kRet X none q) (x1 : Int) (σ : KM) {Θ : (Int × KM) → Prop} (hT : ∀ z, Θ (z) → z = q) : kJ X 2 [lq 8, li x1] [] σ (fFi_follow_L2 x1 σ) Θ :=
  k_iter (f := fun s => fFi_follow_B2 s.1 s.2) (Lf := fun s => [lq 8, li s.1]) (mf := fun s => s.2) (Θ := Θ) (fun s => tFi_follow_B2 hX hR s.1 s.2 hT (fun _ h9 => h9)) kF (x1, σ)
set_option maxRecDepth 100000 in
set_option maxHeartbeats 4000000 in
theorem sFi_follow (σ : KM) : kSem 2 (⟨"KeyPath$PathFinder", "follow", "()V"⟩ : MethodName) prog_6_method_6_code 2 none [kr 8] σ (fFi_follow σ) := by
  refine kSem.of (L0 := [lq 8, none]) (by decide) (Nat.le_of_ble_eq_true rfl) rfl (fun X q hX hR => ?_)
  have hT : ∀ z : Int × KM, (fun z => z = q) z → z = q := fun _ h => h
  refine k_iconst hX dFi_follow_0 ?_
  refine k_istore_n (L' := [lq 8, li 0]) hX dFi_follow_1 rfl (by decide) rfl ?_
  exact tFi_follow_L2 hX hR 0 σ hT
theorem cl_28 {X : KC} {d n : Nat} {cc : ByteArray} {pc : Nat} {L : List (Option KV)} {st : List KV} {σ : KM} {Z : Type} {Θ : Z → Prop} {G : Int → KM → Option Z} (hX : kOk X d cc n "KeyPath$PathFinder") (hdd : 2 + 1 ≤ d) (hst : k_cat st ≤ 8) (hd : decode cc pc = .ok (.invokevirtual 81, 3)) (h : ∀ r τ, kJ X (pc + 3) L (st) τ (G r τ) Θ) : kJ X pc L (kr 8 :: st) σ (kCall (fFi_follow σ) G) Θ :=
  k_callV (np := 0) (av := []) (ret := none) hX (by decide) rfl rfl rfl (sFi_follow σ) ⟨⟨hdd, by decide⟩, tw_731, tw_8, by decide +kernel⟩ rfl tw_728 tw_730 ts_29 hst hd h
theorem dP_plus_0 : decode prog_1_method_58_code 0 = .ok (.ldc_w 261, 3) := by decide +kernel
theorem dP_plus_3 : decode prog_1_method_58_code 3 = .ok (.iload_n 0, 1) := by decide +kernel
theorem dP_plus_4 : decode prog_1_method_58_code 4 = .ok (.iload_n 1, 1) := by decide +kernel
theorem dP_plus_5 : decode prog_1_method_58_code 5 = .ok (.iadd, 1) := by decide +kernel
theorem dP_plus_6 : decode prog_1_method_58_code 6 = .ok (.invokestatic 353, 3) := by decide +kernel
theorem dP_plus_9 : decode prog_1_method_58_code 9 = .ok (.ireturn, 1) := by decide +kernel
set_option maxRecDepth 100000 in
set_option maxHeartbeats 4000000 in
theorem sP_plus (x0 x1 : Int) (σ : KM) : kSem 1 (⟨"KeyPath", "plus", "(II)I"⟩ : MethodName) prog_1_method_58_code 2 (some .int) [ki x0, ki x1] σ (fP_plus x0 x1 σ) := by
  refine kSem.of (L0 := [li x0, li x1]) (by decide) (Nat.le_of_ble_eq_true rfl) rfl (fun X q hX hR => ?_)
  have hT : ∀ z : Int × KM, (fun z => z = q) z → z = q := fun _ h => h
  refine k_ldcw (v := 1000000000) (w := 0) hX dP_plus_0 tw_720 ?_
  refine k_iload_n hX dP_plus_3 rfl ?_
  refine k_iload_n hX dP_plus_4 rfl ?_
  refine k_iadd hX dP_plus_5 ?_
  refine k_mmin hX (by decide) (Nat.le_of_ble_eq_true rfl) tw_721 tw_379 tw_12 tw_380 dP_plus_6 (fun y1 => ?_)
  exact k_iret hX hR hT dP_plus_9
theorem cl_29 {X : KC} {d n : Nat} {cc : ByteArray} {pc : Nat} {L : List (Option KV)} {st : List KV} {σ : KM} {Z : Type} {Θ : Z → Prop} {G : Int → KM → Option Z} {x0 x1 : Int} (hX : kOk X d cc n "KeyPath$PathFinder") (hdd : 1 + 1 ≤ d) (hst : k_cat st ≤ 8) (hd : decode cc pc = .ok (.invokestatic 87, 3)) (h : ∀ r τ, kJ X (pc + 3) L (ki r :: st) τ (G r τ) Θ) : kJ X pc L (ki x1 :: ki x0 :: st) σ (kCall (fP_plus x0 x1 σ) G) Θ :=
  k_callSN (np := 2) (av := [ki x0, ki x1]) (ret := (some .int)) hX (sP_plus _ _ σ) ⟨⟨hdd, by decide⟩, tw_719, tw_1, by decide +kernel⟩ rfl (List.mem_of_getElem? (i := 15) rfl) tw_718 hst hd h
theorem cl_57 {X : KC} {d n : Nat} {cc : ByteArray} {pc : Nat} {L : List (Option KV)} {st : List KV} {σ : KM} {Z : Type} {Θ : Z → Prop} {G : Int → KM → Option Z} {x0 x1 : Int} (hX : kOk X d cc n "KeyPath$Detours") (hdd : 1 + 1 ≤ d) (hst : k_cat st ≤ 8) (hd : decode cc pc = .ok (.invokestatic 48, 3)) (h : ∀ r τ, kJ X (pc + 3) L (ki r :: st) τ (G r τ) Θ) : kJ X pc L (ki x1 :: ki x0 :: st) σ (kCall (fP_plus x0 x1 σ) G) Θ :=
  k_callSN (np := 2) (av := [ki x0, ki x1]) (ret := (some .int)) hX (sP_plus _ _ σ) ⟨⟨hdd, by decide⟩, tw_719, tw_1, by decide +kernel⟩ rfl (List.mem_of_getElem? (i := 16) rfl) tw_718 hst hd h
theorem dFi_lookBehind_0 : decode prog_6_method_4_code 0 = .ok (.iload_n 1, 1) := by decide +kernel
theorem dFi_lookBehind_1 : decode prog_6_method_4_code 1 = .ok (.bipush 24, 2) := by decide +kernel
theorem dFi_lookBehind_3 : decode prog_6_method_4_code 3 = .ok (.imul, 1) := by decide +kernel
theorem dFi_lookBehind_4 : decode prog_6_method_4_code 4 = .ok (.iload_n 2, 1) := by decide +kernel
theorem dFi_lookBehind_5 : decode prog_6_method_4_code 5 = .ok (.iadd, 1) := by decide +kernel
theorem dFi_lookBehind_6 : decode prog_6_method_4_code 6 = .ok (.istore_n 3, 1) := by decide +kernel
theorem dFi_lookBehind_7 : decode prog_6_method_4_code 7 = .ok (.aload_n 0, 1) := by decide +kernel
theorem dFi_lookBehind_8 : decode prog_6_method_4_code 8 = .ok (.getfield 25, 3) := by decide +kernel
theorem dFi_lookBehind_11 : decode prog_6_method_4_code 11 = .ok (.iload_n 3, 1) := by decide +kernel
theorem dFi_lookBehind_12 : decode prog_6_method_4_code 12 = .ok (.aload_n 0, 1) := by decide +kernel
theorem dFi_lookBehind_13 : decode prog_6_method_4_code 13 = .ok (.getfield 15, 3) := by decide +kernel
theorem dFi_lookBehind_16 : decode prog_6_method_4_code 16 = .ok (.iload_n 3, 1) := by decide +kernel
theorem dFi_lookBehind_17 : decode prog_6_method_4_code 17 = .ok (.iaload, 1) := by decide +kernel
theorem dFi_lookBehind_18 : decode prog_6_method_4_code 18 = .ok (.iastore, 1) := by decide +kernel
theorem dFi_lookBehind_19 : decode prog_6_method_4_code 19 = .ok (.aload_n 0, 1) := by decide +kernel
theorem dFi_lookBehind_20 : decode prog_6_method_4_code 20 = .ok (.getfield 28, 3) := by decide +kernel
theorem dFi_lookBehind_23 : decode prog_6_method_4_code 23 = .ok (.iload_n 3, 1) := by decide +kernel
theorem dFi_lookBehind_24 : decode prog_6_method_4_code 24 = .ok (.iconst 1, 1) := by decide +kernel
theorem dFi_lookBehind_25 : decode prog_6_method_4_code 25 = .ok (.iastore, 1) := by decide +kernel
theorem dFi_lookBehind_26 : decode prog_6_method_4_code 26 = .ok (.aload_n 0, 1) := by decide +kernel
theorem dFi_lookBehind_27 : decode prog_6_method_4_code 27 = .ok (.getfield 15, 3) := by decide +kernel
theorem dFi_lookBehind_30 : decode prog_6_method_4_code 30 = .ok (.iload_n 3, 1) := by decide +kernel
theorem dFi_lookBehind_31 : decode prog_6_method_4_code 31 = .ok (.iaload, 1) := by decide +kernel
theorem dFi_lookBehind_32 : decode prog_6_method_4_code 32 = .ok (.ldc 65, 2) := by decide +kernel
theorem dFi_lookBehind_34 : decode prog_6_method_4_code 34 = .ok (.if_icmp .ge 13, 3) := by decide +kernel
theorem dFi_lookBehind_37 : decode prog_6_method_4_code 37 = .ok (.iload_n 1, 1) := by decide +kernel
theorem dFi_lookBehind_38 : decode prog_6_method_4_code 38 = .ok (.aload_n 0, 1) := by decide +kernel
theorem dFi_lookBehind_39 : decode prog_6_method_4_code 39 = .ok (.getfield 53, 3) := by decide +kernel
theorem dFi_lookBehind_42 : decode prog_6_method_4_code 42 = .ok (.iconst 1, 1) := by decide +kernel
theorem dFi_lookBehind_43 : decode prog_6_method_4_code 43 = .ok (.isub, 1) := by decide +kernel
theorem dFi_lookBehind_44 : decode prog_6_method_4_code 44 = .ok (.if_icmp .ne 4, 3) := by decide +kernel
theorem dFi_lookBehind_47 : decode prog_6_method_4_code 47 = .ok (.return_, 1) := by decide +kernel
theorem dFi_lookBehind_48 : decode prog_6_method_4_code 48 = .ok (.aload_n 0, 1) := by decide +kernel
theorem dFi_lookBehind_49 : decode prog_6_method_4_code 49 = .ok (.getfield 18, 3) := by decide +kernel
theorem dFi_lookBehind_52 : decode prog_6_method_4_code 52 = .ok (.iload_n 1, 1) := by decide +kernel
theorem dFi_lookBehind_53 : decode prog_6_method_4_code 53 = .ok (.iconst 1, 1) := by decide +kernel
theorem dFi_lookBehind_54 : decode prog_6_method_4_code 54 = .ok (.iadd, 1) := by decide +kernel
theorem dFi_lookBehind_55 : decode prog_6_method_4_code 55 = .ok (.baload, 1) := by decide +kernel
theorem dFi_lookBehind_56 : decode prog_6_method_4_code 56 = .ok (.ifCond .eq 43, 3) := by decide +kernel
theorem dFi_lookBehind_59 : decode prog_6_method_4_code 59 = .ok (.aload_n 0, 1) := by decide +kernel
theorem dFi_lookBehind_60 : decode prog_6_method_4_code 60 = .ok (.getfield 25, 3) := by decide +kernel
theorem dFi_lookBehind_63 : decode prog_6_method_4_code 63 = .ok (.iload_n 3, 1) := by decide +kernel
theorem dFi_lookBehind_64 : decode prog_6_method_4_code 64 = .ok (.aload_n 0, 1) := by decide +kernel
theorem dFi_lookBehind_65 : decode prog_6_method_4_code 65 = .ok (.getfield 15, 3) := by decide +kernel
theorem dFi_lookBehind_68 : decode prog_6_method_4_code 68 = .ok (.iload_n 3, 1) := by decide +kernel
theorem dFi_lookBehind_69 : decode prog_6_method_4_code 69 = .ok (.iaload, 1) := by decide +kernel
theorem dFi_lookBehind_70 : decode prog_6_method_4_code 70 = .ok (.aload_n 0, 1) := by decide +kernel
theorem dFi_lookBehind_71 : decode prog_6_method_4_code 71 = .ok (.getfield 25, 3) := by decide +kernel
theorem dFi_lookBehind_74 : decode prog_6_method_4_code 74 = .ok (.iload_n 3, 1) := by decide +kernel
theorem dFi_lookBehind_75 : decode prog_6_method_4_code 75 = .ok (.bipush 24, 2) := by decide +kernel
theorem dFi_lookBehind_77 : decode prog_6_method_4_code 77 = .ok (.iadd, 1) := by decide +kernel
theorem dFi_lookBehind_78 : decode prog_6_method_4_code 78 = .ok (.iaload, 1) := by decide +kernel
theorem dFi_lookBehind_79 : decode prog_6_method_4_code 79 = .ok (.invokestatic 87, 3) := by decide +kernel
theorem dFi_lookBehind_82 : decode prog_6_method_4_code 82 = .ok (.iastore, 1) := by decide +kernel
theorem dFi_lookBehind_83 : decode prog_6_method_4_code 83 = .ok (.aload_n 0, 1) := by decide +kernel
theorem dFi_lookBehind_84 : decode prog_6_method_4_code 84 = .ok (.getfield 28, 3) := by decide +kernel
theorem dFi_lookBehind_87 : decode prog_6_method_4_code 87 = .ok (.iload_n 3, 1) := by decide +kernel
theorem dFi_lookBehind_88 : decode prog_6_method_4_code 88 = .ok (.aload_n 0, 1) := by decide +kernel
theorem dFi_lookBehind_89 : decode prog_6_method_4_code 89 = .ok (.getfield 28, 3) := by decide +kernel
theorem dFi_lookBehind_92 : decode prog_6_method_4_code 92 = .ok (.iload_n 3, 1) := by decide +kernel
theorem dFi_lookBehind_93 : decode prog_6_method_4_code 93 = .ok (.bipush 24, 2) := by decide +kernel
theorem dFi_lookBehind_95 : decode prog_6_method_4_code 95 = .ok (.iadd, 1) := by decide +kernel
theorem dFi_lookBehind_96 : decode prog_6_method_4_code 96 = .ok (.iaload, 1) := by decide +kernel
theorem dFi_lookBehind_97 : decode prog_6_method_4_code 97 = .ok (.iastore, 1) := by decide +kernel
theorem dFi_lookBehind_98 : decode prog_6_method_4_code 98 = .ok (.return_, 1) := by decide +kernel
theorem dFi_lookBehind_99 : decode prog_6_method_4_code 99 = .ok (.iload_n 1, 1) := by decide +kernel
theorem dFi_lookBehind_100 : decode prog_6_method_4_code 100 = .ok (.iconst 1, 1) := by decide +kernel
theorem dFi_lookBehind_101 : decode prog_6_method_4_code 101 = .ok (.iadd, 1) := by decide +kernel
theorem dFi_lookBehind_102 : decode prog_6_method_4_code 102 = .ok (.bipush 24, 2) := by decide +kernel
theorem dFi_lookBehind_104 : decode prog_6_method_4_code 104 = .ok (.imul, 1) := by decide +kernel
theorem dFi_lookBehind_105 : decode prog_6_method_4_code 105 = .ok (.istore 4, 2) := by decide +kernel
theorem dFi_lookBehind_107 : decode prog_6_method_4_code 107 = .ok (.ldc 65, 2) := by decide +kernel
theorem dFi_lookBehind_109 : decode prog_6_method_4_code 109 = .ok (.istore 5, 2) := by decide +kernel
theorem dFi_lookBehind_111 : decode prog_6_method_4_code 111 = .ok (.iconst 0, 1) := by decide +kernel
theorem dFi_lookBehind_112 : decode prog_6_method_4_code 112 = .ok (.istore 6, 2) := by decide +kernel
theorem dFi_lookBehind_114 : decode prog_6_method_4_code 114 = .ok (.iconst 0, 1) := by decide +kernel
theorem dFi_lookBehind_115 : decode prog_6_method_4_code 115 = .ok (.istore 7, 2) := by decide +kernel
theorem dFi_lookBehind_117 : decode prog_6_method_4_code 117 = .ok (.iload 7, 2) := by decide +kernel
theorem dFi_lookBehind_119 : decode prog_6_method_4_code 119 = .ok (.bipush 24, 2) := by decide +kernel
theorem dFi_lookBehind_121 : decode prog_6_method_4_code 121 = .ok (.if_icmp .ge 87, 3) := by decide +kernel
theorem dFi_lookBehind_124 : decode prog_6_method_4_code 124 = .ok (.aload_n 0, 1) := by decide +kernel
theorem dFi_lookBehind_125 : decode prog_6_method_4_code 125 = .ok (.getfield 25, 3) := by decide +kernel
theorem dFi_lookBehind_128 : decode prog_6_method_4_code 128 = .ok (.iload 4, 2) := by decide +kernel
theorem dFi_lookBehind_130 : decode prog_6_method_4_code 130 = .ok (.iload 7, 2) := by decide +kernel
theorem dFi_lookBehind_132 : decode prog_6_method_4_code 132 = .ok (.iadd, 1) := by decide +kernel
theorem dFi_lookBehind_133 : decode prog_6_method_4_code 133 = .ok (.iaload, 1) := by decide +kernel
theorem dFi_lookBehind_134 : decode prog_6_method_4_code 134 = .ok (.aload_n 0, 1) := by decide +kernel
theorem dFi_lookBehind_135 : decode prog_6_method_4_code 135 = .ok (.getfield 22, 3) := by decide +kernel
theorem dFi_lookBehind_138 : decode prog_6_method_4_code 138 = .ok (.iload_n 2, 1) := by decide +kernel
theorem dFi_lookBehind_139 : decode prog_6_method_4_code 139 = .ok (.bipush 24, 2) := by decide +kernel
theorem dFi_lookBehind_141 : decode prog_6_method_4_code 141 = .ok (.imul, 1) := by decide +kernel
theorem dFi_lookBehind_142 : decode prog_6_method_4_code 142 = .ok (.iload 7, 2) := by decide +kernel
theorem dFi_lookBehind_144 : decode prog_6_method_4_code 144 = .ok (.iadd, 1) := by decide +kernel
theorem dFi_lookBehind_145 : decode prog_6_method_4_code 145 = .ok (.iaload, 1) := by decide +kernel
theorem dFi_lookBehind_146 : decode prog_6_method_4_code 146 = .ok (.iadd, 1) := by decide +kernel
theorem dFi_lookBehind_147 : decode prog_6_method_4_code 147 = .ok (.istore 8, 2) := by decide +kernel
theorem dFi_lookBehind_149 : decode prog_6_method_4_code 149 = .ok (.iload 8, 2) := by decide +kernel
theorem dFi_lookBehind_151 : decode prog_6_method_4_code 151 = .ok (.iload 5, 2) := by decide +kernel
theorem dFi_lookBehind_153 : decode prog_6_method_4_code 153 = .ok (.if_icmp .ge 22, 3) := by decide +kernel
theorem dFi_lookBehind_156 : decode prog_6_method_4_code 156 = .ok (.iload 8, 2) := by decide +kernel
theorem dFi_lookBehind_158 : decode prog_6_method_4_code 158 = .ok (.istore 5, 2) := by decide +kernel
theorem dFi_lookBehind_160 : decode prog_6_method_4_code 160 = .ok (.aload_n 0, 1) := by decide +kernel
theorem dFi_lookBehind_161 : decode prog_6_method_4_code 161 = .ok (.getfield 28, 3) := by decide +kernel
theorem dFi_lookBehind_164 : decode prog_6_method_4_code 164 = .ok (.iload 4, 2) := by decide +kernel
theorem dFi_lookBehind_166 : decode prog_6_method_4_code 166 = .ok (.iload 7, 2) := by decide +kernel
theorem dFi_lookBehind_168 : decode prog_6_method_4_code 168 = .ok (.iadd, 1) := by decide +kernel
theorem dFi_lookBehind_169 : decode prog_6_method_4_code 169 = .ok (.iaload, 1) := by decide +kernel
theorem dFi_lookBehind_170 : decode prog_6_method_4_code 170 = .ok (.istore 6, 2) := by decide +kernel
theorem dFi_lookBehind_172 : decode prog_6_method_4_code 172 = .ok (.goto 30, 3) := by decide +kernel
theorem dFi_lookBehind_175 : decode prog_6_method_4_code 175 = .ok (.iload 8, 2) := by decide +kernel
theorem dFi_lookBehind_177 : decode prog_6_method_4_code 177 = .ok (.iload 5, 2) := by decide +kernel
theorem dFi_lookBehind_179 : decode prog_6_method_4_code 179 = .ok (.if_icmp .ne 23, 3) := by decide +kernel
theorem dFi_lookBehind_182 : decode prog_6_method_4_code 182 = .ok (.ldc 91, 2) := by decide +kernel
theorem dFi_lookBehind_184 : decode prog_6_method_4_code 184 = .ok (.iload 6, 2) := by decide +kernel
theorem dFi_lookBehind_186 : decode prog_6_method_4_code 186 = .ok (.aload_n 0, 1) := by decide +kernel
theorem dFi_lookBehind_187 : decode prog_6_method_4_code 187 = .ok (.getfield 28, 3) := by decide +kernel
theorem dFi_lookBehind_190 : decode prog_6_method_4_code 190 = .ok (.iload 4, 2) := by decide +kernel
theorem dFi_lookBehind_192 : decode prog_6_method_4_code 192 = .ok (.iload 7, 2) := by decide +kernel
theorem dFi_lookBehind_194 : decode prog_6_method_4_code 194 = .ok (.iadd, 1) := by decide +kernel
theorem dFi_lookBehind_195 : decode prog_6_method_4_code 195 = .ok (.iaload, 1) := by decide +kernel
theorem dFi_lookBehind_196 : decode prog_6_method_4_code 196 = .ok (.iadd, 1) := by decide +kernel
theorem dFi_lookBehind_197 : decode prog_6_method_4_code 197 = .ok (.invokestatic 92, 3) := by decide +kernel
theorem dFi_lookBehind_200 : decode prog_6_method_4_code 200 = .ok (.istore 6, 2) := by decide +kernel
theorem dFi_lookBehind_202 : decode prog_6_method_4_code 202 = .ok (.iinc 7 1, 3) := by decide +kernel
theorem dFi_lookBehind_205 : decode prog_6_method_4_code 205 = .ok (.goto (-88), 3) := by decide +kernel
theorem dFi_lookBehind_208 : decode prog_6_method_4_code 208 = .ok (.aload_n 0, 1) := by decide +kernel
theorem dFi_lookBehind_209 : decode prog_6_method_4_code 209 = .ok (.getfield 25, 3) := by decide +kernel
theorem dFi_lookBehind_212 : decode prog_6_method_4_code 212 = .ok (.iload_n 3, 1) := by decide +kernel
theorem dFi_lookBehind_213 : decode prog_6_method_4_code 213 = .ok (.aload_n 0, 1) := by decide +kernel
theorem dFi_lookBehind_214 : decode prog_6_method_4_code 214 = .ok (.getfield 15, 3) := by decide +kernel
theorem dFi_lookBehind_217 : decode prog_6_method_4_code 217 = .ok (.iload_n 3, 1) := by decide +kernel
theorem dFi_lookBehind_218 : decode prog_6_method_4_code 218 = .ok (.iaload, 1) := by decide +kernel
theorem dFi_lookBehind_219 : decode prog_6_method_4_code 219 = .ok (.iload 5, 2) := by decide +kernel
theorem dFi_lookBehind_221 : decode prog_6_method_4_code 221 = .ok (.invokestatic 87, 3) := by decide +kernel
theorem dFi_lookBehind_224 : decode prog_6_method_4_code 224 = .ok (.iastore, 1) := by decide +kernel
theorem dFi_lookBehind_225 : decode prog_6_method_4_code 225 = .ok (.aload_n 0, 1) := by decide +kernel
theorem dFi_lookBehind_226 : decode prog_6_method_4_code 226 = .ok (.getfield 28, 3) := by decide +kernel
theorem dFi_lookBehind_229 : decode prog_6_method_4_code 229 = .ok (.iload_n 3, 1) := by decide +kernel
theorem dFi_lookBehind_230 : decode prog_6_method_4_code 230 = .ok (.iload 6, 2) := by decide +kernel
theorem dFi_lookBehind_232 : decode prog_6_method_4_code 232 = .ok (.iastore, 1) := by decide +kernel
theorem dFi_lookBehind_233 : decode prog_6_method_4_code 233 = .ok (.return_, 1) := by decide +kernel
set_option maxRecDepth 100000 in
set_option maxHeartbeats 4000000 in
theorem tFi_lookBehind_J47 {X : KC} {q : Int × KM} (hX : kOk X 2 prog_6_method_4_code 9 "KeyPath$PathFinder") (hR : kRet X none q) (σ : KM) {Θ : (Int × KM) → Prop} (hT : ∀ z, Θ (z) → z = q) : kJ X 47 [lq 8, none, none, none, none, none, none, none, none] [] σ (fFi_lookBehind_J47 σ) Θ := by
  exact k_vret hX hR hT dFi_lookBehind_47
set_option maxRecDepth 100000 in
set_option maxHeartbeats 4000000 in
theorem tFi_lookBehind_J208 {X : KC} {q : Int × KM} (hX : kOk X 2 prog_6_method_4_code 9 "KeyPath$PathFinder") (hR : kRet X none q) (x3 x5 x6 : Int) (σ : KM) {Θ : (Int × KM) → Prop} (hT : ∀ z, Θ (z) → z = q) : kJ X 208 [lq 8, none, none, li x3, none, li x5, li x6, none, none] [] σ (fFi_lookBehind_J208 x3 x5 x6 σ) Θ := by
  refine k_aload_n hX dFi_lookBehind_208 rfl ?_
  refine gf_55 hX dFi_lookBehind_209 ?_
  refine k_iload_n hX dFi_lookBehind_212 rfl ?_
  refine k_aload_n hX dFi_lookBehind_213 rfl ?_
  refine gf_46 hX dFi_lookBehind_214 ?_
  refine k_iload_n hX dFi_lookBehind_217 rfl ?_
  refine k_iald hX (by decide) rfl dFi_lookBehind_218 rfl (fun y1 => ?_)
  refine k_iload hX dFi_lookBehind_219 rfl ?_
  refine cl_29 hX (by decide) (Nat.le_of_ble_eq_true rfl) dFi_lookBehind_221 (fun r3 τ2 => ?_)
  refine k_iast hX (by decide) rfl dFi_lookBehind_224 rfl (fun τ4 => ?_)
  refine k_aload_n hX dFi_lookBehind_225 rfl ?_
  refine gf_57 hX dFi_lookBehind_226 ?_
  refine k_iload_n hX dFi_lookBehind_229 rfl ?_
  refine k_iload hX dFi_lookBehind_230 rfl ?_
  refine k_iast hX (by decide) rfl dFi_lookBehind_232 rfl (fun τ5 => ?_)
  exact k_vret hX hR hT dFi_lookBehind_233
set_option maxRecDepth 100000 in
set_option maxHeartbeats 4000000 in
theorem tFi_lookBehind_J202 {X : KC} {q : Int × KM} (hX : kOk X 2 prog_6_method_4_code 9 "KeyPath$PathFinder") (hR : kRet X none q) (x2 x3 x4 x5 x6 x7 : Int) (σ : KM) {Θ : ((Int × Int × Int × KM) ⊕ (Int × KM)) → Prop} (hT : ∀ z, Θ (.inr (z)) → z = q) (hb0 : ∀ s : Int × Int × Int × KM, Θ (.inl s) → kW X 117 [lq 8, none, li x2, li x3, li x4, li s.1, li s.2.1, li s.2.2.1, none] [] s.2.2.2) : kJ X 202 [lq 8, none, li x2, li x3, li x4, li x5, li x6, li x7, none] [] σ (fFi_lookBehind_J202 x2 x3 x4 x5 x6 x7 σ) Θ := by
  refine k_iincL (Lf := fun y1 => [lq 8, none, li x2, li x3, li x4, li x5, li x6, li y1, none]) hX dFi_lookBehind_202 rfl (by decide) rfl (fun _ => rfl) (fun y1 => ?_)
  refine k_goto (tgt := 117) hX dFi_lookBehind_205 (by decide) ?_
  exact k_back (hb0 (x5, x6, y1, σ))
set_option maxRecDepth 100000 in
set_option maxHeartbeats 4000000 in
theorem tFi_lookBehind_B117 {X : KC} {q : Int × KM} (hX : kOk X 2 prog_6_method_4_code 9 "KeyPath$PathFinder") (hR : kRet X none q) (x2 x3 x4 x5 x6 x7 : Int) (σ : KM) {Θ : ((Int × Int × Int × KM) ⊕ (Int × KM)) → Prop} (hT : ∀ z, Θ (.inr (z)) → z = q) (hb0 : ∀ s : Int × Int × Int × KM, Θ (.inl s) → kW X 117 [lq 8, none, li x2, li x3, li x4, li s.1, li s.2.1, li s.2.2.1, none] [] s.2.2.2) : kJ X 117 [lq 8, none, li x2, li x3, li x4, li x5, li x6, li x7, none] [] σ (fFi_lookBehind_B117 x2 x3 x4 x5 x6 x7 σ) Θ := by
  refine k_iload hX dFi_lookBehind_117 rfl ?_
  refine k_bipush hX dFi_lookBehind_119 (by decide) ?_
  refine k_icmp_ge (tgt := 208) hX dFi_lookBehind_121 (by decide) ?_ ?_
  · refine k_exit ?_
    refine k_less [true, true, false, true, false, true, true, false, true] (L' := [lq 8, none, none, li x3, none, li x5, li x6, none, none]) rfl ?_
    exact tFi_lookBehind_J208 hX hR x3 x5 x6 σ hT
  · refine k_aload_n hX dFi_lookBehind_124 rfl ?_
    refine gf_55 hX dFi_lookBehind_125 ?_
    refine k_iload hX dFi_lookBehind_128 rfl ?_
    refine k_iload hX dFi_lookBehind_130 rfl ?_
    refine k_iadd hX dFi_lookBehind_132 ?_
    refine k_iald hX (by decide) rfl dFi_lookBehind_133 rfl (fun y1 => ?_)
    refine k_aload_n hX dFi_lookBehind_134 rfl ?_
    refine gf_63 hX dFi_lookBehind_135 ?_
    refine k_iload_n hX dFi_lookBehind_138 rfl ?_
    refine k_bipush hX dFi_lookBehind_139 (by decide) ?_
    refine k_imul hX dFi_lookBehind_141 ?_
    refine k_iload hX dFi_lookBehind_142 rfl ?_
    refine k_iadd hX dFi_lookBehind_144 ?_
    refine k_iald hX (by decide) rfl dFi_lookBehind_145 rfl (fun y2 => ?_)
    refine k_iadd hX dFi_lookBehind_146 ?_
    refine k_istoreL (Lf := fun y3 => [lq 8, none, li x2, li x3, li x4, li x5, li x6, li x7, li y3]) hX dFi_lookBehind_147 rfl (by decide) (fun _ => rfl) (fun y3 => ?_)
    refine k_iload hX dFi_lookBehind_149 rfl ?_
    refine k_iload hX dFi_lookBehind_151 rfl ?_
    refine k_icmp_ge (tgt := 175) hX dFi_lookBehind_153 (by decide) ?_ ?_
    · refine k_iload hX dFi_lookBehind_175 rfl ?_
      refine k_iload hX dFi_lookBehind_177 rfl ?_
      refine k_icmp_ne (tgt := 202) hX dFi_lookBehind_179 (by decide) ?_ ?_
      · refine k_less [true, true, true, true, true, true, true, true, false] (L' := [lq 8, none, li x2, li x3, li x4, li x5, li x6, li x7, none]) rfl ?_
        exact tFi_lookBehind_J202 hX hR x2 x3 x4 x5 x6 x7 σ hT hb0
      · refine k_ldc (v := 1000000) (w := 0) hX dFi_lookBehind_182 tw_722 ?_
        refine k_iload hX dFi_lookBehind_184 rfl ?_
        refine k_aload_n hX dFi_lookBehind_186 rfl ?_
        refine gf_57 hX dFi_lookBehind_187 ?_
        refine k_iload hX dFi_lookBehind_190 rfl ?_
        refine k_iload hX dFi_lookBehind_192 rfl ?_
        refine k_iadd hX dFi_lookBehind_194 ?_
        refine k_iald hX (by decide) rfl dFi_lookBehind_195 rfl (fun y4 => ?_)
        refine k_iadd hX dFi_lookBehind_196 ?_
        refine k_mmin hX (by decide) (Nat.le_of_ble_eq_true rfl) tw_723 tw_379 tw_12 tw_380 dFi_lookBehind_197 (fun y5 => ?_)
        refine k_istore (L' := [lq 8, none, li x2, li x3, li x4, li x5, li y5, li x7, li y3]) hX dFi_lookBehind_200 rfl (by decide) rfl ?_
        refine k_less [true, true, true, true, true, true, true, true, false] (L' := [lq 8, none, li x2, li x3, li x4, li x5, li y5, li x7, none]) rfl ?_
        exact tFi_lookBehind_J202 hX hR x2 x3 x4 x5 y5 x7 σ hT hb0
    · refine k_iload hX dFi_lookBehind_156 rfl ?_
      refine k_istore (L' := [lq 8, none, li x2, li x3, li x4, li y3, li x6, li x7, li y3]) hX dFi_lookBehind_158 rfl (by decide) rfl ?_
      refine k_aload_n hX dFi_lookBehind_160 rfl ?_
      refine gf_57 hX dFi_lookBehind_161 ?_
      refine k_iload hX dFi_lookBehind_164 rfl ?_
      refine k_iload hX dFi_lookBehind_166 rfl ?_
      refine k_iadd hX dFi_lookBehind_168 ?_
      refine k_iald hX (by decide) rfl dFi_lookBehind_169 rfl (fun y6 => ?_)
      refine k_istore (L' := [lq 8, none, li x2, li x3, li x4, li y3, li y6, li x7, li y3]) hX dFi_lookBehind_170 rfl (by decide) rfl ?_
      refine k_goto (tgt := 202) hX dFi_lookBehind_172 (by decide) ?_
      refine k_less [true, true, true, true, true, true, true, true, false] (L' := [lq 8, none, li x2, li x3, li x4, li y3, li y6, li x7, none]) rfl ?_
      exact tFi_lookBehind_J202 hX hR x2 x3 x4 y3 y6 x7 σ hT hb0
set_option maxRecDepth 100000 in
set_option maxHeartbeats 4000000 in
theorem tFi_lookBehind_L117 {X : KC} {q : Int × KM} (hX : kOk X 2 prog_6_method_4_code 9 "KeyPath$PathFinder") (hR : kRet X none q) (x2 x3 x4 x5 x6 x7 : Int) (σ : KM) {Θ : (Int × KM) → Prop} (hT : ∀ z, Θ (z) → z = q) : kJ X 117 [lq 8, none, li x2, li x3, li x4, li x5, li x6, li x7, none] [] σ (fFi_lookBehind_L117 x2 x3 x4 x5 x6 x7 σ) Θ :=
  k_iter (f := fun s => fFi_lookBehind_B117 x2 x3 x4 s.1 s.2.1 s.2.2.1 s.2.2.2) (Lf := fun s => [lq 8, none, li x2, li x3, li x4, li s.1, li s.2.1, li s.2.2.1, none]) (mf := fun s => s.2.2.2) (Θ := Θ) (fun s => tFi_lookBehind_B117 hX hR x2 x3 x4 s.1 s.2.1 s.2.2.1 s.2.2.2 hT (fun _ h9 => h9)) kF (x5, x6, x7, σ)
set_option maxRecDepth 100000 in
set_option maxHeartbeats 4000000 in
theorem sFi_lookBehind (x1 x2 : Int) (σ : KM) : kSem 2 (⟨"KeyPath$PathFinder", "lookBehind", "(II)V"⟩ : MethodName) prog_6_method_4_code 9 none [kr 8, ki x1, ki x2] σ (fFi_lookBehind x1 x2 σ) := by
  refine kSem.of (L0 := [lq 8, li x1, li x2, none, none, none, none, none, none]) (by decide) (Nat.le_of_ble_eq_true rfl) rfl (fun X q hX hR => ?_)
  have hT : ∀ z : Int × KM, (fun z => z = q) z → z = q := fun _ h => h
  refine k_iload_n hX dFi_lookBehind_0 rfl ?_
  refine k_bipush hX dFi_lookBehind_1 (by decide) ?_
  refine k_imul hX dFi_lookBehind_3 ?_
  refine k_iload_n hX dFi_lookBehind_4 rfl ?_
  refine k_iadd hX dFi_lookBehind_5 ?_
  refine k_istoreL_n (Lf := fun y1 => [lq 8, li x1, li x2, li y1, none, none, none, none, none]) hX dFi_lookBehind_6 rfl (by decide) (fun _ => rfl) (fun y1 => ?_)
  refine k_aload_n hX dFi_lookBehind_7 rfl ?_
  refine gf_55 hX dFi_lookBehind_8 ?_
  refine k_iload_n hX dFi_lookBehind_11 rfl ?_
  refine k_aload_n hX dFi_lookBehind_12 rfl ?_
  refine gf_46 hX dFi_lookBehind_13 ?_
  refine k_iload_n hX dFi_lookBehind_16 rfl ?_
  refine k_iald hX (by decide) rfl dFi_lookBehind_17 rfl (fun y2 => ?_)
  refine k_iast hX (by decide) rfl dFi_lookBehind_18 rfl (fun τ3 => ?_)
  refine k_aload_n hX dFi_lookBehind_19 rfl ?_
  refine gf_57 hX dFi_lookBehind_20 ?_
  refine k_iload_n hX dFi_lookBehind_23 rfl ?_
  refine k_iconst hX dFi_lookBehind_24 ?_
  refine k_iast hX (by decide) rfl dFi_lookBehind_25 rfl (fun τ4 => ?_)
  refine k_aload_n hX dFi_lookBehind_26 rfl ?_
  refine gf_46 hX dFi_lookBehind_27 ?_
  refine k_iload_n hX dFi_lookBehind_30 rfl ?_
  refine k_iald hX (by decide) rfl dFi_lookBehind_31 rfl (fun y5 => ?_)
  refine k_ldc (v := 1000000000) (w := 0) hX dFi_lookBehind_32 tw_708 ?_
  refine k_icmp_ge (tgt := 47) hX dFi_lookBehind_34 (by decide) ?_ ?_
  · refine k_less [true, false, false, false, true, true, true, true, true] (L' := [lq 8, none, none, none, none, none, none, none, none]) rfl ?_
    exact tFi_lookBehind_J47 hX hR τ4 hT
  · refine k_iload_n hX dFi_lookBehind_37 rfl ?_
    refine k_aload_n hX dFi_lookBehind_38 rfl ?_
    refine gf_43 hX dFi_lookBehind_39 ?_
    refine k_iconst hX dFi_lookBehind_42 ?_
    refine k_isub hX dFi_lookBehind_43 ?_
    refine k_icmp_ne (tgt := 48) hX dFi_lookBehind_44 (by decide) ?_ ?_
    · refine k_aload_n hX dFi_lookBehind_48 rfl ?_
      refine gf_44 hX dFi_lookBehind_49 ?_
      refine k_iload_n hX dFi_lookBehind_52 rfl ?_
      refine k_iconst hX dFi_lookBehind_53 ?_
      refine k_iadd hX dFi_lookBehind_54 ?_
      refine k_zald hX (by decide) rfl dFi_lookBehind_55 rfl (fun y6 => ?_)
      refine k_if_eq (tgt := 99) hX dFi_lookBehind_56 (by decide) ?_ ?_
      · refine k_iload_n hX dFi_lookBehind_99 rfl ?_
        refine k_iconst hX dFi_lookBehind_100 ?_
        refine k_iadd hX dFi_lookBehind_101 ?_
        refine k_bipush hX dFi_lookBehind_102 (by decide) ?_
        refine k_imul hX dFi_lookBehind_104 ?_
        refine k_istoreL (Lf := fun y7 => [lq 8, li x1, li x2, li y1, li y7, none, none, none, none]) hX dFi_lookBehind_105 rfl (by decide) (fun _ => rfl) (fun y7 => ?_)
        refine k_ldc (v := 1000000000) (w := 0) hX dFi_lookBehind_107 tw_708 ?_
        refine k_istore (L' := [lq 8, li x1, li x2, li y1, li y7, li 1000000000, none, none, none]) hX dFi_lookBehind_109 rfl (by decide) rfl ?_
        refine k_iconst hX dFi_lookBehind_111 ?_
        refine k_istore (L' := [lq 8, li x1, li x2, li y1, li y7, li 1000000000, li 0, none, none]) hX dFi_lookBehind_112 rfl (by decide) rfl ?_
        refine k_iconst hX dFi_lookBehind_114 ?_
        refine k_istore (L' := [lq 8, li x1, li x2, li y1, li y7, li 1000000000, li 0, li 0, none]) hX dFi_lookBehind_115 rfl (by decide) rfl ?_
        refine k_less [true, false, true, true, true, true, true, true, true] (L' := [lq 8, none, li x2, li y1, li y7, li 1000000000, li 0, li 0, none]) rfl ?_
        exact tFi_lookBehind_L117 hX hR x2 y1 y7 1000000000 0 0 τ4 hT
      · refine k_aload_n hX dFi_lookBehind_59 rfl ?_
        refine gf_55 hX dFi_lookBehind_60 ?_
        refine k_iload_n hX dFi_lookBehind_63 rfl ?_
        refine k_aload_n hX dFi_lookBehind_64 rfl ?_
        refine gf_46 hX dFi_lookBehind_65 ?_
        refine k_iload_n hX dFi_lookBehind_68 rfl ?_
        refine k_iald hX (by decide) rfl dFi_lookBehind_69 rfl (fun y8 => ?_)
        refine k_aload_n hX dFi_lookBehind_70 rfl ?_
        refine gf_55 hX dFi_lookBehind_71 ?_
        refine k_iload_n hX dFi_lookBehind_74 rfl ?_
        refine k_bipush hX dFi_lookBehind_75 (by decide) ?_
        refine k_iadd hX dFi_lookBehind_77 ?_
        refine k_iald hX (by decide) rfl dFi_lookBehind_78 rfl (fun y9 => ?_)
        refine cl_29 hX (by decide) (Nat.le_of_ble_eq_true rfl) dFi_lookBehind_79 (fun r11 τ10 => ?_)
        refine k_iast hX (by decide) rfl dFi_lookBehind_82 rfl (fun τ12 => ?_)
        refine k_aload_n hX dFi_lookBehind_83 rfl ?_
        refine gf_57 hX dFi_lookBehind_84 ?_
        refine k_iload_n hX dFi_lookBehind_87 rfl ?_
        refine k_aload_n hX dFi_lookBehind_88 rfl ?_
        refine gf_57 hX dFi_lookBehind_89 ?_
        refine k_iload_n hX dFi_lookBehind_92 rfl ?_
        refine k_bipush hX dFi_lookBehind_93 (by decide) ?_
        refine k_iadd hX dFi_lookBehind_95 ?_
        refine k_iald hX (by decide) rfl dFi_lookBehind_96 rfl (fun y13 => ?_)
        refine k_iast hX (by decide) rfl dFi_lookBehind_97 rfl (fun τ14 => ?_)
        exact k_vret hX hR hT dFi_lookBehind_98
    · refine k_less [true, false, false, false, true, true, true, true, true] (L' := [lq 8, none, none, none, none, none, none, none, none]) rfl ?_
      exact tFi_lookBehind_J47 hX hR τ4 hT
theorem cl_30 {X : KC} {d n : Nat} {cc : ByteArray} {pc : Nat} {L : List (Option KV)} {st : List KV} {σ : KM} {Z : Type} {Θ : Z → Prop} {G : Int → KM → Option Z} {x1 x2 : Int} (hX : kOk X d cc n "KeyPath$PathFinder") (hdd : 2 + 1 ≤ d) (hst : k_cat st ≤ 8) (hd : decode cc pc = .ok (.invokevirtual 71, 3)) (h : ∀ r τ, kJ X (pc + 3) L (st) τ (G r τ) Θ) : kJ X pc L (ki x2 :: ki x1 :: kr 8 :: st) σ (kCall (fFi_lookBehind x1 x2 σ) G) Θ :=
  k_callV (np := 2) (av := [ki x1, ki x2]) (ret := none) hX (by decide) rfl rfl rfl (sFi_lookBehind _ _ σ) ⟨⟨hdd, by decide⟩, tw_716, tw_8, by decide +kernel⟩ rfl tw_713 tw_715 ts_27 hst hd h
theorem dFi_solve_0 : decode prog_6_method_3_code 0 = .ok (.iconst 0, 1) := by decide +kernel
theorem dFi_solve_1 : decode prog_6_method_3_code 1 = .ok (.istore_n 3, 1) := by decide +kernel
theorem dFi_solve_2 : decode prog_6_method_3_code 2 = .ok (.iload_n 3, 1) := by decide +kernel
theorem dFi_solve_3 : decode prog_6_method_3_code 3 = .ok (.sipush 576, 3) := by decide +kernel
theorem dFi_solve_6 : decode prog_6_method_3_code 6 = .ok (.if_icmp .ge 23, 3) := by decide +kernel
theorem dFi_solve_9 : decode prog_6_method_3_code 9 = .ok (.aload_n 0, 1) := by decide +kernel
theorem dFi_solve_10 : decode prog_6_method_3_code 10 = .ok (.getfield 22, 3) := by decide +kernel
theorem dFi_solve_13 : decode prog_6_method_3_code 13 = .ok (.iload_n 3, 1) := by decide +kernel
theorem dFi_solve_14 : decode prog_6_method_3_code 14 = .ok (.iload_n 2, 1) := by decide +kernel
theorem dFi_solve_15 : decode prog_6_method_3_code 15 = .ok (.aload_n 1, 1) := by decide +kernel
theorem dFi_solve_16 : decode prog_6_method_3_code 16 = .ok (.getfield 66, 3) := by decide +kernel
theorem dFi_solve_19 : decode prog_6_method_3_code 19 = .ok (.iload_n 3, 1) := by decide +kernel
theorem dFi_solve_20 : decode prog_6_method_3_code 20 = .ok (.iaload, 1) := by decide +kernel
theorem dFi_solve_21 : decode prog_6_method_3_code 21 = .ok (.imul, 1) := by decide +kernel
theorem dFi_solve_22 : decode prog_6_method_3_code 22 = .ok (.iastore, 1) := by decide +kernel
theorem dFi_solve_23 : decode prog_6_method_3_code 23 = .ok (.iinc 3 1, 3) := by decide +kernel
theorem dFi_solve_26 : decode prog_6_method_3_code 26 = .ok (.goto (-24), 3) := by decide +kernel
theorem dFi_solve_29 : decode prog_6_method_3_code 29 = .ok (.aload_n 0, 1) := by decide +kernel
theorem dFi_solve_30 : decode prog_6_method_3_code 30 = .ok (.getfield 53, 3) := by decide +kernel
theorem dFi_solve_33 : decode prog_6_method_3_code 33 = .ok (.iconst 1, 1) := by decide +kernel
theorem dFi_solve_34 : decode prog_6_method_3_code 34 = .ok (.isub, 1) := by decide +kernel
theorem dFi_solve_35 : decode prog_6_method_3_code 35 = .ok (.istore_n 3, 1) := by decide +kernel
theorem dFi_solve_36 : decode prog_6_method_3_code 36 = .ok (.iload_n 3, 1) := by decide +kernel
theorem dFi_solve_37 : decode prog_6_method_3_code 37 = .ok (.ifCond .lt 32, 3) := by decide +kernel
theorem dFi_solve_40 : decode prog_6_method_3_code 40 = .ok (.iconst 0, 1) := by decide +kernel
theorem dFi_solve_41 : decode prog_6_method_3_code 41 = .ok (.istore 4, 2) := by decide +kernel
theorem dFi_solve_43 : decode prog_6_method_3_code 43 = .ok (.iload 4, 2) := by decide +kernel
theorem dFi_solve_45 : decode prog_6_method_3_code 45 = .ok (.bipush 24, 2) := by decide +kernel
theorem dFi_solve_47 : decode prog_6_method_3_code 47 = .ok (.if_icmp .ge 16, 3) := by decide +kernel
theorem dFi_solve_50 : decode prog_6_method_3_code 50 = .ok (.aload_n 0, 1) := by decide +kernel
theorem dFi_solve_51 : decode prog_6_method_3_code 51 = .ok (.iload_n 3, 1) := by decide +kernel
theorem dFi_solve_52 : decode prog_6_method_3_code 52 = .ok (.iload 4, 2) := by decide +kernel
theorem dFi_solve_54 : decode prog_6_method_3_code 54 = .ok (.invokevirtual 71, 3) := by decide +kernel
theorem dFi_solve_57 : decode prog_6_method_3_code 57 = .ok (.iinc 4 1, 3) := by decide +kernel
theorem dFi_solve_60 : decode prog_6_method_3_code 60 = .ok (.goto (-17), 3) := by decide +kernel
theorem dFi_solve_63 : decode prog_6_method_3_code 63 = .ok (.iinc 3 (-1), 3) := by decide +kernel
theorem dFi_solve_66 : decode prog_6_method_3_code 66 = .ok (.goto (-30), 3) := by decide +kernel
theorem dFi_solve_69 : decode prog_6_method_3_code 69 = .ok (.aload_n 0, 1) := by decide +kernel
theorem dFi_solve_70 : decode prog_6_method_3_code 70 = .ok (.invokevirtual 75, 3) := by decide +kernel
theorem dFi_solve_73 : decode prog_6_method_3_code 73 = .ok (.aload_n 0, 1) := by decide +kernel
theorem dFi_solve_74 : decode prog_6_method_3_code 74 = .ok (.getfield 78, 3) := by decide +kernel
theorem dFi_solve_77 : decode prog_6_method_3_code 77 = .ok (.ifCond .eq 7, 3) := by decide +kernel
theorem dFi_solve_80 : decode prog_6_method_3_code 80 = .ok (.aload_n 0, 1) := by decide +kernel
theorem dFi_solve_81 : decode prog_6_method_3_code 81 = .ok (.invokevirtual 81, 3) := by decide +kernel
theorem dFi_solve_84 : decode prog_6_method_3_code 84 = .ok (.aload_n 0, 1) := by decide +kernel
theorem dFi_solve_85 : decode prog_6_method_3_code 85 = .ok (.invokevirtual 84, 3) := by decide +kernel
theorem dFi_solve_88 : decode prog_6_method_3_code 88 = .ok (.return_, 1) := by decide +kernel
set_option maxRecDepth 100000 in
set_option maxHeartbeats 4000000 in
theorem tFi_solve_J84 {X : KC} {q : Int × KM} (hX : kOk X 3 prog_6_method_3_code 5 "KeyPath$PathFinder") (hR : kRet X none q) (σ : KM) {Θ : (Int × KM) → Prop} (hT : ∀ z, Θ (z) → z = q) : kJ X 84 [lq 8, lq 7, none, none, none] [] σ (fFi_solve_J84 σ) Θ := by
  refine k_aload_n hX dFi_solve_84 rfl ?_
  refine cl_25 hX (by decide) (Nat.le_of_ble_eq_true rfl) dFi_solve_85 (fun _ τ1 => ?_)
  exact k_vret hX hR hT dFi_solve_88
set_option maxRecDepth 100000 in
set_option maxHeartbeats 4000000 in
theorem tFi_solve_J69 {X : KC} {q : Int × KM} (hX : kOk X 3 prog_6_method_3_code 5 "KeyPath$PathFinder") (hR : kRet X none q) (σ : KM) {Θ : (Int × KM) → Prop} (hT : ∀ z, Θ (z) → z = q) : kJ X 69 [lq 8, lq 7, none, none, none] [] σ (fFi_solve_J69 σ) Θ := by
  refine k_aload_n hX dFi_solve_69 rfl ?_
  refine cl_24 hX (by decide) (Nat.le_of_ble_eq_true rfl) dFi_solve_70 (fun _ τ1 => ?_)
  refine k_aload_n hX dFi_solve_73 rfl ?_
  refine gf_58 hX dFi_solve_74 ?_
  refine k_if_eq (tgt := 84) hX dFi_solve_77 (by decide) ?_ ?_
  · exact tFi_solve_J84 hX hR τ1 hT
  · refine k_aload_n hX dFi_solve_80 rfl ?_
    refine cl_28 hX (by decide) (Nat.le_of_ble_eq_true rfl) dFi_solve_81 (fun _ τ2 => ?_)
    exact tFi_solve_J84 hX hR τ2 hT
set_option maxRecDepth 100000 in
set_option maxHeartbeats 4000000 in
theorem tFi_solve_J63 {X : KC} {q : Int × KM} (hX : kOk X 3 prog_6_method_3_code 5 "KeyPath$PathFinder") (hR : kRet X none q) (x3 : Int) (σ : KM) {Θ : ((Int × KM) ⊕ (Int × KM)) → Prop} (hT : ∀ z, Θ (.inr (z)) → z = q) (hb0 : ∀ s : Int × KM, Θ (.inl s) → kW X 36 [lq 8, lq 7, none, li s.1, none] [] s.2) : kJ X 63 [lq 8, lq 7, none, li x3, none] [] σ (fFi_solve_J63 x3 σ) Θ := by
  refine k_iincL (Lf := fun y1 => [lq 8, lq 7, none, li y1, none]) hX dFi_solve_63 rfl (by decide) rfl (fun _ => rfl) (fun y1 => ?_)
  refine k_goto (tgt := 36) hX dFi_solve_66 (by decide) ?_
  exact k_back (hb0 (y1, σ))
set_option maxRecDepth 100000 in
set_option maxHeartbeats 4000000 in
theorem tFi_solve_B43 {X : KC} {q : Int × KM} (hX : kOk X 3 prog_6_method_3_code 5 "KeyPath$PathFinder") (hR : kRet X none q) (x3 x4 : Int) (σ : KM) {Θ : ((Int × KM) ⊕ ((Int × KM) ⊕ (Int × KM))) → Prop} (hT : ∀ z, Θ (.inr (.inr (z))) → z = q) (hb0 : ∀ s : Int × KM, Θ (.inl s) → kW X 43 [lq 8, lq 7, none, li x3, li s.1] [] s.2) (hb1 : ∀ s : Int × KM, Θ (.inr (.inl s)) → kW X 36 [lq 8, lq 7, none, li s.1, none] [] s.2) : kJ X 43 [lq 8, lq 7, none, li x3, li x4] [] σ (fFi_solve_B43 x3 x4 σ) Θ := by
  refine k_iload hX dFi_solve_43 rfl ?_
  refine k_bipush hX dFi_solve_45 (by decide) ?_
  refine k_icmp_ge (tgt := 63) hX dFi_solve_47 (by decide) ?_ ?_
  · refine k_exit ?_
    refine k_less [true, true, true, true, false] (L' := [lq 8, lq 7, none, li x3, none]) rfl ?_
    exact tFi_solve_J63 hX hR x3 σ hT hb1
  · refine k_aload_n hX dFi_solve_50 rfl ?_
    refine k_iload_n hX dFi_solve_51 rfl ?_
    refine k_iload hX dFi_solve_52 rfl ?_
    refine cl_30 hX (by decide) (Nat.le_of_ble_eq_true rfl) dFi_solve_54 (fun _ τ1 => ?_)
    refine k_iincL (Lf := fun y2 => [lq 8, lq 7, none, li x3, li y2]) hX dFi_solve_57 rfl (by decide) rfl (fun _ => rfl) (fun y2 => ?_)
    refine k_goto (tgt := 43) hX dFi_solve_60 (by decide) ?_
    exact k_back (hb0 (y2, τ1))
set_option maxRecDepth 100000 in
set_option maxHeartbeats 4000000 in
theorem tFi_solve_L43 {X : KC} {q : Int × KM} (hX : kOk X 3 prog_6_method_3_code 5 "KeyPath$PathFinder") (hR : kRet X none q) (x3 x4 : Int) (σ : KM) {Θ : ((Int × KM) ⊕ (Int × KM)) → Prop} (hT : ∀ z, Θ (.inr (z)) → z = q) (hb0 : ∀ s : Int × KM, Θ (.inl s) → kW X 36 [lq 8, lq 7, none, li s.1, none] [] s.2) : kJ X 43 [lq 8, lq 7, none, li x3, li x4] [] σ (fFi_solve_L43 x3 x4 σ) Θ :=
  k_iter (f := fun s => fFi_solve_B43 x3 s.1 s.2) (Lf := fun s => [lq 8, lq 7, none, li x3, li s.1]) (mf := fun s => s.2) (Θ := Θ) (fun s => tFi_solve_B43 hX hR x3 s.1 s.2 hT (fun _ h9 => h9) hb0) kF (x4, σ)
set_option maxRecDepth 100000 in
set_option maxHeartbeats 4000000 in
theorem tFi_solve_B36 {X : KC} {q : Int × KM} (hX : kOk X 3 prog_6_method_3_code 5 "KeyPath$PathFinder") (hR : kRet X none q) (x3 : Int) (σ : KM) {Θ : ((Int × KM) ⊕ (Int × KM)) → Prop} (hT : ∀ z, Θ (.inr (z)) → z = q) (hb0 : ∀ s : Int × KM, Θ (.inl s) → kW X 36 [lq 8, lq 7, none, li s.1, none] [] s.2) : kJ X 36 [lq 8, lq 7, none, li x3, none] [] σ (fFi_solve_B36 x3 σ) Θ := by
  refine k_iload_n hX dFi_solve_36 rfl ?_
  refine k_if_lt (tgt := 69) hX dFi_solve_37 (by decide) ?_ ?_
  · refine k_exit ?_
    refine k_less [true, true, true, false, true] (L' := [lq 8, lq 7, none, none, none]) rfl ?_
    exact tFi_solve_J69 hX hR σ hT
  · refine k_iconst hX dFi_solve_40 ?_
    refine k_istore (L' := [lq 8, lq 7, none, li x3, li 0]) hX dFi_solve_41 rfl (by decide) rfl ?_
    exact tFi_solve_L43 hX hR x3 0 σ hT hb0
set_option maxRecDepth 100000 in
set_option maxHeartbeats 4000000 in
theorem tFi_solve_L36 {X : KC} {q : Int × KM} (hX : kOk X 3 prog_6_method_3_code 5 "KeyPath$PathFinder") (hR : kRet X none q) (x3 : Int) (σ : KM) {Θ : (Int × KM) → Prop} (hT : ∀ z, Θ (z) → z = q) : kJ X 36 [lq 8, lq 7, none, li x3, none] [] σ (fFi_solve_L36 x3 σ) Θ :=
  k_iter (f := fun s => fFi_solve_B36 s.1 s.2) (Lf := fun s => [lq 8, lq 7, none, li s.1, none]) (mf := fun s => s.2) (Θ := Θ) (fun s => tFi_solve_B36 hX hR s.1 s.2 hT (fun _ h9 => h9)) kF (x3, σ)
set_option maxRecDepth 100000 in
set_option maxHeartbeats 4000000 in
theorem tFi_solve_J29 {X : KC} {q : Int × KM} (hX : kOk X 3 prog_6_method_3_code 5 "KeyPath$PathFinder") (hR : kRet X none q) (σ : KM) {Θ : (Int × KM) → Prop} (hT : ∀ z, Θ (z) → z = q) : kJ X 29 [lq 8, lq 7, none, none, none] [] σ (fFi_solve_J29 σ) Θ := by
  refine k_aload_n hX dFi_solve_29 rfl ?_
  refine gf_43 hX dFi_solve_30 ?_
  refine k_iconst hX dFi_solve_33 ?_
  refine k_isub hX dFi_solve_34 ?_
  refine k_istoreL_n (Lf := fun y1 => [lq 8, lq 7, none, li y1, none]) hX dFi_solve_35 rfl (by decide) (fun _ => rfl) (fun y1 => ?_)
  exact tFi_solve_L36 hX hR y1 σ hT
set_option maxRecDepth 100000 in
set_option maxHeartbeats 4000000 in
theorem tFi_solve_B2 {X : KC} {q : Int × KM} (hX : kOk X 3 prog_6_method_3_code 5 "KeyPath$PathFinder") (hR : kRet X none q) (x2 x3 : Int) (σ : KM) {Θ : ((Int × KM) ⊕ (Int × KM)) → Prop} (hT : ∀ z, Θ (.inr (z)) → z = q) (hb0 : ∀ s : Int × KM, Θ (.inl s) → kW X 2 [lq 8, lq 7, li x2, li s.1, none] [] s.2) : kJ X 2 [lq 8, lq 7, li x2, li x3, none] [] σ (fFi_solve_B2 x2 x3 σ) Θ := by
  refine k_iload_n hX dFi_solve_2 rfl ?_
  refine k_sipush hX dFi_solve_3 (by decide) ?_
  refine k_icmp_ge (tgt := 29) hX dFi_solve_6 (by decide) ?_ ?_
  · refine k_exit ?_
    refine k_less [true, true, false, false, true] (L' := [lq 8, lq 7, none, none, none]) rfl ?_
    exact tFi_solve_J29 hX hR σ hT
  · refine k_aload_n hX dFi_solve_9 rfl ?_
    refine gf_63 hX dFi_solve_10 ?_
    refine k_iload_n hX dFi_solve_13 rfl ?_
    refine k_iload_n hX dFi_solve_14 rfl ?_
    refine k_aload_n hX dFi_solve_15 rfl ?_
    refine gf_64 hX dFi_solve_16 ?_
    refine k_iload_n hX dFi_solve_19 rfl ?_
    refine k_iald hX (by decide) rfl dFi_solve_20 rfl (fun y1 => ?_)
    refine k_imul hX dFi_solve_21 ?_
    refine k_iast hX (by decide) rfl dFi_solve_22 rfl (fun τ2 => ?_)
    refine k_iincL (Lf := fun y3 => [lq 8, lq 7, li x2, li y3, none]) hX dFi_solve_23 rfl (by decide) rfl (fun _ => rfl) (fun y3 => ?_)
    refine k_goto (tgt := 2) hX dFi_solve_26 (by decide) ?_
    exact k_back (hb0 (y3, τ2))
set_option maxRecDepth 100000 in
set_option maxHeartbeats 4000000 in
theorem tFi_solve_L2 {X : KC} {q : Int × KM} (hX : kOk X 3 prog_6_method_3_code 5 "KeyPath$PathFinder") (hR : kRet X none q) (x2 x3 : Int) (σ : KM) {Θ : (Int × KM) → Prop} (hT : ∀ z, Θ (z) → z = q) : kJ X 2 [lq 8, lq 7, li x2, li x3, none] [] σ (fFi_solve_L2 x2 x3 σ) Θ :=
  k_iter (f := fun s => fFi_solve_B2 x2 s.1 s.2) (Lf := fun s => [lq 8, lq 7, li x2, li s.1, none]) (mf := fun s => s.2) (Θ := Θ) (fun s => tFi_solve_B2 hX hR x2 s.1 s.2 hT (fun _ h9 => h9)) kF (x3, σ)
set_option maxRecDepth 100000 in
set_option maxHeartbeats 4000000 in
theorem sFi_solve (x2 : Int) (σ : KM) : kSem 3 (⟨"KeyPath$PathFinder", "solve", "(LKeyPath$Net;I)V"⟩ : MethodName) prog_6_method_3_code 5 none [kr 8, kr 7, ki x2] σ (fFi_solve x2 σ) := by
  refine kSem.of (L0 := [lq 8, lq 7, li x2, none, none]) (by decide) (Nat.le_of_ble_eq_true rfl) rfl (fun X q hX hR => ?_)
  have hT : ∀ z : Int × KM, (fun z => z = q) z → z = q := fun _ h => h
  refine k_iconst hX dFi_solve_0 ?_
  refine k_istore_n (L' := [lq 8, lq 7, li x2, li 0, none]) hX dFi_solve_1 rfl (by decide) rfl ?_
  exact tFi_solve_L2 hX hR x2 0 σ hT
theorem cl_31 {X : KC} {d n : Nat} {cc : ByteArray} {pc : Nat} {L : List (Option KV)} {st : List KV} {σ : KM} {Z : Type} {Θ : Z → Prop} {G : Int → KM → Option Z} {x2 : Int} (hX : kOk X d cc n "KeyPath") (hdd : 3 + 1 ≤ d) (hst : k_cat st ≤ 8) (hd : decode cc pc = .ok (.invokevirtual 342, 3)) (h : ∀ r τ, kJ X (pc + 3) L (st) τ (G r τ) Θ) : kJ X pc L (ki x2 :: kr 7 :: kr 8 :: st) σ (kCall (fFi_solve x2 σ) G) Θ :=
  k_callV (np := 2) (av := [kr 7, ki x2]) (ret := none) hX (by decide) rfl rfl rfl (sFi_solve _ σ) ⟨⟨hdd, by decide⟩, tw_712, tw_8, by decide +kernel⟩ rfl tw_709 tw_710 tw_711 hst hd h
theorem cl_52 {X : KC} {d n : Nat} {cc : ByteArray} {pc : Nat} {L : List (Option KV)} {st : List KV} {σ : KM} {Z : Type} {Θ : Z → Prop} {G : Int → KM → Option Z} {x2 : Int} (hX : kOk X d cc n "KeyPath$PathFinder") (hdd : 3 + 1 ≤ d) (hst : k_cat st ≤ 8) (hd : decode cc pc = .ok (.invokevirtual 130, 3)) (h : ∀ r τ, kJ X (pc + 3) L (st) τ (G r τ) Θ) : kJ X pc L (ki x2 :: kr 7 :: kr 8 :: st) σ (kCall (fFi_solve x2 σ) G) Θ :=
  k_callV (np := 2) (av := [kr 7, ki x2]) (ret := none) hX (by decide) rfl rfl rfl (sFi_solve _ σ) ⟨⟨hdd, by decide⟩, tw_712, tw_8, by decide +kernel⟩ rfl tw_843 tw_710 tw_711 hst hd h
theorem dDe_forget_0 : decode prog_2_method_2_code 0 = .ok (.aload_n 0, 1) := by decide +kernel
theorem dDe_forget_1 : decode prog_2_method_2_code 1 = .ok (.iconst 0, 1) := by decide +kernel
theorem dDe_forget_2 : decode prog_2_method_2_code 2 = .ok (.putfield 24, 3) := by decide +kernel
theorem dDe_forget_5 : decode prog_2_method_2_code 5 = .ok (.aload_n 0, 1) := by decide +kernel
theorem dDe_forget_6 : decode prog_2_method_2_code 6 = .ok (.iconst 0, 1) := by decide +kernel
theorem dDe_forget_7 : decode prog_2_method_2_code 7 = .ok (.putfield 28, 3) := by decide +kernel
theorem dDe_forget_10 : decode prog_2_method_2_code 10 = .ok (.return_, 1) := by decide +kernel
set_option maxRecDepth 100000 in
set_option maxHeartbeats 4000000 in
theorem sDe_forget (σ : KM) : kSem 1 (⟨"KeyPath$Detours", "forget", "()V"⟩ : MethodName) prog_2_method_2_code 1 none [kr 9] σ (fDe_forget σ) := by
  refine kSem.of (L0 := [lq 9]) (by decide) (Nat.le_of_ble_eq_true rfl) rfl (fun X q hX hR => ?_)
  have hT : ∀ z : Int × KM, (fun z => z = q) z → z = q := fun _ h => h
  refine k_aload_n hX dDe_forget_0 rfl ?_
  refine k_iconst hX dDe_forget_1 ?_
  refine gz_68 hX dDe_forget_2 (fun τ1 => ?_)
  refine k_aload_n hX dDe_forget_5 rfl ?_
  refine k_iconst hX dDe_forget_6 ?_
  refine gz_69 hX dDe_forget_7 (fun τ2 => ?_)
  exact k_vret hX hR hT dDe_forget_10
theorem cl_32 {X : KC} {d n : Nat} {cc : ByteArray} {pc : Nat} {L : List (Option KV)} {st : List KV} {σ : KM} {Z : Type} {Θ : Z → Prop} {G : Int → KM → Option Z} (hX : kOk X d cc n "KeyPath") (hdd : 1 + 1 ≤ d) (hst : k_cat st ≤ 8) (hd : decode cc pc = .ok (.invokevirtual 349, 3)) (h : ∀ r τ, kJ X (pc + 3) L (st) τ (G r τ) Θ) : kJ X pc L (kr 9 :: st) σ (kCall (fDe_forget σ) G) Θ :=
  k_callV (np := 0) (av := []) (ret := none) hX (by decide) rfl rfl rfl (sDe_forget σ) ⟨⟨hdd, by decide⟩, tw_747, tw_10, by decide +kernel⟩ rfl tw_744 tw_745 tw_746 hst hd h
theorem dP_noPath_0 : decode prog_1_method_49_code 0 = .ok (.aload_n 0, 1) := by decide +kernel
theorem dP_noPath_1 : decode prog_1_method_49_code 1 = .ok (.getfield 54, 3) := by decide +kernel
theorem dP_noPath_4 : decode prog_1_method_49_code 4 = .ok (.getfield 331, 3) := by decide +kernel
theorem dP_noPath_7 : decode prog_1_method_49_code 7 = .ok (.ifCond .eq 70, 3) := by decide +kernel
theorem dP_noPath_10 : decode prog_1_method_49_code 10 = .ok (.aload_n 0, 1) := by decide +kernel
theorem dP_noPath_11 : decode prog_1_method_49_code 11 = .ok (.invokevirtual 212, 3) := by decide +kernel
theorem dP_noPath_14 : decode prog_1_method_49_code 14 = .ok (.aload_n 0, 1) := by decide +kernel
theorem dP_noPath_15 : decode prog_1_method_49_code 15 = .ok (.getfield 47, 3) := by decide +kernel
theorem dP_noPath_18 : decode prog_1_method_49_code 18 = .ok (.invokevirtual 224, 3) := by decide +kernel
theorem dP_noPath_21 : decode prog_1_method_49_code 21 = .ok (.aload_n 0, 1) := by decide +kernel
theorem dP_noPath_22 : decode prog_1_method_49_code 22 = .ok (.getfield 54, 3) := by decide +kernel
theorem dP_noPath_25 : decode prog_1_method_49_code 25 = .ok (.aload_n 0, 1) := by decide +kernel
theorem dP_noPath_26 : decode prog_1_method_49_code 26 = .ok (.getfield 33, 3) := by decide +kernel
theorem dP_noPath_29 : decode prog_1_method_49_code 29 = .ok (.aload_n 0, 1) := by decide +kernel
theorem dP_noPath_30 : decode prog_1_method_49_code 30 = .ok (.getfield 40, 3) := by decide +kernel
theorem dP_noPath_33 : decode prog_1_method_49_code 33 = .ok (.invokevirtual 339, 3) := by decide +kernel
theorem dP_noPath_36 : decode prog_1_method_49_code 36 = .ok (.aload_n 0, 1) := by decide +kernel
theorem dP_noPath_37 : decode prog_1_method_49_code 37 = .ok (.getfield 54, 3) := by decide +kernel
theorem dP_noPath_40 : decode prog_1_method_49_code 40 = .ok (.aload_n 0, 1) := by decide +kernel
theorem dP_noPath_41 : decode prog_1_method_49_code 41 = .ok (.getfield 47, 3) := by decide +kernel
theorem dP_noPath_44 : decode prog_1_method_49_code 44 = .ok (.aload_n 0, 1) := by decide +kernel
theorem dP_noPath_45 : decode prog_1_method_49_code 45 = .ok (.getfield 47, 3) := by decide +kernel
theorem dP_noPath_48 : decode prog_1_method_49_code 48 = .ok (.getfield 171, 3) := by decide +kernel
theorem dP_noPath_51 : decode prog_1_method_49_code 51 = .ok (.invokevirtual 342, 3) := by decide +kernel
theorem dP_noPath_54 : decode prog_1_method_49_code 54 = .ok (.aload_n 0, 1) := by decide +kernel
theorem dP_noPath_55 : decode prog_1_method_49_code 55 = .ok (.getfield 54, 3) := by decide +kernel
theorem dP_noPath_58 : decode prog_1_method_49_code 58 = .ok (.iconst 0, 1) := by decide +kernel
theorem dP_noPath_59 : decode prog_1_method_49_code 59 = .ok (.putfield 331, 3) := by decide +kernel
theorem dP_noPath_62 : decode prog_1_method_49_code 62 = .ok (.aload_n 0, 1) := by decide +kernel
theorem dP_noPath_63 : decode prog_1_method_49_code 63 = .ok (.getfield 54, 3) := by decide +kernel
theorem dP_noPath_66 : decode prog_1_method_49_code 66 = .ok (.iconst 0, 1) := by decide +kernel
theorem dP_noPath_67 : decode prog_1_method_49_code 67 = .ok (.putfield 346, 3) := by decide +kernel
theorem dP_noPath_70 : decode prog_1_method_49_code 70 = .ok (.aload_n 0, 1) := by decide +kernel
theorem dP_noPath_71 : decode prog_1_method_49_code 71 = .ok (.getfield 61, 3) := by decide +kernel
theorem dP_noPath_74 : decode prog_1_method_49_code 74 = .ok (.invokevirtual 349, 3) := by decide +kernel
theorem dP_noPath_77 : decode prog_1_method_49_code 77 = .ok (.aload_n 0, 1) := by decide +kernel
theorem dP_noPath_78 : decode prog_1_method_49_code 78 = .ok (.getfield 54, 3) := by decide +kernel
theorem dP_noPath_81 : decode prog_1_method_49_code 81 = .ok (.getfield 350, 3) := by decide +kernel
theorem dP_noPath_84 : decode prog_1_method_49_code 84 = .ok (.ifCond .ne 7, 3) := by decide +kernel
theorem dP_noPath_87 : decode prog_1_method_49_code 87 = .ok (.iconst 1, 1) := by decide +kernel
theorem dP_noPath_88 : decode prog_1_method_49_code 88 = .ok (.goto 4, 3) := by decide +kernel
theorem dP_noPath_91 : decode prog_1_method_49_code 91 = .ok (.iconst 0, 1) := by decide +kernel
theorem dP_noPath_92 : decode prog_1_method_49_code 92 = .ok (.ireturn, 1) := by decide +kernel
set_option maxRecDepth 100000 in
set_option maxHeartbeats 4000000 in
theorem tP_noPath_J92 {X : KC} {q : Int × KM} (hX : kOk X 7 prog_1_method_49_code 1 "KeyPath") (hR : kRet X (some .boolean) q) (t0 : Int) (σ : KM) {Θ : (Int × KM) → Prop} (hT : ∀ z, Θ (z) → z = q) : kJ X 92 [lq 0] [ki t0] σ (fP_noPath_J92 t0 σ) Θ := by
  exact k_zret hX hR hT dP_noPath_92
set_option maxRecDepth 100000 in
set_option maxHeartbeats 4000000 in
theorem tP_noPath_J77 {X : KC} {q : Int × KM} (hX : kOk X 7 prog_1_method_49_code 1 "KeyPath") (hR : kRet X (some .boolean) q) (σ : KM) {Θ : (Int × KM) → Prop} (hT : ∀ z, Θ (z) → z = q) : kJ X 77 [lq 0] [] σ (fP_noPath_J77 σ) Θ := by
  refine k_aload_n hX dP_noPath_77 rfl ?_
  refine gf_20 hX dP_noPath_78 ?_
  refine gf_22 hX dP_noPath_81 ?_
  refine k_if_ne (tgt := 91) hX dP_noPath_84 (by decide) ?_ ?_
  · refine k_iconst hX dP_noPath_91 ?_
    exact tP_noPath_J92 hX hR 0 σ hT
  · refine k_iconst hX dP_noPath_87 ?_
    refine k_goto (tgt := 92) hX dP_noPath_88 (by decide) ?_
    exact tP_noPath_J92 hX hR 1 σ hT
set_option maxRecDepth 100000 in
set_option maxHeartbeats 4000000 in
theorem sP_noPath (σ : KM) : kSem 7 (⟨"KeyPath", "noPath", "()Z"⟩ : MethodName) prog_1_method_49_code 1 (some .boolean) [kr 0] σ (fP_noPath σ) := by
  refine kSem.of (L0 := [lq 0]) (by decide) (Nat.le_of_ble_eq_true rfl) rfl (fun X q hX hR => ?_)
  have hT : ∀ z : Int × KM, (fun z => z = q) z → z = q := fun _ h => h
  refine k_aload_n hX dP_noPath_0 rfl ?_
  refine gf_20 hX dP_noPath_1 ?_
  refine gf_21 hX dP_noPath_4 ?_
  refine k_if_eq (tgt := 77) hX dP_noPath_7 (by decide) ?_ ?_
  · exact tP_noPath_J77 hX hR σ hT
  · refine k_aload_n hX dP_noPath_10 rfl ?_
    refine cl_14 hX (by decide) (Nat.le_of_ble_eq_true rfl) dP_noPath_11 (fun _ τ1 => ?_)
    refine k_aload_n hX dP_noPath_14 rfl ?_
    refine gf_32 hX dP_noPath_15 ?_
    refine cl_22 hX (by decide) (Nat.le_of_ble_eq_true rfl) dP_noPath_18 (fun _ τ2 => ?_)
    refine k_aload_n hX dP_noPath_21 rfl ?_
    refine gf_20 hX dP_noPath_22 ?_
    refine k_aload_n hX dP_noPath_25 rfl ?_
    refine gf_0 hX dP_noPath_26 ?_
    refine k_aload_n hX dP_noPath_29 rfl ?_
    refine gf_23 hX dP_noPath_30 ?_
    refine cl_23 hX (by decide) (Nat.le_of_ble_eq_true rfl) dP_noPath_33 (fun _ τ3 => ?_)
    refine k_aload_n hX dP_noPath_36 rfl ?_
    refine gf_20 hX dP_noPath_37 ?_
    refine k_aload_n hX dP_noPath_40 rfl ?_
    refine gf_32 hX dP_noPath_41 ?_
    refine k_aload_n hX dP_noPath_44 rfl ?_
    refine gf_32 hX dP_noPath_45 ?_
    refine gf_50 hX dP_noPath_48 ?_
    refine cl_31 hX (by decide) (Nat.le_of_ble_eq_true rfl) dP_noPath_51 (fun _ τ4 => ?_)
    refine k_aload_n hX dP_noPath_54 rfl ?_
    refine gf_20 hX dP_noPath_55 ?_
    refine k_iconst hX dP_noPath_58 ?_
    refine gz_65 hX dP_noPath_59 (fun τ5 => ?_)
    refine k_aload_n hX dP_noPath_62 rfl ?_
    refine gf_20 hX dP_noPath_63 ?_
    refine k_iconst hX dP_noPath_66 ?_
    refine gz_66 hX dP_noPath_67 (fun τ6 => ?_)
    refine k_aload_n hX dP_noPath_70 rfl ?_
    refine gf_67 hX dP_noPath_71 ?_
    refine cl_32 hX (by decide) (Nat.le_of_ble_eq_true rfl) dP_noPath_74 (fun _ τ7 => ?_)
    exact tP_noPath_J77 hX hR τ7 hT
theorem cl_33 {X : KC} {d n : Nat} {cc : ByteArray} {pc : Nat} {L : List (Option KV)} {st : List KV} {σ : KM} {Z : Type} {Θ : Z → Prop} {G : Int → KM → Option Z} (hX : kOk X d cc n "KeyPath") (hdd : 7 + 1 ≤ d) (hst : k_cat st ≤ 8) (hd : decode cc pc = .ok (.invokevirtual 233, 3)) (h : ∀ r τ, kJ X (pc + 3) L (ki r :: st) τ (G r τ) Θ) : kJ X pc L (kr 0 :: st) σ (kCall (fP_noPath σ) G) Θ :=
  k_callV (np := 0) (av := []) (ret := (some .boolean)) hX (by decide) rfl rfl rfl (sP_noPath σ) ⟨⟨hdd, by decide⟩, tw_703, tw_1, by decide +kernel⟩ rfl tw_700 tw_702 ts_26 hst hd h
theorem dWi_lastSounding_0 : decode prog_9_method_7_code 0 = .ok (.aload_n 0, 1) := by decide +kernel
theorem dWi_lastSounding_1 : decode prog_9_method_7_code 1 = .ok (.getfield 47, 3) := by decide +kernel
theorem dWi_lastSounding_4 : decode prog_9_method_7_code 4 = .ok (.iconst 1, 1) := by decide +kernel
theorem dWi_lastSounding_5 : decode prog_9_method_7_code 5 = .ok (.isub, 1) := by decide +kernel
theorem dWi_lastSounding_6 : decode prog_9_method_7_code 6 = .ok (.istore_n 1, 1) := by decide +kernel
theorem dWi_lastSounding_7 : decode prog_9_method_7_code 7 = .ok (.iload_n 1, 1) := by decide +kernel
theorem dWi_lastSounding_8 : decode prog_9_method_7_code 8 = .ok (.ifCond .lt 19, 3) := by decide +kernel
theorem dWi_lastSounding_11 : decode prog_9_method_7_code 11 = .ok (.aload_n 0, 1) := by decide +kernel
theorem dWi_lastSounding_12 : decode prog_9_method_7_code 12 = .ok (.getfield 25, 3) := by decide +kernel
theorem dWi_lastSounding_15 : decode prog_9_method_7_code 15 = .ok (.iload_n 1, 1) := by decide +kernel
theorem dWi_lastSounding_16 : decode prog_9_method_7_code 16 = .ok (.iaload, 1) := by decide +kernel
theorem dWi_lastSounding_17 : decode prog_9_method_7_code 17 = .ok (.iconst (-1), 1) := by decide +kernel
theorem dWi_lastSounding_18 : decode prog_9_method_7_code 18 = .ok (.if_icmp .ne 9, 3) := by decide +kernel
theorem dWi_lastSounding_21 : decode prog_9_method_7_code 21 = .ok (.iinc 1 (-1), 3) := by decide +kernel
theorem dWi_lastSounding_24 : decode prog_9_method_7_code 24 = .ok (.goto (-17), 3) := by decide +kernel
theorem dWi_lastSounding_27 : decode prog_9_method_7_code 27 = .ok (.iload_n 1, 1) := by decide +kernel
theorem dWi_lastSounding_28 : decode prog_9_method_7_code 28 = .ok (.ireturn, 1) := by decide +kernel
set_option maxRecDepth 100000 in
set_option maxHeartbeats 4000000 in
theorem tWi_lastSounding_J27 {X : KC} {q : Int × KM} (hX : kOk X 1 prog_9_method_7_code 2 "KeyPath$Windows") (hR : kRet X (some .int) q) (x1 : Int) (σ : KM) {Θ : (Int × KM) → Prop} (hT : ∀ z, Θ (z) → z = q) : kJ X 27 [lq 5, li x1] [] σ (fWi_lastSounding_J27 x1 σ) Θ := by
  refine k_iload_n hX dWi_lastSounding_27 rfl ?_
  exact k_iret hX hR hT dWi_lastSounding_28
set_option maxRecDepth 100000 in
set_option maxHeartbeats 4000000 in
theorem tWi_lastSounding_B7 {X : KC} {q : Int × KM} (hX : kOk X 1 prog_9_method_7_code 2 "KeyPath$Windows") (hR : kRet X (some .int) q) (x1 : Int) (σ : KM) {Θ : ((Int × KM) ⊕ (Int × KM)) → Prop} (hT : ∀ z, Θ (.inr (z)) → z = q) (hb0 : ∀ s : Int × KM, Θ (.inl s) → kW X 7 [lq 5, li s.1] [] s.2) : kJ X 7 [lq 5, li x1] [] σ (fWi_lastSounding_B7 x1 σ) Θ := by
  refine k_iload_n hX dWi_lastSounding_7 rfl ?_
  refine k_if_lt (tgt := 27) hX dWi_lastSounding_8 (by decide) ?_ ?_
  · refine k_exit ?_
    exact tWi_lastSounding_J27 hX hR x1 σ hT
  · refine k_aload_n hX dWi_lastSounding_11 rfl ?_
    refine gf_17 hX dWi_lastSounding_12 ?_
    refine k_iload_n hX dWi_lastSounding_15 rfl ?_
    refine k_iald hX (by decide) rfl dWi_lastSounding_16 rfl (fun y1 => ?_)
    refine k_iconst hX dWi_lastSounding_17 ?_
    refine k_icmp_ne (tgt := 27) hX dWi_lastSounding_18 (by decide) ?_ ?_
    · refine k_exit ?_
      exact tWi_lastSounding_J27 hX hR x1 σ hT
    · refine k_iincL (Lf := fun y2 => [lq 5, li y2]) hX dWi_lastSounding_21 rfl (by decide) rfl (fun _ => rfl) (fun y2 => ?_)
      refine k_goto (tgt := 7) hX dWi_lastSounding_24 (by decide) ?_
      exact k_back (hb0 (y2, σ))
set_option maxRecDepth 100000 in
set_option maxHeartbeats 4000000 in
theorem tWi_lastSounding_L7 {X : KC} {q : Int × KM} (hX : kOk X 1 prog_9_method_7_code 2 "KeyPath$Windows") (hR : kRet X (some .int) q) (x1 : Int) (σ : KM) {Θ : (Int × KM) → Prop} (hT : ∀ z, Θ (z) → z = q) : kJ X 7 [lq 5, li x1] [] σ (fWi_lastSounding_L7 x1 σ) Θ :=
  k_iter (f := fun s => fWi_lastSounding_B7 s.1 s.2) (Lf := fun s => [lq 5, li s.1]) (mf := fun s => s.2) (Θ := Θ) (fun s => tWi_lastSounding_B7 hX hR s.1 s.2 hT (fun _ h9 => h9)) kF (x1, σ)
set_option maxRecDepth 100000 in
set_option maxHeartbeats 4000000 in
theorem sWi_lastSounding (σ : KM) : kSem 1 (⟨"KeyPath$Windows", "lastSounding", "()I"⟩ : MethodName) prog_9_method_7_code 2 (some .int) [kr 5] σ (fWi_lastSounding σ) := by
  refine kSem.of (L0 := [lq 5, none]) (by decide) (Nat.le_of_ble_eq_true rfl) rfl (fun X q hX hR => ?_)
  have hT : ∀ z : Int × KM, (fun z => z = q) z → z = q := fun _ h => h
  refine k_aload_n hX dWi_lastSounding_0 rfl ?_
  refine gf_8 hX dWi_lastSounding_1 ?_
  refine k_iconst hX dWi_lastSounding_4 ?_
  refine k_isub hX dWi_lastSounding_5 ?_
  refine k_istoreL_n (Lf := fun y1 => [lq 5, li y1]) hX dWi_lastSounding_6 rfl (by decide) (fun _ => rfl) (fun y1 => ?_)
  exact tWi_lastSounding_L7 hX hR y1 σ hT
theorem cl_34 {X : KC} {d n : Nat} {cc : ByteArray} {pc : Nat} {L : List (Option KV)} {st : List KV} {σ : KM} {Z : Type} {Θ : Z → Prop} {G : Int → KM → Option Z} (hX : kOk X d cc n "KeyPath") (hdd : 1 + 1 ≤ d) (hst : k_cat st ≤ 8) (hd : decode cc pc = .ok (.invokevirtual 313, 3)) (h : ∀ r τ, kJ X (pc + 3) L (ki r :: st) τ (G r τ) Θ) : kJ X pc L (kr 5 :: st) σ (kCall (fWi_lastSounding σ) G) Θ :=
  k_callV (np := 0) (av := []) (ret := (some .int)) hX (by decide) rfl rfl rfl (sWi_lastSounding σ) ⟨⟨hdd, by decide⟩, tw_921, tw_5, by decide +kernel⟩ rfl tw_918 tw_919 tw_920 hst hd h
theorem dP_degreeOn_0 : decode prog_1_method_60_code 0 = .ok (.iload_n 0, 1) := by decide +kernel
theorem dP_degreeOn_1 : decode prog_1_method_60_code 1 = .ok (.bipush 12, 2) := by decide +kernel
theorem dP_degreeOn_3 : decode prog_1_method_60_code 3 = .ok (.iadd, 1) := by decide +kernel
theorem dP_degreeOn_4 : decode prog_1_method_60_code 4 = .ok (.iload_n 1, 1) := by decide +kernel
theorem dP_degreeOn_5 : decode prog_1_method_60_code 5 = .ok (.bipush 12, 2) := by decide +kernel
theorem dP_degreeOn_7 : decode prog_1_method_60_code 7 = .ok (.irem, 1) := by decide +kernel
theorem dP_degreeOn_8 : decode prog_1_method_60_code 8 = .ok (.isub, 1) := by decide +kernel
theorem dP_degreeOn_9 : decode prog_1_method_60_code 9 = .ok (.bipush 12, 2) := by decide +kernel
theorem dP_degreeOn_11 : decode prog_1_method_60_code 11 = .ok (.irem, 1) := by decide +kernel
theorem dP_degreeOn_12 : decode prog_1_method_60_code 12 = .ok (.istore_n 2, 1) := by decide +kernel
theorem dP_degreeOn_13 : decode prog_1_method_60_code 13 = .ok (.iconst 0, 1) := by decide +kernel
theorem dP_degreeOn_14 : decode prog_1_method_60_code 14 = .ok (.istore_n 3, 1) := by decide +kernel
theorem dP_degreeOn_15 : decode prog_1_method_60_code 15 = .ok (.iload_n 3, 1) := by decide +kernel
theorem dP_degreeOn_16 : decode prog_1_method_60_code 16 = .ok (.bipush 7, 2) := by decide +kernel
theorem dP_degreeOn_18 : decode prog_1_method_60_code 18 = .ok (.if_icmp .ge 30, 3) := by decide +kernel
theorem dP_degreeOn_21 : decode prog_1_method_60_code 21 = .ok (.getstatic 358, 3) := by decide +kernel
theorem dP_degreeOn_24 : decode prog_1_method_60_code 24 = .ok (.iload_n 1, 1) := by decide +kernel
theorem dP_degreeOn_25 : decode prog_1_method_60_code 25 = .ok (.invokestatic 307, 3) := by decide +kernel
theorem dP_degreeOn_28 : decode prog_1_method_60_code 28 = .ok (.bipush 7, 2) := by decide +kernel
theorem dP_degreeOn_30 : decode prog_1_method_60_code 30 = .ok (.imul, 1) := by decide +kernel
theorem dP_degreeOn_31 : decode prog_1_method_60_code 31 = .ok (.iload_n 3, 1) := by decide +kernel
theorem dP_degreeOn_32 : decode prog_1_method_60_code 32 = .ok (.iadd, 1) := by decide +kernel
theorem dP_degreeOn_33 : decode prog_1_method_60_code 33 = .ok (.iaload, 1) := by decide +kernel
theorem dP_degreeOn_34 : decode prog_1_method_60_code 34 = .ok (.iload_n 2, 1) := by decide +kernel
theorem dP_degreeOn_35 : decode prog_1_method_60_code 35 = .ok (.if_icmp .ne 7, 3) := by decide +kernel
theorem dP_degreeOn_38 : decode prog_1_method_60_code 38 = .ok (.iload_n 3, 1) := by decide +kernel
theorem dP_degreeOn_39 : decode prog_1_method_60_code 39 = .ok (.iconst 1, 1) := by decide +kernel
theorem dP_degreeOn_40 : decode prog_1_method_60_code 40 = .ok (.iadd, 1) := by decide +kernel
theorem dP_degreeOn_41 : decode prog_1_method_60_code 41 = .ok (.ireturn, 1) := by decide +kernel
theorem dP_degreeOn_42 : decode prog_1_method_60_code 42 = .ok (.iinc 3 1, 3) := by decide +kernel
theorem dP_degreeOn_45 : decode prog_1_method_60_code 45 = .ok (.goto (-30), 3) := by decide +kernel
theorem dP_degreeOn_48 : decode prog_1_method_60_code 48 = .ok (.iconst (-1), 1) := by decide +kernel
theorem dP_degreeOn_49 : decode prog_1_method_60_code 49 = .ok (.ireturn, 1) := by decide +kernel
set_option maxRecDepth 100000 in
set_option maxHeartbeats 4000000 in
theorem tP_degreeOn_J48 {X : KC} {q : Int × KM} (hX : kOk X 2 prog_1_method_60_code 4 "KeyPath") (hR : kRet X (some .int) q) (σ : KM) {Θ : (Int × KM) → Prop} (hT : ∀ z, Θ (z) → z = q) : kJ X 48 [none, none, none, none] [] σ (fP_degreeOn_J48 σ) Θ := by
  refine k_iconst hX dP_degreeOn_48 ?_
  exact k_iret hX hR hT dP_degreeOn_49
set_option maxRecDepth 100000 in
set_option maxHeartbeats 4000000 in
theorem tP_degreeOn_J38 {X : KC} {q : Int × KM} (hX : kOk X 2 prog_1_method_60_code 4 "KeyPath") (hR : kRet X (some .int) q) (x3 : Int) (σ : KM) {Θ : (Int × KM) → Prop} (hT : ∀ z, Θ (z) → z = q) : kJ X 38 [none, none, none, li x3] [] σ (fP_degreeOn_J38 x3 σ) Θ := by
  refine k_iload_n hX dP_degreeOn_38 rfl ?_
  refine k_iconst hX dP_degreeOn_39 ?_
  refine k_iadd hX dP_degreeOn_40 ?_
  exact k_iret hX hR hT dP_degreeOn_41
set_option maxRecDepth 100000 in
set_option maxHeartbeats 4000000 in
theorem tP_degreeOn_B15 {X : KC} {q : Int × KM} (hX : kOk X 2 prog_1_method_60_code 4 "KeyPath") (hR : kRet X (some .int) q) (x1 x2 x3 : Int) (σ : KM) {Θ : ((Int × KM) ⊕ (Int × KM)) → Prop} (hT : ∀ z, Θ (.inr (z)) → z = q) (hb0 : ∀ s : Int × KM, Θ (.inl s) → kW X 15 [none, li x1, li x2, li s.1] [] s.2) : kJ X 15 [none, li x1, li x2, li x3] [] σ (fP_degreeOn_B15 x1 x2 x3 σ) Θ := by
  refine k_iload_n hX dP_degreeOn_15 rfl ?_
  refine k_bipush hX dP_degreeOn_16 (by decide) ?_
  refine k_icmp_ge (tgt := 48) hX dP_degreeOn_18 (by decide) ?_ ?_
  · refine k_exit ?_
    refine k_less [true, false, false, false] (L' := [none, none, none, none]) rfl ?_
    exact tP_degreeOn_J48 hX hR σ hT
  · refine k_gets hX 0 (by decide) tw_870 dP_degreeOn_21 ?_
    refine k_iload_n hX dP_degreeOn_24 rfl ?_
    refine cl_35 hX (by decide) (Nat.le_of_ble_eq_true rfl) dP_degreeOn_25 (fun r2 τ1 => ?_)
    refine k_bipush hX dP_degreeOn_28 (by decide) ?_
    refine k_imul hX dP_degreeOn_30 ?_
    refine k_iload_n hX dP_degreeOn_31 rfl ?_
    refine k_iadd hX dP_degreeOn_32 ?_
    refine k_sald (c := 0) hX (by decide) dP_degreeOn_33 rfl (fun y3 => ?_)
    refine k_iload_n hX dP_degreeOn_34 rfl ?_
    refine k_icmp_ne (tgt := 42) hX dP_degreeOn_35 (by decide) ?_ ?_
    · refine k_iincL (Lf := fun y4 => [none, li x1, li x2, li y4]) hX dP_degreeOn_42 rfl (by decide) rfl (fun _ => rfl) (fun y4 => ?_)
      refine k_goto (tgt := 15) hX dP_degreeOn_45 (by decide) ?_
      exact k_back (hb0 (y4, τ1))
    · refine k_exit ?_
      refine k_less [true, false, false, true] (L' := [none, none, none, li x3]) rfl ?_
      exact tP_degreeOn_J38 hX hR x3 τ1 hT
set_option maxRecDepth 100000 in
set_option maxHeartbeats 4000000 in
theorem tP_degreeOn_L15 {X : KC} {q : Int × KM} (hX : kOk X 2 prog_1_method_60_code 4 "KeyPath") (hR : kRet X (some .int) q) (x1 x2 x3 : Int) (σ : KM) {Θ : (Int × KM) → Prop} (hT : ∀ z, Θ (z) → z = q) : kJ X 15 [none, li x1, li x2, li x3] [] σ (fP_degreeOn_L15 x1 x2 x3 σ) Θ :=
  k_iter (f := fun s => fP_degreeOn_B15 x1 x2 s.1 s.2) (Lf := fun s => [none, li x1, li x2, li s.1]) (mf := fun s => s.2) (Θ := Θ) (fun s => tP_degreeOn_B15 hX hR x1 x2 s.1 s.2 hT (fun _ h9 => h9)) kF (x3, σ)
set_option maxRecDepth 100000 in
set_option maxHeartbeats 4000000 in
theorem sP_degreeOn (x0 x1 : Int) (σ : KM) : kSem 2 (⟨"KeyPath", "degreeOn", "(II)I"⟩ : MethodName) prog_1_method_60_code 4 (some .int) [ki x0, ki x1] σ (fP_degreeOn x0 x1 σ) := by
  refine kSem.of (L0 := [li x0, li x1, none, none]) (by decide) (Nat.le_of_ble_eq_true rfl) rfl (fun X q hX hR => ?_)
  have hT : ∀ z : Int × KM, (fun z => z = q) z → z = q := fun _ h => h
  refine k_iload_n hX dP_degreeOn_0 rfl ?_
  refine k_bipush hX dP_degreeOn_1 (by decide) ?_
  refine k_iadd hX dP_degreeOn_3 ?_
  refine k_iload_n hX dP_degreeOn_4 rfl ?_
  refine k_bipush hX dP_degreeOn_5 (by decide) ?_
  refine k_irem hX dP_degreeOn_7 (fun y1 => ?_)
  refine k_isub hX dP_degreeOn_8 ?_
  refine k_bipush hX dP_degreeOn_9 (by decide) ?_
  refine k_irem hX dP_degreeOn_11 (fun y2 => ?_)
  refine k_istore_n (L' := [li x0, li x1, li y2, none]) hX dP_degreeOn_12 rfl (by decide) rfl ?_
  refine k_iconst hX dP_degreeOn_13 ?_
  refine k_istore_n (L' := [li x0, li x1, li y2, li 0]) hX dP_degreeOn_14 rfl (by decide) rfl ?_
  refine k_less [false, true, true, true] (L' := [none, li x1, li y2, li 0]) rfl ?_
  exact tP_degreeOn_L15 hX hR x1 y2 0 σ hT
theorem cl_36 {X : KC} {d n : Nat} {cc : ByteArray} {pc : Nat} {L : List (Option KV)} {st : List KV} {σ : KM} {Z : Type} {Θ : Z → Prop} {G : Int → KM → Option Z} {x0 x1 : Int} (hX : kOk X d cc n "KeyPath") (hdd : 2 + 1 ≤ d) (hst : k_cat st ≤ 8) (hd : decode cc pc = .ok (.invokestatic 310, 3)) (h : ∀ r τ, kJ X (pc + 3) L (ki r :: st) τ (G r τ) Θ) : kJ X pc L (ki x1 :: ki x0 :: st) σ (kCall (fP_degreeOn x0 x1 σ) G) Θ :=
  k_callS (np := 2) (av := [ki x0, ki x1]) (ret := (some .int)) hX (sP_degreeOn _ _ σ) ⟨⟨hdd, by decide⟩, tw_869, tw_1, by decide +kernel⟩ rfl tw_867 tw_868 hst hd h
theorem dP_degreeOf_0 : decode prog_1_method_61_code 0 = .ok (.iload_n 0, 1) := by decide +kernel
theorem dP_degreeOf_1 : decode prog_1_method_61_code 1 = .ok (.iconst 3, 1) := by decide +kernel
theorem dP_degreeOf_2 : decode prog_1_method_61_code 2 = .ok (.irem, 1) := by decide +kernel
theorem dP_degreeOf_3 : decode prog_1_method_61_code 3 = .ok (.istore_n 2, 1) := by decide +kernel
theorem dP_degreeOf_4 : decode prog_1_method_61_code 4 = .ok (.iload_n 0, 1) := by decide +kernel
theorem dP_degreeOf_5 : decode prog_1_method_61_code 5 = .ok (.iconst 3, 1) := by decide +kernel
theorem dP_degreeOf_6 : decode prog_1_method_61_code 6 = .ok (.idiv, 1) := by decide +kernel
theorem dP_degreeOf_7 : decode prog_1_method_61_code 7 = .ok (.iload_n 1, 1) := by decide +kernel
theorem dP_degreeOf_8 : decode prog_1_method_61_code 8 = .ok (.invokestatic 310, 3) := by decide +kernel
theorem dP_degreeOf_11 : decode prog_1_method_61_code 11 = .ok (.istore_n 3, 1) := by decide +kernel
theorem dP_degreeOf_12 : decode prog_1_method_61_code 12 = .ok (.iload_n 3, 1) := by decide +kernel
theorem dP_degreeOf_13 : decode prog_1_method_61_code 13 = .ok (.iconst (-1), 1) := by decide +kernel
theorem dP_degreeOf_14 : decode prog_1_method_61_code 14 = .ok (.if_icmp .ne 5, 3) := by decide +kernel
theorem dP_degreeOf_17 : decode prog_1_method_61_code 17 = .ok (.iconst (-1), 1) := by decide +kernel
theorem dP_degreeOf_18 : decode prog_1_method_61_code 18 = .ok (.ireturn, 1) := by decide +kernel
theorem dP_degreeOf_19 : decode prog_1_method_61_code 19 = .ok (.iload_n 1, 1) := by decide +kernel
theorem dP_degreeOf_20 : decode prog_1_method_61_code 20 = .ok (.invokestatic 307, 3) := by decide +kernel
theorem dP_degreeOf_23 : decode prog_1_method_61_code 23 = .ok (.iconst 1, 1) := by decide +kernel
theorem dP_degreeOf_24 : decode prog_1_method_61_code 24 = .ok (.if_icmp .ne 16, 3) := by decide +kernel
theorem dP_degreeOf_27 : decode prog_1_method_61_code 27 = .ok (.iload_n 3, 1) := by decide +kernel
theorem dP_degreeOf_28 : decode prog_1_method_61_code 28 = .ok (.iconst 5, 1) := by decide +kernel
theorem dP_degreeOf_29 : decode prog_1_method_61_code 29 = .ok (.if_icmp .ne 11, 3) := by decide +kernel
theorem dP_degreeOf_32 : decode prog_1_method_61_code 32 = .ok (.iload_n 2, 1) := by decide +kernel
theorem dP_degreeOf_33 : decode prog_1_method_61_code 33 = .ok (.ifCond .ne 7, 3) := by decide +kernel
theorem dP_degreeOf_36 : decode prog_1_method_61_code 36 = .ok (.iconst 1, 1) := by decide +kernel
theorem dP_degreeOf_37 : decode prog_1_method_61_code 37 = .ok (.goto 4, 3) := by decide +kernel
theorem dP_degreeOf_40 : decode prog_1_method_61_code 40 = .ok (.iconst 0, 1) := by decide +kernel
theorem dP_degreeOf_41 : decode prog_1_method_61_code 41 = .ok (.istore 4, 2) := by decide +kernel
theorem dP_degreeOf_43 : decode prog_1_method_61_code 43 = .ok (.iload 4, 2) := by decide +kernel
theorem dP_degreeOf_45 : decode prog_1_method_61_code 45 = .ok (.ifCond .ne 22, 3) := by decide +kernel
theorem dP_degreeOf_48 : decode prog_1_method_61_code 48 = .ok (.getstatic 361, 3) := by decide +kernel
theorem dP_degreeOf_51 : decode prog_1_method_61_code 51 = .ok (.iload_n 1, 1) := by decide +kernel
theorem dP_degreeOf_52 : decode prog_1_method_61_code 52 = .ok (.invokestatic 307, 3) := by decide +kernel
theorem dP_degreeOf_55 : decode prog_1_method_61_code 55 = .ok (.bipush 7, 2) := by decide +kernel
theorem dP_degreeOf_57 : decode prog_1_method_61_code 57 = .ok (.imul, 1) := by decide +kernel
theorem dP_degreeOf_58 : decode prog_1_method_61_code 58 = .ok (.iload_n 3, 1) := by decide +kernel
theorem dP_degreeOf_59 : decode prog_1_method_61_code 59 = .ok (.iadd, 1) := by decide +kernel
theorem dP_degreeOf_60 : decode prog_1_method_61_code 60 = .ok (.iconst 1, 1) := by decide +kernel
theorem dP_degreeOf_61 : decode prog_1_method_61_code 61 = .ok (.isub, 1) := by decide +kernel
theorem dP_degreeOf_62 : decode prog_1_method_61_code 62 = .ok (.iaload, 1) := by decide +kernel
theorem dP_degreeOf_63 : decode prog_1_method_61_code 63 = .ok (.iload_n 2, 1) := by decide +kernel
theorem dP_degreeOf_64 : decode prog_1_method_61_code 64 = .ok (.if_icmp .ne 7, 3) := by decide +kernel
theorem dP_degreeOf_67 : decode prog_1_method_61_code 67 = .ok (.iload_n 3, 1) := by decide +kernel
theorem dP_degreeOf_68 : decode prog_1_method_61_code 68 = .ok (.goto 4, 3) := by decide +kernel
theorem dP_degreeOf_71 : decode prog_1_method_61_code 71 = .ok (.iconst (-1), 1) := by decide +kernel
theorem dP_degreeOf_72 : decode prog_1_method_61_code 72 = .ok (.ireturn, 1) := by decide +kernel
set_option maxRecDepth 100000 in
set_option maxHeartbeats 4000000 in
theorem tP_degreeOf_J72 {X : KC} {q : Int × KM} (hX : kOk X 3 prog_1_method_61_code 5 "KeyPath") (hR : kRet X (some .int) q) (t0 : Int) (σ : KM) {Θ : (Int × KM) → Prop} (hT : ∀ z, Θ (z) → z = q) : kJ X 72 [none, none, none, none, none] [ki t0] σ (fP_degreeOf_J72 t0 σ) Θ := by
  exact k_iret hX hR hT dP_degreeOf_72
set_option maxRecDepth 100000 in
set_option maxHeartbeats 4000000 in
theorem tP_degreeOf_J67 {X : KC} {q : Int × KM} (hX : kOk X 3 prog_1_method_61_code 5 "KeyPath") (hR : kRet X (some .int) q) (x3 : Int) (σ : KM) {Θ : (Int × KM) → Prop} (hT : ∀ z, Θ (z) → z = q) : kJ X 67 [none, none, none, li x3, none] [] σ (fP_degreeOf_J67 x3 σ) Θ := by
  refine k_iload_n hX dP_degreeOf_67 rfl ?_
  refine k_goto (tgt := 72) hX dP_degreeOf_68 (by decide) ?_
  refine k_less [true, true, true, false, true] (L' := [none, none, none, none, none]) rfl ?_
  exact tP_degreeOf_J72 hX hR x3 σ hT
set_option maxRecDepth 100000 in
set_option maxHeartbeats 4000000 in
theorem tP_degreeOf_J41 {X : KC} {q : Int × KM} (hX : kOk X 3 prog_1_method_61_code 5 "KeyPath") (hR : kRet X (some .int) q) (x1 x2 x3 t0 : Int) (σ : KM) {Θ : (Int × KM) → Prop} (hT : ∀ z, Θ (z) → z = q) : kJ X 41 [none, li x1, li x2, li x3, none] [ki t0] σ (fP_degreeOf_J41 x1 x2 x3 t0 σ) Θ := by
  refine k_istore (L' := [none, li x1, li x2, li x3, li t0]) hX dP_degreeOf_41 rfl (by decide) rfl ?_
  refine k_iload hX dP_degreeOf_43 rfl ?_
  refine k_if_ne (tgt := 67) hX dP_degreeOf_45 (by decide) ?_ ?_
  · refine k_less [true, false, false, true, false] (L' := [none, none, none, li x3, none]) rfl ?_
    exact tP_degreeOf_J67 hX hR x3 σ hT
  · refine k_gets hX 1 (by decide) tw_873 dP_degreeOf_48 ?_
    refine k_iload_n hX dP_degreeOf_51 rfl ?_
    refine cl_35 hX (by decide) (Nat.le_of_ble_eq_true rfl) dP_degreeOf_52 (fun r2 τ1 => ?_)
    refine k_bipush hX dP_degreeOf_55 (by decide) ?_
    refine k_imul hX dP_degreeOf_57 ?_
    refine k_iload_n hX dP_degreeOf_58 rfl ?_
    refine k_iadd hX dP_degreeOf_59 ?_
    refine k_iconst hX dP_degreeOf_60 ?_
    refine k_isub hX dP_degreeOf_61 ?_
    refine k_sald (c := 1) hX (by decide) dP_degreeOf_62 rfl (fun y3 => ?_)
    refine k_iload_n hX dP_degreeOf_63 rfl ?_
    refine k_icmp_ne (tgt := 71) hX dP_degreeOf_64 (by decide) ?_ ?_
    · refine k_iconst hX dP_degreeOf_71 ?_
      refine k_less [true, false, false, false, false] (L' := [none, none, none, none, none]) rfl ?_
      exact tP_degreeOf_J72 hX hR (-1) τ1 hT
    · refine k_less [true, false, false, true, false] (L' := [none, none, none, li x3, none]) rfl ?_
      exact tP_degreeOf_J67 hX hR x3 τ1 hT
set_option maxRecDepth 100000 in
set_option maxHeartbeats 4000000 in
theorem tP_degreeOf_J40 {X : KC} {q : Int × KM} (hX : kOk X 3 prog_1_method_61_code 5 "KeyPath") (hR : kRet X (some .int) q) (x1 x2 x3 : Int) (σ : KM) {Θ : (Int × KM) → Prop} (hT : ∀ z, Θ (z) → z = q) : kJ X 40 [none, li x1, li x2, li x3, none] [] σ (fP_degreeOf_J40 x1 x2 x3 σ) Θ := by
  refine k_iconst hX dP_degreeOf_40 ?_
  exact tP_degreeOf_J41 hX hR x1 x2 x3 0 σ hT
set_option maxRecDepth 100000 in
set_option maxHeartbeats 4000000 in
theorem sP_degreeOf (x0 x1 : Int) (σ : KM) : kSem 3 (⟨"KeyPath", "degreeOf", "(II)I"⟩ : MethodName) prog_1_method_61_code 5 (some .int) [ki x0, ki x1] σ (fP_degreeOf x0 x1 σ) := by
  refine kSem.of (L0 := [li x0, li x1, none, none, none]) (by decide) (Nat.le_of_ble_eq_true rfl) rfl (fun X q hX hR => ?_)
  have hT : ∀ z : Int × KM, (fun z => z = q) z → z = q := fun _ h => h
  refine k_iload_n hX dP_degreeOf_0 rfl ?_
  refine k_iconst hX dP_degreeOf_1 ?_
  refine k_irem hX dP_degreeOf_2 (fun y1 => ?_)
  refine k_istore_n (L' := [li x0, li x1, li y1, none, none]) hX dP_degreeOf_3 rfl (by decide) rfl ?_
  refine k_iload_n hX dP_degreeOf_4 rfl ?_
  refine k_iconst hX dP_degreeOf_5 ?_
  refine k_idiv hX dP_degreeOf_6 (fun y2 => ?_)
  refine k_iload_n hX dP_degreeOf_7 rfl ?_
  refine cl_36 hX (by decide) (Nat.le_of_ble_eq_true rfl) dP_degreeOf_8 (fun r4 τ3 => ?_)
  refine k_istore_n (L' := [li x0, li x1, li y1, li r4, none]) hX dP_degreeOf_11 rfl (by decide) rfl ?_
  refine k_iload_n hX dP_degreeOf_12 rfl ?_
  refine k_iconst hX dP_degreeOf_13 ?_
  refine k_icmp_ne (tgt := 19) hX dP_degreeOf_14 (by decide) ?_ ?_
  · refine k_iload_n hX dP_degreeOf_19 rfl ?_
    refine cl_35 hX (by decide) (Nat.le_of_ble_eq_true rfl) dP_degreeOf_20 (fun r6 τ5 => ?_)
    refine k_iconst hX dP_degreeOf_23 ?_
    refine k_icmp_ne (tgt := 40) hX dP_degreeOf_24 (by decide) ?_ ?_
    · refine k_less [false, true, true, true, true] (L' := [none, li x1, li y1, li r4, none]) rfl ?_
      exact tP_degreeOf_J40 hX hR x1 y1 r4 τ5 hT
    · refine k_iload_n hX dP_degreeOf_27 rfl ?_
      refine k_iconst hX dP_degreeOf_28 ?_
      refine k_icmp_ne (tgt := 40) hX dP_degreeOf_29 (by decide) ?_ ?_
      · refine k_less [false, true, true, true, true] (L' := [none, li x1, li y1, li r4, none]) rfl ?_
        exact tP_degreeOf_J40 hX hR x1 y1 r4 τ5 hT
      · refine k_iload_n hX dP_degreeOf_32 rfl ?_
        refine k_if_ne (tgt := 40) hX dP_degreeOf_33 (by decide) ?_ ?_
        · refine k_less [false, true, true, true, true] (L' := [none, li x1, li y1, li r4, none]) rfl ?_
          exact tP_degreeOf_J40 hX hR x1 y1 r4 τ5 hT
        · refine k_iconst hX dP_degreeOf_36 ?_
          refine k_goto (tgt := 41) hX dP_degreeOf_37 (by decide) ?_
          refine k_less [false, true, true, true, true] (L' := [none, li x1, li y1, li r4, none]) rfl ?_
          exact tP_degreeOf_J41 hX hR x1 y1 r4 1 τ5 hT
  · refine k_iconst hX dP_degreeOf_17 ?_
    exact k_iret hX hR hT dP_degreeOf_18
theorem cl_37 {X : KC} {d n : Nat} {cc : ByteArray} {pc : Nat} {L : List (Option KV)} {st : List KV} {σ : KM} {Z : Type} {Θ : Z → Prop} {G : Int → KM → Option Z} {x0 x1 : Int} (hX : kOk X d cc n "KeyPath") (hdd : 3 + 1 ≤ d) (hst : k_cat st ≤ 8) (hd : decode cc pc = .ok (.invokestatic 295, 3)) (h : ∀ r τ, kJ X (pc + 3) L (ki r :: st) τ (G r τ) Θ) : kJ X pc L (ki x1 :: ki x0 :: st) σ (kCall (fP_degreeOf x0 x1 σ) G) Θ :=
  k_callS (np := 2) (av := [ki x0, ki x1]) (ret := (some .int)) hX (sP_degreeOf _ _ σ) ⟨⟨hdd, by decide⟩, tw_866, tw_1, by decide +kernel⟩ rfl tw_880 tw_865 hst hd h
theorem cl_87 {X : KC} {d n : Nat} {cc : ByteArray} {pc : Nat} {L : List (Option KV)} {st : List KV} {σ : KM} {Z : Type} {Θ : Z → Prop} {G : Int → KM → Option Z} {x0 x1 : Int} (hX : kOk X d cc n "KeyPath$Windows") (hdd : 3 + 1 ≤ d) (hst : k_cat st ≤ 8) (hd : decode cc pc = .ok (.invokestatic 81, 3)) (h : ∀ r τ, kJ X (pc + 3) L (ki r :: st) τ (G r τ) Θ) : kJ X pc L (ki x1 :: ki x0 :: st) σ (kCall (fP_degreeOf x0 x1 σ) G) Θ :=
  k_callSN (np := 2) (av := [ki x0, ki x1]) (ret := (some .int)) hX (sP_degreeOf _ _ σ) ⟨⟨hdd, by decide⟩, tw_866, tw_1, by decide +kernel⟩ rfl (List.mem_of_getElem? (i := 17) rfl) tw_865 hst hd h
theorem dP_romanOf_0 : decode prog_1_method_51_code 0 = .ok (.aload_n 0, 1) := by decide +kernel
theorem dP_romanOf_1 : decode prog_1_method_51_code 1 = .ok (.getfield 33, 3) := by decide +kernel
theorem dP_romanOf_4 : decode prog_1_method_51_code 4 = .ok (.getfield 221, 3) := by decide +kernel
theorem dP_romanOf_7 : decode prog_1_method_51_code 7 = .ok (.iload_n 1, 1) := by decide +kernel
theorem dP_romanOf_8 : decode prog_1_method_51_code 8 = .ok (.iaload, 1) := by decide +kernel
theorem dP_romanOf_9 : decode prog_1_method_51_code 9 = .ok (.istore_n 2, 1) := by decide +kernel
theorem dP_romanOf_10 : decode prog_1_method_51_code 10 = .ok (.iload_n 2, 1) := by decide +kernel
theorem dP_romanOf_11 : decode prog_1_method_51_code 11 = .ok (.iconst (-1), 1) := by decide +kernel
theorem dP_romanOf_12 : decode prog_1_method_51_code 12 = .ok (.if_icmp .ne 7, 3) := by decide +kernel
theorem dP_romanOf_15 : decode prog_1_method_51_code 15 = .ok (.iconst (-1), 1) := by decide +kernel
theorem dP_romanOf_16 : decode prog_1_method_51_code 16 = .ok (.goto 16, 3) := by decide +kernel
theorem dP_romanOf_19 : decode prog_1_method_51_code 19 = .ok (.iload_n 2, 1) := by decide +kernel
theorem dP_romanOf_20 : decode prog_1_method_51_code 20 = .ok (.aload_n 0, 1) := by decide +kernel
theorem dP_romanOf_21 : decode prog_1_method_51_code 21 = .ok (.getfield 54, 3) := by decide +kernel
theorem dP_romanOf_24 : decode prog_1_method_51_code 24 = .ok (.getfield 240, 3) := by decide +kernel
theorem dP_romanOf_27 : decode prog_1_method_51_code 27 = .ok (.iload_n 1, 1) := by decide +kernel
theorem dP_romanOf_28 : decode prog_1_method_51_code 28 = .ok (.iaload, 1) := by decide +kernel
theorem dP_romanOf_29 : decode prog_1_method_51_code 29 = .ok (.invokestatic 295, 3) := by decide +kernel
theorem dP_romanOf_32 : decode prog_1_method_51_code 32 = .ok (.ireturn, 1) := by decide +kernel
set_option maxRecDepth 100000 in
set_option maxHeartbeats 4000000 in
theorem tP_romanOf_J32 {X : KC} {q : Int × KM} (hX : kOk X 4 prog_1_method_51_code 3 "KeyPath") (hR : kRet X (some .int) q) (t0 : Int) (σ : KM) {Θ : (Int × KM) → Prop} (hT : ∀ z, Θ (z) → z = q) : kJ X 32 [lq 0, none, none] [ki t0] σ (fP_romanOf_J32 t0 σ) Θ := by
  exact k_iret hX hR hT dP_romanOf_32
set_option maxRecDepth 100000 in
set_option maxHeartbeats 4000000 in
theorem sP_romanOf (x1 : Int) (σ : KM) : kSem 4 (⟨"KeyPath", "romanOf", "(I)I"⟩ : MethodName) prog_1_method_51_code 3 (some .int) [kr 0, ki x1] σ (fP_romanOf x1 σ) := by
  refine kSem.of (L0 := [lq 0, li x1, none]) (by decide) (Nat.le_of_ble_eq_true rfl) rfl (fun X q hX hR => ?_)
  have hT : ∀ z : Int × KM, (fun z => z = q) z → z = q := fun _ h => h
  refine k_aload_n hX dP_romanOf_0 rfl ?_
  refine gf_0 hX dP_romanOf_1 ?_
  refine gf_19 hX dP_romanOf_4 ?_
  refine k_iload_n hX dP_romanOf_7 rfl ?_
  refine k_iald hX (by decide) rfl dP_romanOf_8 rfl (fun y1 => ?_)
  refine k_istore_n (L' := [lq 0, li x1, li y1]) hX dP_romanOf_9 rfl (by decide) rfl ?_
  refine k_iload_n hX dP_romanOf_10 rfl ?_
  refine k_iconst hX dP_romanOf_11 ?_
  refine k_icmp_ne (tgt := 19) hX dP_romanOf_12 (by decide) ?_ ?_
  · refine k_iload_n hX dP_romanOf_19 rfl ?_
    refine k_aload_n hX dP_romanOf_20 rfl ?_
    refine gf_20 hX dP_romanOf_21 ?_
    refine gf_70 hX dP_romanOf_24 ?_
    refine k_iload_n hX dP_romanOf_27 rfl ?_
    refine k_iald hX (by decide) rfl dP_romanOf_28 rfl (fun y2 => ?_)
    refine cl_37 hX (by decide) (Nat.le_of_ble_eq_true rfl) dP_romanOf_29 (fun r4 τ3 => ?_)
    refine k_less [true, false, false] (L' := [lq 0, none, none]) rfl ?_
    exact tP_romanOf_J32 hX hR r4 τ3 hT
  · refine k_iconst hX dP_romanOf_15 ?_
    refine k_goto (tgt := 32) hX dP_romanOf_16 (by decide) ?_
    refine k_less [true, false, false] (L' := [lq 0, none, none]) rfl ?_
    exact tP_romanOf_J32 hX hR (-1) σ hT
theorem cl_38 {X : KC} {d n : Nat} {cc : ByteArray} {pc : Nat} {L : List (Option KV)} {st : List KV} {σ : KM} {Z : Type} {Θ : Z → Prop} {G : Int → KM → Option Z} {x1 : Int} (hX : kOk X d cc n "KeyPath") (hdd : 4 + 1 ≤ d) (hst : k_cat st ≤ 8) (hd : decode cc pc = .ok (.invokevirtual 301, 3)) (h : ∀ r τ, kJ X (pc + 3) L (ki r :: st) τ (G r τ) Θ) : kJ X pc L (ki x1 :: kr 0 :: st) σ (kCall (fP_romanOf x1 σ) G) Θ :=
  k_callV (np := 1) (av := [ki x1]) (ret := (some .int)) hX (by decide) rfl rfl rfl (sP_romanOf _ σ) ⟨⟨hdd, by decide⟩, tw_889, tw_1, by decide +kernel⟩ rfl tw_886 tw_888 ts_37 hst hd h
theorem dWi_otherChordAhead_0 : decode prog_9_method_8_code 0 = .ok (.iload_n 1, 1) := by decide +kernel
theorem dWi_otherChordAhead_1 : decode prog_9_method_8_code 1 = .ok (.iconst 1, 1) := by decide +kernel
theorem dWi_otherChordAhead_2 : decode prog_9_method_8_code 2 = .ok (.isub, 1) := by decide +kernel
theorem dWi_otherChordAhead_3 : decode prog_9_method_8_code 3 = .ok (.istore_n 3, 1) := by decide +kernel
theorem dWi_otherChordAhead_4 : decode prog_9_method_8_code 4 = .ok (.iload_n 3, 1) := by decide +kernel
theorem dWi_otherChordAhead_5 : decode prog_9_method_8_code 5 = .ok (.iload_n 2, 1) := by decide +kernel
theorem dWi_otherChordAhead_6 : decode prog_9_method_8_code 6 = .ok (.if_icmp .lt 36, 3) := by decide +kernel
theorem dWi_otherChordAhead_9 : decode prog_9_method_8_code 9 = .ok (.aload_n 0, 1) := by decide +kernel
theorem dWi_otherChordAhead_10 : decode prog_9_method_8_code 10 = .ok (.getfield 25, 3) := by decide +kernel
theorem dWi_otherChordAhead_13 : decode prog_9_method_8_code 13 = .ok (.iload_n 3, 1) := by decide +kernel
theorem dWi_otherChordAhead_14 : decode prog_9_method_8_code 14 = .ok (.iaload, 1) := by decide +kernel
theorem dWi_otherChordAhead_15 : decode prog_9_method_8_code 15 = .ok (.iconst (-1), 1) := by decide +kernel
theorem dWi_otherChordAhead_16 : decode prog_9_method_8_code 16 = .ok (.if_icmp .eq 20, 3) := by decide +kernel
theorem dWi_otherChordAhead_19 : decode prog_9_method_8_code 19 = .ok (.aload_n 0, 1) := by decide +kernel
theorem dWi_otherChordAhead_20 : decode prog_9_method_8_code 20 = .ok (.getfield 25, 3) := by decide +kernel
theorem dWi_otherChordAhead_23 : decode prog_9_method_8_code 23 = .ok (.iload_n 3, 1) := by decide +kernel
theorem dWi_otherChordAhead_24 : decode prog_9_method_8_code 24 = .ok (.iaload, 1) := by decide +kernel
theorem dWi_otherChordAhead_25 : decode prog_9_method_8_code 25 = .ok (.aload_n 0, 1) := by decide +kernel
theorem dWi_otherChordAhead_26 : decode prog_9_method_8_code 26 = .ok (.getfield 25, 3) := by decide +kernel
theorem dWi_otherChordAhead_29 : decode prog_9_method_8_code 29 = .ok (.iload_n 1, 1) := by decide +kernel
theorem dWi_otherChordAhead_30 : decode prog_9_method_8_code 30 = .ok (.iaload, 1) := by decide +kernel
theorem dWi_otherChordAhead_31 : decode prog_9_method_8_code 31 = .ok (.if_icmp .eq 5, 3) := by decide +kernel
theorem dWi_otherChordAhead_34 : decode prog_9_method_8_code 34 = .ok (.iload_n 3, 1) := by decide +kernel
theorem dWi_otherChordAhead_35 : decode prog_9_method_8_code 35 = .ok (.ireturn, 1) := by decide +kernel
theorem dWi_otherChordAhead_36 : decode prog_9_method_8_code 36 = .ok (.iinc 3 (-1), 3) := by decide +kernel
theorem dWi_otherChordAhead_39 : decode prog_9_method_8_code 39 = .ok (.goto (-35), 3) := by decide +kernel
theorem dWi_otherChordAhead_42 : decode prog_9_method_8_code 42 = .ok (.iconst (-1), 1) := by decide +kernel
theorem dWi_otherChordAhead_43 : decode prog_9_method_8_code 43 = .ok (.ireturn, 1) := by decide +kernel
set_option maxRecDepth 100000 in
set_option maxHeartbeats 4000000 in
theorem tWi_otherChordAhead_J42 {X : KC} {q : Int × KM} (hX : kOk X 1 prog_9_method_8_code 4 "KeyPath$Windows") (hR : kRet X (some .int) q) (σ : KM) {Θ : (Int × KM) → Prop} (hT : ∀ z, Θ (z) → z = q) : kJ X 42 [lq 5, none, none, none] [] σ (fWi_otherChordAhead_J42 σ) Θ := by
  refine k_iconst hX dWi_otherChordAhead_42 ?_
  exact k_iret hX hR hT dWi_otherChordAhead_43
set_option maxRecDepth 100000 in
set_option maxHeartbeats 4000000 in
theorem tWi_otherChordAhead_J36 {X : KC} {q : Int × KM} (hX : kOk X 1 prog_9_method_8_code 4 "KeyPath$Windows") (hR : kRet X (some .int) q) (x1 x2 x3 : Int) (σ : KM) {Θ : ((Int × KM) ⊕ (Int × KM)) → Prop} (hT : ∀ z, Θ (.inr (z)) → z = q) (hb0 : ∀ s : Int × KM, Θ (.inl s) → kW X 4 [lq 5, li x1, li x2, li s.1] [] s.2) : kJ X 36 [lq 5, li x1, li x2, li x3] [] σ (fWi_otherChordAhead_J36 x1 x2 x3 σ) Θ := by
  refine k_iincL (Lf := fun y1 => [lq 5, li x1, li x2, li y1]) hX dWi_otherChordAhead_36 rfl (by decide) rfl (fun _ => rfl) (fun y1 => ?_)
  refine k_goto (tgt := 4) hX dWi_otherChordAhead_39 (by decide) ?_
  exact k_back (hb0 (y1, σ))
set_option maxRecDepth 100000 in
set_option maxHeartbeats 4000000 in
theorem tWi_otherChordAhead_J34 {X : KC} {q : Int × KM} (hX : kOk X 1 prog_9_method_8_code 4 "KeyPath$Windows") (hR : kRet X (some .int) q) (x3 : Int) (σ : KM) {Θ : (Int × KM) → Prop} (hT : ∀ z, Θ (z) → z = q) : kJ X 34 [lq 5, none, none, li x3] [] σ (fWi_otherChordAhead_J34 x3 σ) Θ := by
  refine k_iload_n hX dWi_otherChordAhead_34 rfl ?_
  exact k_iret hX hR hT dWi_otherChordAhead_35
set_option maxRecDepth 100000 in
set_option maxHeartbeats 4000000 in
theorem tWi_otherChordAhead_B4 {X : KC} {q : Int × KM} (hX : kOk X 1 prog_9_method_8_code 4 "KeyPath$Windows") (hR : kRet X (some .int) q) (x1 x2 x3 : Int) (σ : KM) {Θ : ((Int × KM) ⊕ (Int × KM)) → Prop} (hT : ∀ z, Θ (.inr (z)) → z = q) (hb0 : ∀ s : Int × KM, Θ (.inl s) → kW X 4 [lq 5, li x1, li x2, li s.1] [] s.2) : kJ X 4 [lq 5, li x1, li x2, li x3] [] σ (fWi_otherChordAhead_B4 x1 x2 x3 σ) Θ := by
  refine k_iload_n hX dWi_otherChordAhead_4 rfl ?_
  refine k_iload_n hX dWi_otherChordAhead_5 rfl ?_
  refine k_icmp_lt (tgt := 42) hX dWi_otherChordAhead_6 (by decide) ?_ ?_
  · refine k_exit ?_
    refine k_less [true, false, false, false] (L' := [lq 5, none, none, none]) rfl ?_
    exact tWi_otherChordAhead_J42 hX hR σ hT
  · refine k_aload_n hX dWi_otherChordAhead_9 rfl ?_
    refine gf_17 hX dWi_otherChordAhead_10 ?_
    refine k_iload_n hX dWi_otherChordAhead_13 rfl ?_
    refine k_iald hX (by decide) rfl dWi_otherChordAhead_14 rfl (fun y1 => ?_)
    refine k_iconst hX dWi_otherChordAhead_15 ?_
    refine k_icmp_eq (tgt := 36) hX dWi_otherChordAhead_16 (by decide) ?_ ?_
    · exact tWi_otherChordAhead_J36 hX hR x1 x2 x3 σ hT hb0
    · refine k_aload_n hX dWi_otherChordAhead_19 rfl ?_
      refine gf_17 hX dWi_otherChordAhead_20 ?_
      refine k_iload_n hX dWi_otherChordAhead_23 rfl ?_
      refine k_iald hX (by decide) rfl dWi_otherChordAhead_24 rfl (fun y2 => ?_)
      refine k_aload_n hX dWi_otherChordAhead_25 rfl ?_
      refine gf_17 hX dWi_otherChordAhead_26 ?_
      refine k_iload_n hX dWi_otherChordAhead_29 rfl ?_
      refine k_iald hX (by decide) rfl dWi_otherChordAhead_30 rfl (fun y3 => ?_)
      refine k_icmp_eq (tgt := 36) hX dWi_otherChordAhead_31 (by decide) ?_ ?_
      · exact tWi_otherChordAhead_J36 hX hR x1 x2 x3 σ hT hb0
      · refine k_exit ?_
        refine k_less [true, false, false, true] (L' := [lq 5, none, none, li x3]) rfl ?_
        exact tWi_otherChordAhead_J34 hX hR x3 σ hT
set_option maxRecDepth 100000 in
set_option maxHeartbeats 4000000 in
theorem tWi_otherChordAhead_L4 {X : KC} {q : Int × KM} (hX : kOk X 1 prog_9_method_8_code 4 "KeyPath$Windows") (hR : kRet X (some .int) q) (x1 x2 x3 : Int) (σ : KM) {Θ : (Int × KM) → Prop} (hT : ∀ z, Θ (z) → z = q) : kJ X 4 [lq 5, li x1, li x2, li x3] [] σ (fWi_otherChordAhead_L4 x1 x2 x3 σ) Θ :=
  k_iter (f := fun s => fWi_otherChordAhead_B4 x1 x2 s.1 s.2) (Lf := fun s => [lq 5, li x1, li x2, li s.1]) (mf := fun s => s.2) (Θ := Θ) (fun s => tWi_otherChordAhead_B4 hX hR x1 x2 s.1 s.2 hT (fun _ h9 => h9)) kF (x3, σ)
set_option maxRecDepth 100000 in
set_option maxHeartbeats 4000000 in
theorem sWi_otherChordAhead (x1 x2 : Int) (σ : KM) : kSem 1 (⟨"KeyPath$Windows", "otherChordAhead", "(II)I"⟩ : MethodName) prog_9_method_8_code 4 (some .int) [kr 5, ki x1, ki x2] σ (fWi_otherChordAhead x1 x2 σ) := by
  refine kSem.of (L0 := [lq 5, li x1, li x2, none]) (by decide) (Nat.le_of_ble_eq_true rfl) rfl (fun X q hX hR => ?_)
  have hT : ∀ z : Int × KM, (fun z => z = q) z → z = q := fun _ h => h
  refine k_iload_n hX dWi_otherChordAhead_0 rfl ?_
  refine k_iconst hX dWi_otherChordAhead_1 ?_
  refine k_isub hX dWi_otherChordAhead_2 ?_
  refine k_istoreL_n (Lf := fun y1 => [lq 5, li x1, li x2, li y1]) hX dWi_otherChordAhead_3 rfl (by decide) (fun _ => rfl) (fun y1 => ?_)
  exact tWi_otherChordAhead_L4 hX hR x1 x2 y1 σ hT
theorem cl_39 {X : KC} {d n : Nat} {cc : ByteArray} {pc : Nat} {L : List (Option KV)} {st : List KV} {σ : KM} {Z : Type} {Θ : Z → Prop} {G : Int → KM → Option Z} {x1 x2 : Int} (hX : kOk X d cc n "KeyPath") (hdd : 1 + 1 ≤ d) (hst : k_cat st ≤ 8) (hd : decode cc pc = .ok (.invokevirtual 304, 3)) (h : ∀ r τ, kJ X (pc + 3) L (ki r :: st) τ (G r τ) Θ) : kJ X pc L (ki x2 :: ki x1 :: kr 5 :: st) σ (kCall (fWi_otherChordAhead x1 x2 σ) G) Θ :=
  k_callV (np := 2) (av := [ki x1, ki x2]) (ret := (some .int)) hX (by decide) rfl rfl rfl (sWi_otherChordAhead _ _ σ) ⟨⟨hdd, by decide⟩, tw_905, tw_5, by decide +kernel⟩ rfl tw_902 tw_903 tw_904 hst hd h
theorem dP_close_0 : decode prog_1_method_40_code 0 = .ok (.aload_n 0, 1) := by decide +kernel
theorem dP_close_1 : decode prog_1_method_40_code 1 = .ok (.invokevirtual 233, 3) := by decide +kernel
theorem dP_close_4 : decode prog_1_method_40_code 4 = .ok (.ifCond .eq 6, 3) := by decide +kernel
theorem dP_close_7 : decode prog_1_method_40_code 7 = .ok (.bipush (-5), 2) := by decide +kernel
theorem dP_close_9 : decode prog_1_method_40_code 9 = .ok (.ireturn, 1) := by decide +kernel
theorem dP_close_10 : decode prog_1_method_40_code 10 = .ok (.aload_n 0, 1) := by decide +kernel
theorem dP_close_11 : decode prog_1_method_40_code 11 = .ok (.getfield 33, 3) := by decide +kernel
theorem dP_close_14 : decode prog_1_method_40_code 14 = .ok (.invokevirtual 313, 3) := by decide +kernel
theorem dP_close_17 : decode prog_1_method_40_code 17 = .ok (.istore_n 1, 1) := by decide +kernel
theorem dP_close_18 : decode prog_1_method_40_code 18 = .ok (.iload_n 1, 1) := by decide +kernel
theorem dP_close_19 : decode prog_1_method_40_code 19 = .ok (.iconst (-1), 1) := by decide +kernel
theorem dP_close_20 : decode prog_1_method_40_code 20 = .ok (.if_icmp .ne 5, 3) := by decide +kernel
theorem dP_close_23 : decode prog_1_method_40_code 23 = .ok (.iconst (-1), 1) := by decide +kernel
theorem dP_close_24 : decode prog_1_method_40_code 24 = .ok (.ireturn, 1) := by decide +kernel
theorem dP_close_25 : decode prog_1_method_40_code 25 = .ok (.aload_n 0, 1) := by decide +kernel
theorem dP_close_26 : decode prog_1_method_40_code 26 = .ok (.iload_n 1, 1) := by decide +kernel
theorem dP_close_27 : decode prog_1_method_40_code 27 = .ok (.invokevirtual 301, 3) := by decide +kernel
theorem dP_close_30 : decode prog_1_method_40_code 30 = .ok (.istore_n 2, 1) := by decide +kernel
theorem dP_close_31 : decode prog_1_method_40_code 31 = .ok (.iload_n 2, 1) := by decide +kernel
theorem dP_close_32 : decode prog_1_method_40_code 32 = .ok (.iconst 5, 1) := by decide +kernel
theorem dP_close_33 : decode prog_1_method_40_code 33 = .ok (.if_icmp .ne 5, 3) := by decide +kernel
theorem dP_close_36 : decode prog_1_method_40_code 36 = .ok (.iconst 1, 1) := by decide +kernel
theorem dP_close_37 : decode prog_1_method_40_code 37 = .ok (.ireturn, 1) := by decide +kernel
theorem dP_close_38 : decode prog_1_method_40_code 38 = .ok (.aload_n 0, 1) := by decide +kernel
theorem dP_close_39 : decode prog_1_method_40_code 39 = .ok (.getfield 33, 3) := by decide +kernel
theorem dP_close_42 : decode prog_1_method_40_code 42 = .ok (.iload_n 1, 1) := by decide +kernel
theorem dP_close_43 : decode prog_1_method_40_code 43 = .ok (.iconst 0, 1) := by decide +kernel
theorem dP_close_44 : decode prog_1_method_40_code 44 = .ok (.invokevirtual 304, 3) := by decide +kernel
theorem dP_close_47 : decode prog_1_method_40_code 47 = .ok (.istore_n 3, 1) := by decide +kernel
theorem dP_close_48 : decode prog_1_method_40_code 48 = .ok (.iload_n 2, 1) := by decide +kernel
theorem dP_close_49 : decode prog_1_method_40_code 49 = .ok (.iconst 1, 1) := by decide +kernel
theorem dP_close_50 : decode prog_1_method_40_code 50 = .ok (.if_icmp .ne 8, 3) := by decide +kernel
theorem dP_close_53 : decode prog_1_method_40_code 53 = .ok (.iload_n 3, 1) := by decide +kernel
theorem dP_close_54 : decode prog_1_method_40_code 54 = .ok (.iconst (-1), 1) := by decide +kernel
theorem dP_close_55 : decode prog_1_method_40_code 55 = .ok (.if_icmp .ne 5, 3) := by decide +kernel
theorem dP_close_58 : decode prog_1_method_40_code 58 = .ok (.iconst 0, 1) := by decide +kernel
theorem dP_close_59 : decode prog_1_method_40_code 59 = .ok (.ireturn, 1) := by decide +kernel
theorem dP_close_60 : decode prog_1_method_40_code 60 = .ok (.aload_n 0, 1) := by decide +kernel
theorem dP_close_61 : decode prog_1_method_40_code 61 = .ok (.getfield 33, 3) := by decide +kernel
theorem dP_close_64 : decode prog_1_method_40_code 64 = .ok (.getfield 221, 3) := by decide +kernel
theorem dP_close_67 : decode prog_1_method_40_code 67 = .ok (.iload_n 3, 1) := by decide +kernel
theorem dP_close_68 : decode prog_1_method_40_code 68 = .ok (.iaload, 1) := by decide +kernel
theorem dP_close_69 : decode prog_1_method_40_code 69 = .ok (.aload_n 0, 1) := by decide +kernel
theorem dP_close_70 : decode prog_1_method_40_code 70 = .ok (.getfield 54, 3) := by decide +kernel
theorem dP_close_73 : decode prog_1_method_40_code 73 = .ok (.getfield 240, 3) := by decide +kernel
theorem dP_close_76 : decode prog_1_method_40_code 76 = .ok (.iload_n 1, 1) := by decide +kernel
theorem dP_close_77 : decode prog_1_method_40_code 77 = .ok (.iaload, 1) := by decide +kernel
theorem dP_close_78 : decode prog_1_method_40_code 78 = .ok (.invokestatic 295, 3) := by decide +kernel
theorem dP_close_81 : decode prog_1_method_40_code 81 = .ok (.iconst 5, 1) := by decide +kernel
theorem dP_close_82 : decode prog_1_method_40_code 82 = .ok (.if_icmp .ne 7, 3) := by decide +kernel
theorem dP_close_85 : decode prog_1_method_40_code 85 = .ok (.iconst 2, 1) := by decide +kernel
theorem dP_close_86 : decode prog_1_method_40_code 86 = .ok (.goto 4, 3) := by decide +kernel
theorem dP_close_89 : decode prog_1_method_40_code 89 = .ok (.iconst 0, 1) := by decide +kernel
theorem dP_close_90 : decode prog_1_method_40_code 90 = .ok (.ireturn, 1) := by decide +kernel
set_option maxRecDepth 100000 in
set_option maxHeartbeats 4000000 in
theorem tP_close_J58 {X : KC} {q : Int × KM} (hX : kOk X 8 prog_1_method_40_code 4 "KeyPath") (hR : kRet X (some .int) q) (σ : KM) {Θ : (Int × KM) → Prop} (hT : ∀ z, Θ (z) → z = q) : kJ X 58 [lq 0, none, none, none] [] σ (fP_close_J58 σ) Θ := by
  refine k_iconst hX dP_close_58 ?_
  exact k_iret hX hR hT dP_close_59
set_option maxRecDepth 100000 in
set_option maxHeartbeats 4000000 in
theorem tP_close_J90 {X : KC} {q : Int × KM} (hX : kOk X 8 prog_1_method_40_code 4 "KeyPath") (hR : kRet X (some .int) q) (t0 : Int) (σ : KM) {Θ : (Int × KM) → Prop} (hT : ∀ z, Θ (z) → z = q) : kJ X 90 [lq 0, none, none, none] [ki t0] σ (fP_close_J90 t0 σ) Θ := by
  exact k_iret hX hR hT dP_close_90
set_option maxRecDepth 100000 in
set_option maxHeartbeats 4000000 in
theorem sP_close (σ : KM) : kSem 8 (⟨"KeyPath", "close", "()I"⟩ : MethodName) prog_1_method_40_code 4 (some .int) [kr 0] σ (fP_close σ) := by
  refine kSem.of (L0 := [lq 0, none, none, none]) (by decide) (Nat.le_of_ble_eq_true rfl) rfl (fun X q hX hR => ?_)
  have hT : ∀ z : Int × KM, (fun z => z = q) z → z = q := fun _ h => h
  refine k_aload_n hX dP_close_0 rfl ?_
  refine cl_33 hX (by decide) (Nat.le_of_ble_eq_true rfl) dP_close_1 (fun r2 τ1 => ?_)
  refine k_if_eq (tgt := 10) hX dP_close_4 (by decide) ?_ ?_
  · refine k_aload_n hX dP_close_10 rfl ?_
    refine gf_0 hX dP_close_11 ?_
    refine cl_34 hX (by decide) (Nat.le_of_ble_eq_true rfl) dP_close_14 (fun r4 τ3 => ?_)
    refine k_istore_n (L' := [lq 0, li r4, none, none]) hX dP_close_17 rfl (by decide) rfl ?_
    refine k_iload_n hX dP_close_18 rfl ?_
    refine k_iconst hX dP_close_19 ?_
    refine k_icmp_ne (tgt := 25) hX dP_close_20 (by decide) ?_ ?_
    · refine k_aload_n hX dP_close_25 rfl ?_
      refine k_iload_n hX dP_close_26 rfl ?_
      refine cl_38 hX (by decide) (Nat.le_of_ble_eq_true rfl) dP_close_27 (fun r6 τ5 => ?_)
      refine k_istore_n (L' := [lq 0, li r4, li r6, none]) hX dP_close_30 rfl (by decide) rfl ?_
      refine k_iload_n hX dP_close_31 rfl ?_
      refine k_iconst hX dP_close_32 ?_
      refine k_icmp_ne (tgt := 38) hX dP_close_33 (by decide) ?_ ?_
      · refine k_aload_n hX dP_close_38 rfl ?_
        refine gf_0 hX dP_close_39 ?_
        refine k_iload_n hX dP_close_42 rfl ?_
        refine k_iconst hX dP_close_43 ?_
        refine cl_39 hX (by decide) (Nat.le_of_ble_eq_true rfl) dP_close_44 (fun r8 τ7 => ?_)
        refine k_istore_n (L' := [lq 0, li r4, li r6, li r8]) hX dP_close_47 rfl (by decide) rfl ?_
        refine k_iload_n hX dP_close_48 rfl ?_
        refine k_iconst hX dP_close_49 ?_
        refine k_icmp_ne (tgt := 58) hX dP_close_50 (by decide) ?_ ?_
        · refine k_less [true, false, false, false] (L' := [lq 0, none, none, none]) rfl ?_
          exact tP_close_J58 hX hR τ7 hT
        · refine k_iload_n hX dP_close_53 rfl ?_
          refine k_iconst hX dP_close_54 ?_
          refine k_icmp_ne (tgt := 60) hX dP_close_55 (by decide) ?_ ?_
          · refine k_aload_n hX dP_close_60 rfl ?_
            refine gf_0 hX dP_close_61 ?_
            refine gf_19 hX dP_close_64 ?_
            refine k_iload_n hX dP_close_67 rfl ?_
            refine k_iald hX (by decide) rfl dP_close_68 rfl (fun y9 => ?_)
            refine k_aload_n hX dP_close_69 rfl ?_
            refine gf_20 hX dP_close_70 ?_
            refine gf_70 hX dP_close_73 ?_
            refine k_iload_n hX dP_close_76 rfl ?_
            refine k_iald hX (by decide) rfl dP_close_77 rfl (fun y10 => ?_)
            refine cl_37 hX (by decide) (Nat.le_of_ble_eq_true rfl) dP_close_78 (fun r12 τ11 => ?_)
            refine k_iconst hX dP_close_81 ?_
            refine k_icmp_ne (tgt := 89) hX dP_close_82 (by decide) ?_ ?_
            · refine k_iconst hX dP_close_89 ?_
              refine k_less [true, false, false, false] (L' := [lq 0, none, none, none]) rfl ?_
              exact tP_close_J90 hX hR 0 τ11 hT
            · refine k_iconst hX dP_close_85 ?_
              refine k_goto (tgt := 90) hX dP_close_86 (by decide) ?_
              refine k_less [true, false, false, false] (L' := [lq 0, none, none, none]) rfl ?_
              exact tP_close_J90 hX hR 2 τ11 hT
          · refine k_less [true, false, false, false] (L' := [lq 0, none, none, none]) rfl ?_
            exact tP_close_J58 hX hR τ7 hT
      · refine k_iconst hX dP_close_36 ?_
        exact k_iret hX hR hT dP_close_37
    · refine k_iconst hX dP_close_23 ?_
      exact k_iret hX hR hT dP_close_24
  · refine k_bipush hX dP_close_7 (by decide) ?_
    exact k_iret hX hR hT dP_close_9
theorem dFi_lastOf_0 : decode prog_6_method_10_code 0 = .ok (.iload_n 1, 1) := by decide +kernel
theorem dFi_lastOf_1 : decode prog_6_method_10_code 1 = .ok (.iconst 1, 1) := by decide +kernel
theorem dFi_lastOf_2 : decode prog_6_method_10_code 2 = .ok (.iadd, 1) := by decide +kernel
theorem dFi_lastOf_3 : decode prog_6_method_10_code 3 = .ok (.aload_n 0, 1) := by decide +kernel
theorem dFi_lastOf_4 : decode prog_6_method_10_code 4 = .ok (.getfield 111, 3) := by decide +kernel
theorem dFi_lastOf_7 : decode prog_6_method_10_code 7 = .ok (.if_icmp .ge 16, 3) := by decide +kernel
theorem dFi_lastOf_10 : decode prog_6_method_10_code 10 = .ok (.aload_n 0, 1) := by decide +kernel
theorem dFi_lastOf_11 : decode prog_6_method_10_code 11 = .ok (.getfield 34, 3) := by decide +kernel
theorem dFi_lastOf_14 : decode prog_6_method_10_code 14 = .ok (.iload_n 1, 1) := by decide +kernel
theorem dFi_lastOf_15 : decode prog_6_method_10_code 15 = .ok (.iconst 1, 1) := by decide +kernel
theorem dFi_lastOf_16 : decode prog_6_method_10_code 16 = .ok (.iadd, 1) := by decide +kernel
theorem dFi_lastOf_17 : decode prog_6_method_10_code 17 = .ok (.iaload, 1) := by decide +kernel
theorem dFi_lastOf_18 : decode prog_6_method_10_code 18 = .ok (.iconst 1, 1) := by decide +kernel
theorem dFi_lastOf_19 : decode prog_6_method_10_code 19 = .ok (.isub, 1) := by decide +kernel
theorem dFi_lastOf_20 : decode prog_6_method_10_code 20 = .ok (.goto 9, 3) := by decide +kernel
theorem dFi_lastOf_23 : decode prog_6_method_10_code 23 = .ok (.aload_n 0, 1) := by decide +kernel
theorem dFi_lastOf_24 : decode prog_6_method_10_code 24 = .ok (.getfield 53, 3) := by decide +kernel
theorem dFi_lastOf_27 : decode prog_6_method_10_code 27 = .ok (.iconst 1, 1) := by decide +kernel
theorem dFi_lastOf_28 : decode prog_6_method_10_code 28 = .ok (.isub, 1) := by decide +kernel
theorem dFi_lastOf_29 : decode prog_6_method_10_code 29 = .ok (.ireturn, 1) := by decide +kernel
set_option maxRecDepth 100000 in
set_option maxHeartbeats 4000000 in
theorem tFi_lastOf_J29 {X : KC} {q : Int × KM} (hX : kOk X 1 prog_6_method_10_code 2 "KeyPath$PathFinder") (hR : kRet X (some .int) q) (t0 : Int) (σ : KM) {Θ : (Int × KM) → Prop} (hT : ∀ z, Θ (z) → z = q) : kJ X 29 [lq 8, none] [ki t0] σ (fFi_lastOf_J29 t0 σ) Θ := by
  exact k_iret hX hR hT dFi_lastOf_29
set_option maxRecDepth 100000 in
set_option maxHeartbeats 4000000 in
theorem sFi_lastOf (x1 : Int) (σ : KM) : kSem 1 (⟨"KeyPath$PathFinder", "lastOf", "(I)I"⟩ : MethodName) prog_6_method_10_code 2 (some .int) [kr 8, ki x1] σ (fFi_lastOf x1 σ) := by
  refine kSem.of (L0 := [lq 8, li x1]) (by decide) (Nat.le_of_ble_eq_true rfl) rfl (fun X q hX hR => ?_)
  have hT : ∀ z : Int × KM, (fun z => z = q) z → z = q := fun _ h => h
  refine k_iload_n hX dFi_lastOf_0 rfl ?_
  refine k_iconst hX dFi_lastOf_1 ?_
  refine k_iadd hX dFi_lastOf_2 ?_
  refine k_aload_n hX dFi_lastOf_3 rfl ?_
  refine gf_61 hX dFi_lastOf_4 ?_
  refine k_icmp_ge (tgt := 23) hX dFi_lastOf_7 (by decide) ?_ ?_
  · refine k_aload_n hX dFi_lastOf_23 rfl ?_
    refine gf_43 hX dFi_lastOf_24 ?_
    refine k_iconst hX dFi_lastOf_27 ?_
    refine k_isub hX dFi_lastOf_28 ?_
    refine k_less [true, false] (L' := [lq 8, none]) rfl ?_
    exact tFi_lastOf_J29 hX hR ((σ 8 1) - 1) σ hT
  · refine k_aload_n hX dFi_lastOf_10 rfl ?_
    refine gf_60 hX dFi_lastOf_11 ?_
    refine k_iload_n hX dFi_lastOf_14 rfl ?_
    refine k_iconst hX dFi_lastOf_15 ?_
    refine k_iadd hX dFi_lastOf_16 ?_
    refine k_iald hX (by decide) rfl dFi_lastOf_17 rfl (fun y1 => ?_)
    refine k_iconst hX dFi_lastOf_18 ?_
    refine k_isub hX dFi_lastOf_19 ?_
    refine k_goto (tgt := 29) hX dFi_lastOf_20 (by decide) ?_
    refine k_less [true, false] (L' := [lq 8, none]) rfl ?_
    exact tFi_lastOf_J29 hX hR (y1 - 1) σ hT
theorem cl_40 {X : KC} {d n : Nat} {cc : ByteArray} {pc : Nat} {L : List (Option KV)} {st : List KV} {σ : KM} {Z : Type} {Θ : Z → Prop} {G : Int → KM → Option Z} {x1 : Int} (hX : kOk X d cc n "KeyPath") (hdd : 1 + 1 ≤ d) (hst : k_cat st ≤ 8) (hd : decode cc pc = .ok (.invokevirtual 289, 3)) (h : ∀ r τ, kJ X (pc + 3) L (ki r :: st) τ (G r τ) Θ) : kJ X pc L (ki x1 :: kr 8 :: st) σ (kCall (fFi_lastOf x1 σ) G) Θ :=
  k_callV (np := 1) (av := [ki x1]) (ret := (some .int)) hX (by decide) rfl rfl rfl (sFi_lastOf _ σ) ⟨⟨hdd, by decide⟩, tw_855, tw_8, by decide +kernel⟩ rfl tw_852 tw_853 tw_854 hst hd h
theorem dP_confirmed_0 : decode prog_1_method_37_code 0 = .ok (.aload_n 0, 1) := by decide +kernel
theorem dP_confirmed_1 : decode prog_1_method_37_code 1 = .ok (.invokevirtual 233, 3) := by decide +kernel
theorem dP_confirmed_4 : decode prog_1_method_37_code 4 = .ok (.ifCond .eq 6, 3) := by decide +kernel
theorem dP_confirmed_7 : decode prog_1_method_37_code 7 = .ok (.bipush (-5), 2) := by decide +kernel
theorem dP_confirmed_9 : decode prog_1_method_37_code 9 = .ok (.ireturn, 1) := by decide +kernel
theorem dP_confirmed_10 : decode prog_1_method_37_code 10 = .ok (.iload_n 1, 1) := by decide +kernel
theorem dP_confirmed_11 : decode prog_1_method_37_code 11 = .ok (.ifCond .lt 14, 3) := by decide +kernel
theorem dP_confirmed_14 : decode prog_1_method_37_code 14 = .ok (.iload_n 1, 1) := by decide +kernel
theorem dP_confirmed_15 : decode prog_1_method_37_code 15 = .ok (.aload_n 0, 1) := by decide +kernel
theorem dP_confirmed_16 : decode prog_1_method_37_code 16 = .ok (.getfield 54, 3) := by decide +kernel
theorem dP_confirmed_19 : decode prog_1_method_37_code 19 = .ok (.getfield 283, 3) := by decide +kernel
theorem dP_confirmed_22 : decode prog_1_method_37_code 22 = .ok (.if_icmp .lt 6, 3) := by decide +kernel
theorem dP_confirmed_25 : decode prog_1_method_37_code 25 = .ok (.bipush (-2), 2) := by decide +kernel
theorem dP_confirmed_27 : decode prog_1_method_37_code 27 = .ok (.ireturn, 1) := by decide +kernel
theorem dP_confirmed_28 : decode prog_1_method_37_code 28 = .ok (.aload_n 0, 1) := by decide +kernel
theorem dP_confirmed_29 : decode prog_1_method_37_code 29 = .ok (.getfield 54, 3) := by decide +kernel
theorem dP_confirmed_32 : decode prog_1_method_37_code 32 = .ok (.getfield 286, 3) := by decide +kernel
theorem dP_confirmed_35 : decode prog_1_method_37_code 35 = .ok (.iload_n 1, 1) := by decide +kernel
theorem dP_confirmed_36 : decode prog_1_method_37_code 36 = .ok (.iaload, 1) := by decide +kernel
theorem dP_confirmed_37 : decode prog_1_method_37_code 37 = .ok (.istore_n 2, 1) := by decide +kernel
theorem dP_confirmed_38 : decode prog_1_method_37_code 38 = .ok (.aload_n 0, 1) := by decide +kernel
theorem dP_confirmed_39 : decode prog_1_method_37_code 39 = .ok (.getfield 54, 3) := by decide +kernel
theorem dP_confirmed_42 : decode prog_1_method_37_code 42 = .ok (.iload_n 1, 1) := by decide +kernel
theorem dP_confirmed_43 : decode prog_1_method_37_code 43 = .ok (.invokevirtual 289, 3) := by decide +kernel
theorem dP_confirmed_46 : decode prog_1_method_37_code 46 = .ok (.istore_n 3, 1) := by decide +kernel
theorem dP_confirmed_47 : decode prog_1_method_37_code 47 = .ok (.iload_n 2, 1) := by decide +kernel
theorem dP_confirmed_48 : decode prog_1_method_37_code 48 = .ok (.istore 4, 2) := by decide +kernel
theorem dP_confirmed_50 : decode prog_1_method_37_code 50 = .ok (.iload 4, 2) := by decide +kernel
theorem dP_confirmed_52 : decode prog_1_method_37_code 52 = .ok (.iload_n 3, 1) := by decide +kernel
theorem dP_confirmed_53 : decode prog_1_method_37_code 53 = .ok (.if_icmp .gt 50, 3) := by decide +kernel
theorem dP_confirmed_56 : decode prog_1_method_37_code 56 = .ok (.aload_n 0, 1) := by decide +kernel
theorem dP_confirmed_57 : decode prog_1_method_37_code 57 = .ok (.getfield 33, 3) := by decide +kernel
theorem dP_confirmed_60 : decode prog_1_method_37_code 60 = .ok (.iload 4, 2) := by decide +kernel
theorem dP_confirmed_62 : decode prog_1_method_37_code 62 = .ok (.iload_n 2, 1) := by decide +kernel
theorem dP_confirmed_63 : decode prog_1_method_37_code 63 = .ok (.invokevirtual 304, 3) := by decide +kernel
theorem dP_confirmed_66 : decode prog_1_method_37_code 66 = .ok (.istore 5, 2) := by decide +kernel
theorem dP_confirmed_68 : decode prog_1_method_37_code 68 = .ok (.aload_n 0, 1) := by decide +kernel
theorem dP_confirmed_69 : decode prog_1_method_37_code 69 = .ok (.iload 4, 2) := by decide +kernel
theorem dP_confirmed_71 : decode prog_1_method_37_code 71 = .ok (.invokevirtual 301, 3) := by decide +kernel
theorem dP_confirmed_74 : decode prog_1_method_37_code 74 = .ok (.iconst 1, 1) := by decide +kernel
theorem dP_confirmed_75 : decode prog_1_method_37_code 75 = .ok (.if_icmp .ne 22, 3) := by decide +kernel
theorem dP_confirmed_78 : decode prog_1_method_37_code 78 = .ok (.iload 5, 2) := by decide +kernel
theorem dP_confirmed_80 : decode prog_1_method_37_code 80 = .ok (.iconst (-1), 1) := by decide +kernel
theorem dP_confirmed_81 : decode prog_1_method_37_code 81 = .ok (.if_icmp .eq 16, 3) := by decide +kernel
theorem dP_confirmed_84 : decode prog_1_method_37_code 84 = .ok (.aload_n 0, 1) := by decide +kernel
theorem dP_confirmed_85 : decode prog_1_method_37_code 85 = .ok (.iload 5, 2) := by decide +kernel
theorem dP_confirmed_87 : decode prog_1_method_37_code 87 = .ok (.invokevirtual 301, 3) := by decide +kernel
theorem dP_confirmed_90 : decode prog_1_method_37_code 90 = .ok (.iconst 5, 1) := by decide +kernel
theorem dP_confirmed_91 : decode prog_1_method_37_code 91 = .ok (.if_icmp .ne 6, 3) := by decide +kernel
theorem dP_confirmed_94 : decode prog_1_method_37_code 94 = .ok (.iload 4, 2) := by decide +kernel
theorem dP_confirmed_96 : decode prog_1_method_37_code 96 = .ok (.ireturn, 1) := by decide +kernel
theorem dP_confirmed_97 : decode prog_1_method_37_code 97 = .ok (.iinc 4 1, 3) := by decide +kernel
theorem dP_confirmed_100 : decode prog_1_method_37_code 100 = .ok (.goto (-50), 3) := by decide +kernel
theorem dP_confirmed_103 : decode prog_1_method_37_code 103 = .ok (.iconst (-1), 1) := by decide +kernel
theorem dP_confirmed_104 : decode prog_1_method_37_code 104 = .ok (.ireturn, 1) := by decide +kernel
set_option maxRecDepth 100000 in
set_option maxHeartbeats 4000000 in
theorem tP_confirmed_J25 {X : KC} {q : Int × KM} (hX : kOk X 8 prog_1_method_37_code 6 "KeyPath") (hR : kRet X (some .int) q) (σ : KM) {Θ : (Int × KM) → Prop} (hT : ∀ z, Θ (z) → z = q) : kJ X 25 [lq 0, none, none, none, none, none] [] σ (fP_confirmed_J25 σ) Θ := by
  refine k_bipush hX dP_confirmed_25 (by decide) ?_
  exact k_iret hX hR hT dP_confirmed_27
set_option maxRecDepth 100000 in
set_option maxHeartbeats 4000000 in
theorem tP_confirmed_J103 {X : KC} {q : Int × KM} (hX : kOk X 8 prog_1_method_37_code 6 "KeyPath") (hR : kRet X (some .int) q) (σ : KM) {Θ : (Int × KM) → Prop} (hT : ∀ z, Θ (z) → z = q) : kJ X 103 [lq 0, none, none, none, none, none] [] σ (fP_confirmed_J103 σ) Θ := by
  refine k_iconst hX dP_confirmed_103 ?_
  exact k_iret hX hR hT dP_confirmed_104
set_option maxRecDepth 100000 in
set_option maxHeartbeats 4000000 in
theorem tP_confirmed_J97 {X : KC} {q : Int × KM} (hX : kOk X 8 prog_1_method_37_code 6 "KeyPath") (hR : kRet X (some .int) q) (x2 x3 x4 : Int) (σ : KM) {Θ : ((Int × KM) ⊕ (Int × KM)) → Prop} (hT : ∀ z, Θ (.inr (z)) → z = q) (hb0 : ∀ s : Int × KM, Θ (.inl s) → kW X 50 [lq 0, none, li x2, li x3, li s.1, none] [] s.2) : kJ X 97 [lq 0, none, li x2, li x3, li x4, none] [] σ (fP_confirmed_J97 x2 x3 x4 σ) Θ := by
  refine k_iincL (Lf := fun y1 => [lq 0, none, li x2, li x3, li y1, none]) hX dP_confirmed_97 rfl (by decide) rfl (fun _ => rfl) (fun y1 => ?_)
  refine k_goto (tgt := 50) hX dP_confirmed_100 (by decide) ?_
  exact k_back (hb0 (y1, σ))
set_option maxRecDepth 100000 in
set_option maxHeartbeats 4000000 in
theorem tP_confirmed_J94 {X : KC} {q : Int × KM} (hX : kOk X 8 prog_1_method_37_code 6 "KeyPath") (hR : kRet X (some .int) q) (x4 : Int) (σ : KM) {Θ : (Int × KM) → Prop} (hT : ∀ z, Θ (z) → z = q) : kJ X 94 [lq 0, none, none, none, li x4, none] [] σ (fP_confirmed_J94 x4 σ) Θ := by
  refine k_iload hX dP_confirmed_94 rfl ?_
  exact k_iret hX hR hT dP_confirmed_96
set_option maxRecDepth 100000 in
set_option maxHeartbeats 4000000 in
theorem tP_confirmed_B50 {X : KC} {q : Int × KM} (hX : kOk X 8 prog_1_method_37_code 6 "KeyPath") (hR : kRet X (some .int) q) (x2 x3 x4 : Int) (σ : KM) {Θ : ((Int × KM) ⊕ (Int × KM)) → Prop} (hT : ∀ z, Θ (.inr (z)) → z = q) (hb0 : ∀ s : Int × KM, Θ (.inl s) → kW X 50 [lq 0, none, li x2, li x3, li s.1, none] [] s.2) : kJ X 50 [lq 0, none, li x2, li x3, li x4, none] [] σ (fP_confirmed_B50 x2 x3 x4 σ) Θ := by
  refine k_iload hX dP_confirmed_50 rfl ?_
  refine k_iload_n hX dP_confirmed_52 rfl ?_
  refine k_icmp_gt (tgt := 103) hX dP_confirmed_53 (by decide) ?_ ?_
  · refine k_exit ?_
    refine k_less [true, true, false, false, false, true] (L' := [lq 0, none, none, none, none, none]) rfl ?_
    exact tP_confirmed_J103 hX hR σ hT
  · refine k_aload_n hX dP_confirmed_56 rfl ?_
    refine gf_0 hX dP_confirmed_57 ?_
    refine k_iload hX dP_confirmed_60 rfl ?_
    refine k_iload_n hX dP_confirmed_62 rfl ?_
    refine cl_39 hX (by decide) (Nat.le_of_ble_eq_true rfl) dP_confirmed_63 (fun r2 τ1 => ?_)
    refine k_istore (L' := [lq 0, none, li x2, li x3, li x4, li r2]) hX dP_confirmed_66 rfl (by decide) rfl ?_
    refine k_aload_n hX dP_confirmed_68 rfl ?_
    refine k_iload hX dP_confirmed_69 rfl ?_
    refine cl_38 hX (by decide) (Nat.le_of_ble_eq_true rfl) dP_confirmed_71 (fun r4 τ3 => ?_)
    refine k_iconst hX dP_confirmed_74 ?_
    refine k_icmp_ne (tgt := 97) hX dP_confirmed_75 (by decide) ?_ ?_
    · refine k_less [true, true, true, true, true, false] (L' := [lq 0, none, li x2, li x3, li x4, none]) rfl ?_
      exact tP_confirmed_J97 hX hR x2 x3 x4 τ3 hT hb0
    · refine k_iload hX dP_confirmed_78 rfl ?_
      refine k_iconst hX dP_confirmed_80 ?_
      refine k_icmp_eq (tgt := 97) hX dP_confirmed_81 (by decide) ?_ ?_
      · refine k_less [true, true, true, true, true, false] (L' := [lq 0, none, li x2, li x3, li x4, none]) rfl ?_
        exact tP_confirmed_J97 hX hR x2 x3 x4 τ3 hT hb0
      · refine k_aload_n hX dP_confirmed_84 rfl ?_
        refine k_iload hX dP_confirmed_85 rfl ?_
        refine cl_38 hX (by decide) (Nat.le_of_ble_eq_true rfl) dP_confirmed_87 (fun r6 τ5 => ?_)
        refine k_iconst hX dP_confirmed_90 ?_
        refine k_icmp_ne (tgt := 97) hX dP_confirmed_91 (by decide) ?_ ?_
        · refine k_less [true, true, true, true, true, false] (L' := [lq 0, none, li x2, li x3, li x4, none]) rfl ?_
          exact tP_confirmed_J97 hX hR x2 x3 x4 τ5 hT hb0
        · refine k_exit ?_
          refine k_less [true, true, false, false, true, false] (L' := [lq 0, none, none, none, li x4, none]) rfl ?_
          exact tP_confirmed_J94 hX hR x4 τ5 hT
set_option maxRecDepth 100000 in
set_option maxHeartbeats 4000000 in
theorem tP_confirmed_L50 {X : KC} {q : Int × KM} (hX : kOk X 8 prog_1_method_37_code 6 "KeyPath") (hR : kRet X (some .int) q) (x2 x3 x4 : Int) (σ : KM) {Θ : (Int × KM) → Prop} (hT : ∀ z, Θ (z) → z = q) : kJ X 50 [lq 0, none, li x2, li x3, li x4, none] [] σ (fP_confirmed_L50 x2 x3 x4 σ) Θ :=
  k_iter (f := fun s => fP_confirmed_B50 x2 x3 s.1 s.2) (Lf := fun s => [lq 0, none, li x2, li x3, li s.1, none]) (mf := fun s => s.2) (Θ := Θ) (fun s => tP_confirmed_B50 hX hR x2 x3 s.1 s.2 hT (fun _ h9 => h9)) kF (x4, σ)
set_option maxRecDepth 100000 in
set_option maxHeartbeats 4000000 in
theorem sP_confirmed (x1 : Int) (σ : KM) : kSem 8 (⟨"KeyPath", "confirmed", "(I)I"⟩ : MethodName) prog_1_method_37_code 6 (some .int) [kr 0, ki x1] σ (fP_confirmed x1 σ) := by
  refine kSem.of (L0 := [lq 0, li x1, none, none, none, none]) (by decide) (Nat.le_of_ble_eq_true rfl) rfl (fun X q hX hR => ?_)
  have hT : ∀ z : Int × KM, (fun z => z = q) z → z = q := fun _ h => h
  refine k_aload_n hX dP_confirmed_0 rfl ?_
  refine cl_33 hX (by decide) (Nat.le_of_ble_eq_true rfl) dP_confirmed_1 (fun r2 τ1 => ?_)
  refine k_if_eq (tgt := 10) hX dP_confirmed_4 (by decide) ?_ ?_
  · refine k_iload_n hX dP_confirmed_10 rfl ?_
    refine k_if_lt (tgt := 25) hX dP_confirmed_11 (by decide) ?_ ?_
    · refine k_less [true, false, true, true, true, true] (L' := [lq 0, none, none, none, none, none]) rfl ?_
      exact tP_confirmed_J25 hX hR τ1 hT
    · refine k_iload_n hX dP_confirmed_14 rfl ?_
      refine k_aload_n hX dP_confirmed_15 rfl ?_
      refine gf_20 hX dP_confirmed_16 ?_
      refine gf_71 hX dP_confirmed_19 ?_
      refine k_icmp_lt (tgt := 28) hX dP_confirmed_22 (by decide) ?_ ?_
      · refine k_aload_n hX dP_confirmed_28 rfl ?_
        refine gf_20 hX dP_confirmed_29 ?_
        refine gf_72 hX dP_confirmed_32 ?_
        refine k_iload_n hX dP_confirmed_35 rfl ?_
        refine k_iald hX (by decide) rfl dP_confirmed_36 rfl (fun y3 => ?_)
        refine k_istore_n (L' := [lq 0, li x1, li y3, none, none, none]) hX dP_confirmed_37 rfl (by decide) rfl ?_
        refine k_aload_n hX dP_confirmed_38 rfl ?_
        refine gf_20 hX dP_confirmed_39 ?_
        refine k_iload_n hX dP_confirmed_42 rfl ?_
        refine cl_40 hX (by decide) (Nat.le_of_ble_eq_true rfl) dP_confirmed_43 (fun r5 τ4 => ?_)
        refine k_istore_n (L' := [lq 0, li x1, li y3, li r5, none, none]) hX dP_confirmed_46 rfl (by decide) rfl ?_
        refine k_iload_n hX dP_confirmed_47 rfl ?_
        refine k_istore (L' := [lq 0, li x1, li y3, li r5, li y3, none]) hX dP_confirmed_48 rfl (by decide) rfl ?_
        refine k_less [true, false, true, true, true, true] (L' := [lq 0, none, li y3, li r5, li y3, none]) rfl ?_
        exact tP_confirmed_L50 hX hR y3 r5 y3 τ4 hT
      · refine k_less [true, false, true, true, true, true] (L' := [lq 0, none, none, none, none, none]) rfl ?_
        exact tP_confirmed_J25 hX hR τ1 hT
  · refine k_bipush hX dP_confirmed_7 (by decide) ?_
    exact k_iret hX hR hT dP_confirmed_9
theorem dP_cost_0 : decode prog_1_method_22_code 0 = .ok (.aload_n 0, 1) := by decide +kernel
theorem dP_cost_1 : decode prog_1_method_22_code 1 = .ok (.invokevirtual 233, 3) := by decide +kernel
theorem dP_cost_4 : decode prog_1_method_22_code 4 = .ok (.ifCond .eq 8, 3) := by decide +kernel
theorem dP_cost_7 : decode prog_1_method_22_code 7 = .ok (.bipush (-5), 2) := by decide +kernel
theorem dP_cost_9 : decode prog_1_method_22_code 9 = .ok (.goto 10, 3) := by decide +kernel
theorem dP_cost_12 : decode prog_1_method_22_code 12 = .ok (.aload_n 0, 1) := by decide +kernel
theorem dP_cost_13 : decode prog_1_method_22_code 13 = .ok (.getfield 54, 3) := by decide +kernel
theorem dP_cost_16 : decode prog_1_method_22_code 16 = .ok (.getfield 237, 3) := by decide +kernel
theorem dP_cost_19 : decode prog_1_method_22_code 19 = .ok (.ireturn, 1) := by decide +kernel
set_option maxRecDepth 100000 in
set_option maxHeartbeats 4000000 in
theorem tP_cost_J19 {X : KC} {q : Int × KM} (hX : kOk X 8 prog_1_method_22_code 1 "KeyPath") (hR : kRet X (some .int) q) (t0 : Int) (σ : KM) {Θ : (Int × KM) → Prop} (hT : ∀ z, Θ (z) → z = q) : kJ X 19 [lq 0] [ki t0] σ (fP_cost_J19 t0 σ) Θ := by
  exact k_iret hX hR hT dP_cost_19
set_option maxRecDepth 100000 in
set_option maxHeartbeats 4000000 in
theorem sP_cost (σ : KM) : kSem 8 (⟨"KeyPath", "cost", "()I"⟩ : MethodName) prog_1_method_22_code 1 (some .int) [kr 0] σ (fP_cost σ) := by
  refine kSem.of (L0 := [lq 0]) (by decide) (Nat.le_of_ble_eq_true rfl) rfl (fun X q hX hR => ?_)
  have hT : ∀ z : Int × KM, (fun z => z = q) z → z = q := fun _ h => h
  refine k_aload_n hX dP_cost_0 rfl ?_
  refine cl_33 hX (by decide) (Nat.le_of_ble_eq_true rfl) dP_cost_1 (fun r2 τ1 => ?_)
  refine k_if_eq (tgt := 12) hX dP_cost_4 (by decide) ?_ ?_
  · refine k_aload_n hX dP_cost_12 rfl ?_
    refine gf_20 hX dP_cost_13 ?_
    refine gf_73 hX dP_cost_16 ?_
    exact tP_cost_J19 hX hR (τ1 8 8) τ1 hT
  · refine k_bipush hX dP_cost_7 (by decide) ?_
    refine k_goto (tgt := 19) hX dP_cost_9 (by decide) ?_
    exact tP_cost_J19 hX hR (-5) τ1 hT
theorem dWi_silentOnes_0 : decode prog_9_method_6_code 0 = .ok (.iconst 0, 1) := by decide +kernel
theorem dWi_silentOnes_1 : decode prog_9_method_6_code 1 = .ok (.istore_n 1, 1) := by decide +kernel
theorem dWi_silentOnes_2 : decode prog_9_method_6_code 2 = .ok (.iconst 0, 1) := by decide +kernel
theorem dWi_silentOnes_3 : decode prog_9_method_6_code 3 = .ok (.istore_n 2, 1) := by decide +kernel
theorem dWi_silentOnes_4 : decode prog_9_method_6_code 4 = .ok (.iload_n 2, 1) := by decide +kernel
theorem dWi_silentOnes_5 : decode prog_9_method_6_code 5 = .ok (.aload_n 0, 1) := by decide +kernel
theorem dWi_silentOnes_6 : decode prog_9_method_6_code 6 = .ok (.getfield 47, 3) := by decide +kernel
theorem dWi_silentOnes_9 : decode prog_9_method_6_code 9 = .ok (.if_icmp .ge 21, 3) := by decide +kernel
theorem dWi_silentOnes_12 : decode prog_9_method_6_code 12 = .ok (.aload_n 0, 1) := by decide +kernel
theorem dWi_silentOnes_13 : decode prog_9_method_6_code 13 = .ok (.getfield 22, 3) := by decide +kernel
theorem dWi_silentOnes_16 : decode prog_9_method_6_code 16 = .ok (.iload_n 2, 1) := by decide +kernel
theorem dWi_silentOnes_17 : decode prog_9_method_6_code 17 = .ok (.iaload, 1) := by decide +kernel
theorem dWi_silentOnes_18 : decode prog_9_method_6_code 18 = .ok (.ifCond .ne 6, 3) := by decide +kernel
theorem dWi_silentOnes_21 : decode prog_9_method_6_code 21 = .ok (.iinc 1 1, 3) := by decide +kernel
theorem dWi_silentOnes_24 : decode prog_9_method_6_code 24 = .ok (.iinc 2 1, 3) := by decide +kernel
theorem dWi_silentOnes_27 : decode prog_9_method_6_code 27 = .ok (.goto (-23), 3) := by decide +kernel
theorem dWi_silentOnes_30 : decode prog_9_method_6_code 30 = .ok (.iload_n 1, 1) := by decide +kernel
theorem dWi_silentOnes_31 : decode prog_9_method_6_code 31 = .ok (.ireturn, 1) := by decide +kernel
set_option maxRecDepth 100000 in
set_option maxHeartbeats 4000000 in
theorem tWi_silentOnes_J30 {X : KC} {q : Int × KM} (hX : kOk X 1 prog_9_method_6_code 3 "KeyPath$Windows") (hR : kRet X (some .int) q) (x1 : Int) (σ : KM) {Θ : (Int × KM) → Prop} (hT : ∀ z, Θ (z) → z = q) : kJ X 30 [lq 5, li x1, none] [] σ (fWi_silentOnes_J30 x1 σ) Θ := by
  refine k_iload_n hX dWi_silentOnes_30 rfl ?_
  exact k_iret hX hR hT dWi_silentOnes_31
set_option maxRecDepth 100000 in
set_option maxHeartbeats 4000000 in
theorem tWi_silentOnes_J24 {X : KC} {q : Int × KM} (hX : kOk X 1 prog_9_method_6_code 3 "KeyPath$Windows") (hR : kRet X (some .int) q) (x1 x2 : Int) (σ : KM) {Θ : ((Int × Int × KM) ⊕ (Int × KM)) → Prop} (hT : ∀ z, Θ (.inr (z)) → z = q) (hb0 : ∀ s : Int × Int × KM, Θ (.inl s) → kW X 4 [lq 5, li s.1, li s.2.1] [] s.2.2) : kJ X 24 [lq 5, li x1, li x2] [] σ (fWi_silentOnes_J24 x1 x2 σ) Θ := by
  refine k_iincL (Lf := fun y1 => [lq 5, li x1, li y1]) hX dWi_silentOnes_24 rfl (by decide) rfl (fun _ => rfl) (fun y1 => ?_)
  refine k_goto (tgt := 4) hX dWi_silentOnes_27 (by decide) ?_
  exact k_back (hb0 (x1, y1, σ))
set_option maxRecDepth 100000 in
set_option maxHeartbeats 4000000 in
theorem tWi_silentOnes_B4 {X : KC} {q : Int × KM} (hX : kOk X 1 prog_9_method_6_code 3 "KeyPath$Windows") (hR : kRet X (some .int) q) (x1 x2 : Int) (σ : KM) {Θ : ((Int × Int × KM) ⊕ (Int × KM)) → Prop} (hT : ∀ z, Θ (.inr (z)) → z = q) (hb0 : ∀ s : Int × Int × KM, Θ (.inl s) → kW X 4 [lq 5, li s.1, li s.2.1] [] s.2.2) : kJ X 4 [lq 5, li x1, li x2] [] σ (fWi_silentOnes_B4 x1 x2 σ) Θ := by
  refine k_iload_n hX dWi_silentOnes_4 rfl ?_
  refine k_aload_n hX dWi_silentOnes_5 rfl ?_
  refine gf_8 hX dWi_silentOnes_6 ?_
  refine k_icmp_ge (tgt := 30) hX dWi_silentOnes_9 (by decide) ?_ ?_
  · refine k_exit ?_
    refine k_less [true, true, false] (L' := [lq 5, li x1, none]) rfl ?_
    exact tWi_silentOnes_J30 hX hR x1 σ hT
  · refine k_aload_n hX dWi_silentOnes_12 rfl ?_
    refine gf_10 hX dWi_silentOnes_13 ?_
    refine k_iload_n hX dWi_silentOnes_16 rfl ?_
    refine k_iald hX (by decide) rfl dWi_silentOnes_17 rfl (fun y1 => ?_)
    refine k_if_ne (tgt := 24) hX dWi_silentOnes_18 (by decide) ?_ ?_
    · exact tWi_silentOnes_J24 hX hR x1 x2 σ hT hb0
    · refine k_iincL (Lf := fun y2 => [lq 5, li y2, li x2]) hX dWi_silentOnes_21 rfl (by decide) rfl (fun _ => rfl) (fun y2 => ?_)
      exact tWi_silentOnes_J24 hX hR y2 x2 σ hT hb0
set_option maxRecDepth 100000 in
set_option maxHeartbeats 4000000 in
theorem tWi_silentOnes_L4 {X : KC} {q : Int × KM} (hX : kOk X 1 prog_9_method_6_code 3 "KeyPath$Windows") (hR : kRet X (some .int) q) (x1 x2 : Int) (σ : KM) {Θ : (Int × KM) → Prop} (hT : ∀ z, Θ (z) → z = q) : kJ X 4 [lq 5, li x1, li x2] [] σ (fWi_silentOnes_L4 x1 x2 σ) Θ :=
  k_iter (f := fun s => fWi_silentOnes_B4 s.1 s.2.1 s.2.2) (Lf := fun s => [lq 5, li s.1, li s.2.1]) (mf := fun s => s.2.2) (Θ := Θ) (fun s => tWi_silentOnes_B4 hX hR s.1 s.2.1 s.2.2 hT (fun _ h9 => h9)) kF (x1, x2, σ)
set_option maxRecDepth 100000 in
set_option maxHeartbeats 4000000 in
theorem sWi_silentOnes (σ : KM) : kSem 1 (⟨"KeyPath$Windows", "silentOnes", "()I"⟩ : MethodName) prog_9_method_6_code 3 (some .int) [kr 5] σ (fWi_silentOnes σ) := by
  refine kSem.of (L0 := [lq 5, none, none]) (by decide) (Nat.le_of_ble_eq_true rfl) rfl (fun X q hX hR => ?_)
  have hT : ∀ z : Int × KM, (fun z => z = q) z → z = q := fun _ h => h
  refine k_iconst hX dWi_silentOnes_0 ?_
  refine k_istore_n (L' := [lq 5, li 0, none]) hX dWi_silentOnes_1 rfl (by decide) rfl ?_
  refine k_iconst hX dWi_silentOnes_2 ?_
  refine k_istore_n (L' := [lq 5, li 0, li 0]) hX dWi_silentOnes_3 rfl (by decide) rfl ?_
  exact tWi_silentOnes_L4 hX hR 0 0 σ hT
theorem cl_42 {X : KC} {d n : Nat} {cc : ByteArray} {pc : Nat} {L : List (Option KV)} {st : List KV} {σ : KM} {Z : Type} {Θ : Z → Prop} {G : Int → KM → Option Z} (hX : kOk X d cc n "KeyPath") (hdd : 1 + 1 ≤ d) (hst : k_cat st ≤ 8) (hd : decode cc pc = .ok (.invokevirtual 326, 3)) (h : ∀ r τ, kJ X (pc + 3) L (ki r :: st) τ (G r τ) Θ) : kJ X pc L (kr 5 :: st) σ (kCall (fWi_silentOnes σ) G) Θ :=
  k_callV (np := 0) (av := []) (ret := (some .int)) hX (by decide) rfl rfl rfl (sWi_silentOnes σ) ⟨⟨hdd, by decide⟩, tw_980, tw_5, by decide +kernel⟩ rfl tw_977 tw_978 tw_979 hst hd h
theorem dP_count_0 : decode prog_1_method_43_code 0 = .ok (.aload_n 0, 1) := by decide +kernel
theorem dP_count_1 : decode prog_1_method_43_code 1 = .ok (.invokevirtual 155, 3) := by decide +kernel
theorem dP_count_4 : decode prog_1_method_43_code 4 = .ok (.iload_n 1, 1) := by decide +kernel
theorem dP_count_5 : decode prog_1_method_43_code 5 = .ok (.tableswitch 159 0 11 #[63, 71, 79, 87, 95, 103, 111, 119, 127, 135, 143, 151], 63) := by decide +kernel
theorem dP_count_68 : decode prog_1_method_43_code 68 = .ok (.aload_n 0, 1) := by decide +kernel
theorem dP_count_69 : decode prog_1_method_43_code 69 = .ok (.getfield 19, 3) := by decide +kernel
theorem dP_count_72 : decode prog_1_method_43_code 72 = .ok (.getfield 92, 3) := by decide +kernel
theorem dP_count_75 : decode prog_1_method_43_code 75 = .ok (.ireturn, 1) := by decide +kernel
theorem dP_count_76 : decode prog_1_method_43_code 76 = .ok (.aload_n 0, 1) := by decide +kernel
theorem dP_count_77 : decode prog_1_method_43_code 77 = .ok (.getfield 33, 3) := by decide +kernel
theorem dP_count_80 : decode prog_1_method_43_code 80 = .ok (.getfield 158, 3) := by decide +kernel
theorem dP_count_83 : decode prog_1_method_43_code 83 = .ok (.ireturn, 1) := by decide +kernel
theorem dP_count_84 : decode prog_1_method_43_code 84 = .ok (.aload_n 0, 1) := by decide +kernel
theorem dP_count_85 : decode prog_1_method_43_code 85 = .ok (.getfield 19, 3) := by decide +kernel
theorem dP_count_88 : decode prog_1_method_43_code 88 = .ok (.invokevirtual 141, 3) := by decide +kernel
theorem dP_count_91 : decode prog_1_method_43_code 91 = .ok (.ireturn, 1) := by decide +kernel
theorem dP_count_92 : decode prog_1_method_43_code 92 = .ok (.aload_n 0, 1) := by decide +kernel
theorem dP_count_93 : decode prog_1_method_43_code 93 = .ok (.getfield 26, 3) := by decide +kernel
theorem dP_count_96 : decode prog_1_method_43_code 96 = .ok (.getfield 134, 3) := by decide +kernel
theorem dP_count_99 : decode prog_1_method_43_code 99 = .ok (.ireturn, 1) := by decide +kernel
theorem dP_count_100 : decode prog_1_method_43_code 100 = .ok (.aload_n 0, 1) := by decide +kernel
theorem dP_count_101 : decode prog_1_method_43_code 101 = .ok (.getfield 12, 3) := by decide +kernel
theorem dP_count_104 : decode prog_1_method_43_code 104 = .ok (.getfield 65, 3) := by decide +kernel
theorem dP_count_107 : decode prog_1_method_43_code 107 = .ok (.ireturn, 1) := by decide +kernel
theorem dP_count_108 : decode prog_1_method_43_code 108 = .ok (.aload_n 0, 1) := by decide +kernel
theorem dP_count_109 : decode prog_1_method_43_code 109 = .ok (.getfield 33, 3) := by decide +kernel
theorem dP_count_112 : decode prog_1_method_43_code 112 = .ok (.getfield 149, 3) := by decide +kernel
theorem dP_count_115 : decode prog_1_method_43_code 115 = .ok (.ireturn, 1) := by decide +kernel
theorem dP_count_116 : decode prog_1_method_43_code 116 = .ok (.aload_n 0, 1) := by decide +kernel
theorem dP_count_117 : decode prog_1_method_43_code 117 = .ok (.getfield 33, 3) := by decide +kernel
theorem dP_count_120 : decode prog_1_method_43_code 120 = .ok (.getfield 152, 3) := by decide +kernel
theorem dP_count_123 : decode prog_1_method_43_code 123 = .ok (.ireturn, 1) := by decide +kernel
theorem dP_count_124 : decode prog_1_method_43_code 124 = .ok (.aload_n 0, 1) := by decide +kernel
theorem dP_count_125 : decode prog_1_method_43_code 125 = .ok (.getfield 33, 3) := by decide +kernel
theorem dP_count_128 : decode prog_1_method_43_code 128 = .ok (.invokevirtual 326, 3) := by decide +kernel
theorem dP_count_131 : decode prog_1_method_43_code 131 = .ok (.ireturn, 1) := by decide +kernel
theorem dP_count_132 : decode prog_1_method_43_code 132 = .ok (.aload_n 0, 1) := by decide +kernel
theorem dP_count_133 : decode prog_1_method_43_code 133 = .ok (.getfield 47, 3) := by decide +kernel
theorem dP_count_136 : decode prog_1_method_43_code 136 = .ok (.getfield 174, 3) := by decide +kernel
theorem dP_count_139 : decode prog_1_method_43_code 139 = .ok (.ireturn, 1) := by decide +kernel
theorem dP_count_140 : decode prog_1_method_43_code 140 = .ok (.aload_n 0, 1) := by decide +kernel
theorem dP_count_141 : decode prog_1_method_43_code 141 = .ok (.getfield 47, 3) := by decide +kernel
theorem dP_count_144 : decode prog_1_method_43_code 144 = .ok (.getfield 177, 3) := by decide +kernel
theorem dP_count_147 : decode prog_1_method_43_code 147 = .ok (.ireturn, 1) := by decide +kernel
theorem dP_count_148 : decode prog_1_method_43_code 148 = .ok (.aload_n 0, 1) := by decide +kernel
theorem dP_count_149 : decode prog_1_method_43_code 149 = .ok (.getfield 47, 3) := by decide +kernel
theorem dP_count_152 : decode prog_1_method_43_code 152 = .ok (.getfield 180, 3) := by decide +kernel
theorem dP_count_155 : decode prog_1_method_43_code 155 = .ok (.ireturn, 1) := by decide +kernel
theorem dP_count_156 : decode prog_1_method_43_code 156 = .ok (.aload_n 0, 1) := by decide +kernel
theorem dP_count_157 : decode prog_1_method_43_code 157 = .ok (.getfield 47, 3) := by decide +kernel
theorem dP_count_160 : decode prog_1_method_43_code 160 = .ok (.getfield 171, 3) := by decide +kernel
theorem dP_count_163 : decode prog_1_method_43_code 163 = .ok (.ireturn, 1) := by decide +kernel
theorem dP_count_164 : decode prog_1_method_43_code 164 = .ok (.iconst (-1), 1) := by decide +kernel
theorem dP_count_165 : decode prog_1_method_43_code 165 = .ok (.ireturn, 1) := by decide +kernel
set_option maxRecDepth 100000 in
set_option maxHeartbeats 4000000 in
theorem sP_count (x1 : Int) (σ : KM) : kSem 6 (⟨"KeyPath", "count", "(I)I"⟩ : MethodName) prog_1_method_43_code 2 (some .int) [kr 0, ki x1] σ (fP_count x1 σ) := by
  refine kSem.of (L0 := [lq 0, li x1]) (by decide) (Nat.le_of_ble_eq_true rfl) rfl (fun X q hX hR => ?_)
  have hT : ∀ z : Int × KM, (fun z => z = q) z → z = q := fun _ h => h
  refine k_aload_n hX dP_count_0 rfl ?_
  refine cl_8 hX (by decide) (Nat.le_of_ble_eq_true rfl) dP_count_1 (fun _ τ1 => ?_)
  refine k_iload_n hX dP_count_4 rfl ?_
  refine k_tsw (ts := [68, 76, 84, 92, 100, 108, 116, 124, 132, 140, 148, 156]) (te := 164) hX dP_count_5 (by decide) (by decide) rfl (by decide) (k_ts_c ?_ (k_ts_c ?_ (k_ts_c ?_ (k_ts_c ?_ (k_ts_c ?_ (k_ts_c ?_ (k_ts_c ?_ (k_ts_c ?_ (k_ts_c ?_ (k_ts_c ?_ (k_ts_c ?_ (k_ts_c ?_ (k_ts_n))))))))))))) ?_
  · refine k_aload_n hX dP_count_68 rfl ?_
    refine gf_2 hX dP_count_69 ?_
    refine gf_74 hX dP_count_72 ?_
    exact k_iret hX hR hT dP_count_75
  · refine k_aload_n hX dP_count_76 rfl ?_
    refine gf_0 hX dP_count_77 ?_
    refine gf_18 hX dP_count_80 ?_
    exact k_iret hX hR hT dP_count_83
  · refine k_aload_n hX dP_count_84 rfl ?_
    refine gf_2 hX dP_count_85 ?_
    refine cl_41 hX (by decide) (Nat.le_of_ble_eq_true rfl) dP_count_88 (fun r3 τ2 => ?_)
    exact k_iret hX hR hT dP_count_91
  · refine k_aload_n hX dP_count_92 rfl ?_
    refine gf_75 hX dP_count_93 ?_
    refine gf_76 hX dP_count_96 ?_
    exact k_iret hX hR hT dP_count_99
  · refine k_aload_n hX dP_count_100 rfl ?_
    refine gf_77 hX dP_count_101 ?_
    refine gf_78 hX dP_count_104 ?_
    exact k_iret hX hR hT dP_count_107
  · refine k_aload_n hX dP_count_108 rfl ?_
    refine gf_0 hX dP_count_109 ?_
    refine gf_79 hX dP_count_112 ?_
    exact k_iret hX hR hT dP_count_115
  · refine k_aload_n hX dP_count_116 rfl ?_
    refine gf_0 hX dP_count_117 ?_
    refine gf_80 hX dP_count_120 ?_
    exact k_iret hX hR hT dP_count_123
  · refine k_aload_n hX dP_count_124 rfl ?_
    refine gf_0 hX dP_count_125 ?_
    refine cl_42 hX (by decide) (Nat.le_of_ble_eq_true rfl) dP_count_128 (fun r5 τ4 => ?_)
    exact k_iret hX hR hT dP_count_131
  · refine k_aload_n hX dP_count_132 rfl ?_
    refine gf_32 hX dP_count_133 ?_
    refine gf_81 hX dP_count_136 ?_
    exact k_iret hX hR hT dP_count_139
  · refine k_aload_n hX dP_count_140 rfl ?_
    refine gf_32 hX dP_count_141 ?_
    refine gf_82 hX dP_count_144 ?_
    exact k_iret hX hR hT dP_count_147
  · refine k_aload_n hX dP_count_148 rfl ?_
    refine gf_32 hX dP_count_149 ?_
    refine gf_83 hX dP_count_152 ?_
    exact k_iret hX hR hT dP_count_155
  · refine k_aload_n hX dP_count_156 rfl ?_
    refine gf_32 hX dP_count_157 ?_
    refine gf_50 hX dP_count_160 ?_
    exact k_iret hX hR hT dP_count_163
  · refine k_iconst hX dP_count_164 ?_
    exact k_iret hX hR hT dP_count_165
theorem dP_outOf_0 : decode prog_1_method_52_code 0 = .ok (.iload_n 2, 1) := by decide +kernel
theorem dP_outOf_1 : decode prog_1_method_52_code 1 = .ok (.iload_n 0, 1) := by decide +kernel
theorem dP_outOf_2 : decode prog_1_method_52_code 2 = .ok (.if_icmp .lt 8, 3) := by decide +kernel
theorem dP_outOf_5 : decode prog_1_method_52_code 5 = .ok (.iload_n 2, 1) := by decide +kernel
theorem dP_outOf_6 : decode prog_1_method_52_code 6 = .ok (.iload_n 1, 1) := by decide +kernel
theorem dP_outOf_7 : decode prog_1_method_52_code 7 = .ok (.if_icmp .le 7, 3) := by decide +kernel
theorem dP_outOf_10 : decode prog_1_method_52_code 10 = .ok (.iconst 1, 1) := by decide +kernel
theorem dP_outOf_11 : decode prog_1_method_52_code 11 = .ok (.goto 4, 3) := by decide +kernel
theorem dP_outOf_14 : decode prog_1_method_52_code 14 = .ok (.iconst 0, 1) := by decide +kernel
theorem dP_outOf_15 : decode prog_1_method_52_code 15 = .ok (.ireturn, 1) := by decide +kernel
set_option maxRecDepth 100000 in
set_option maxHeartbeats 4000000 in
theorem tP_outOf_J15 {X : KC} {q : Int × KM} (hX : kOk X 1 prog_1_method_52_code 3 "KeyPath") (hR : kRet X (some .boolean) q) (t0 : Int) (σ : KM) {Θ : (Int × KM) → Prop} (hT : ∀ z, Θ (z) → z = q) : kJ X 15 [none, none, none] [ki t0] σ (fP_outOf_J15 t0 σ) Θ := by
  exact k_zret hX hR hT dP_outOf_15
set_option maxRecDepth 100000 in
set_option maxHeartbeats 4000000 in
theorem tP_outOf_J10 {X : KC} {q : Int × KM} (hX : kOk X 1 prog_1_method_52_code 3 "KeyPath") (hR : kRet X (some .boolean) q) (σ : KM) {Θ : (Int × KM) → Prop} (hT : ∀ z, Θ (z) → z = q) : kJ X 10 [none, none, none] [] σ (fP_outOf_J10 σ) Θ := by
  refine k_iconst hX dP_outOf_10 ?_
  refine k_goto (tgt := 15) hX dP_outOf_11 (by decide) ?_
  exact tP_outOf_J15 hX hR 1 σ hT
set_option maxRecDepth 100000 in
set_option maxHeartbeats 4000000 in
theorem sP_outOf (x0 x1 x2 : Int) (σ : KM) : kSem 1 (⟨"KeyPath", "outOf", "(III)Z"⟩ : MethodName) prog_1_method_52_code 3 (some .boolean) [ki x0, ki x1, ki x2] σ (fP_outOf x0 x1 x2 σ) := by
  refine kSem.of (L0 := [li x0, li x1, li x2]) (by decide) (Nat.le_of_ble_eq_true rfl) rfl (fun X q hX hR => ?_)
  have hT : ∀ z : Int × KM, (fun z => z = q) z → z = q := fun _ h => h
  refine k_iload_n hX dP_outOf_0 rfl ?_
  refine k_iload_n hX dP_outOf_1 rfl ?_
  refine k_icmp_lt (tgt := 10) hX dP_outOf_2 (by decide) ?_ ?_
  · refine k_less [false, false, false] (L' := [none, none, none]) rfl ?_
    exact tP_outOf_J10 hX hR σ hT
  · refine k_iload_n hX dP_outOf_5 rfl ?_
    refine k_iload_n hX dP_outOf_6 rfl ?_
    refine k_icmp_le (tgt := 14) hX dP_outOf_7 (by decide) ?_ ?_
    · refine k_iconst hX dP_outOf_14 ?_
      refine k_less [false, false, false] (L' := [none, none, none]) rfl ?_
      exact tP_outOf_J15 hX hR 0 σ hT
    · refine k_less [false, false, false] (L' := [none, none, none]) rfl ?_
      exact tP_outOf_J10 hX hR σ hT
theorem cl_43 {X : KC} {d n : Nat} {cc : ByteArray} {pc : Nat} {L : List (Option KV)} {st : List KV} {σ : KM} {Z : Type} {Θ : Z → Prop} {G : Int → KM → Option Z} {x0 x1 x2 : Int} (hX : kOk X d cc n "KeyPath") (hdd : 1 + 1 ≤ d) (hst : k_cat st ≤ 8) (hd : decode cc pc = .ok (.invokestatic 138, 3)) (h : ∀ r τ, kJ X (pc + 3) L (ki r :: st) τ (G r τ) Θ) : kJ X pc L (ki x2 :: ki x1 :: ki x0 :: st) σ (kCall (fP_outOf x0 x1 x2 σ) G) Θ :=
  k_callS (np := 3) (av := [ki x0, ki x1, ki x2]) (ret := (some .boolean)) hX (sP_outOf _ _ _ σ) ⟨⟨hdd, by decide⟩, tw_406, tw_1, by decide +kernel⟩ rfl tw_529 tw_405 hst hd h
theorem cl_69 {X : KC} {d n : Nat} {cc : ByteArray} {pc : Nat} {L : List (Option KV)} {st : List KV} {σ : KM} {Z : Type} {Θ : Z → Prop} {G : Int → KM → Option Z} {x0 x1 x2 : Int} (hX : kOk X d cc n "KeyPath$TextReader") (hdd : 1 + 1 ≤ d) (hst : k_cat st ≤ 8) (hd : decode cc pc = .ok (.invokestatic 89, 3)) (h : ∀ r τ, kJ X (pc + 3) L (ki r :: st) τ (G r τ) Θ) : kJ X pc L (ki x2 :: ki x1 :: ki x0 :: st) σ (kCall (fP_outOf x0 x1 x2 σ) G) Θ :=
  k_callSN (np := 3) (av := [ki x0, ki x1, ki x2]) (ret := (some .boolean)) hX (sP_outOf _ _ _ σ) ⟨⟨hdd, by decide⟩, tw_406, tw_1, by decide +kernel⟩ rfl (List.mem_of_getElem? (i := 9) rfl) tw_405 hst hd h
theorem cl_99 {X : KC} {d n : Nat} {cc : ByteArray} {pc : Nat} {L : List (Option KV)} {st : List KV} {σ : KM} {Z : Type} {Θ : Z → Prop} {G : Int → KM → Option Z} {x0 x1 x2 : Int} (hX : kOk X d cc n "KeyPath$Notes") (hdd : 1 + 1 ≤ d) (hst : k_cat st ≤ 8) (hd : decode cc pc = .ok (.invokestatic 35, 3)) (h : ∀ r τ, kJ X (pc + 3) L (ki r :: st) τ (G r τ) Θ) : kJ X pc L (ki x2 :: ki x1 :: ki x0 :: st) σ (kCall (fP_outOf x0 x1 x2 σ) G) Θ :=
  k_callSN (np := 3) (av := [ki x0, ki x1, ki x2]) (ret := (some .boolean)) hX (sP_outOf _ _ _ σ) ⟨⟨hdd, by decide⟩, tw_406, tw_1, by decide +kernel⟩ rfl (List.mem_of_getElem? (i := 11) rfl) tw_405 hst hd h
theorem dP_noKey_0 : decode prog_1_method_53_code 0 = .ok (.iconst 0, 1) := by decide +kernel
theorem dP_noKey_1 : decode prog_1_method_53_code 1 = .ok (.bipush 23, 2) := by decide +kernel
theorem dP_noKey_3 : decode prog_1_method_53_code 3 = .ok (.iload_n 0, 1) := by decide +kernel
theorem dP_noKey_4 : decode prog_1_method_53_code 4 = .ok (.invokestatic 138, 3) := by decide +kernel
theorem dP_noKey_7 : decode prog_1_method_53_code 7 = .ok (.ireturn, 1) := by decide +kernel
set_option maxRecDepth 100000 in
set_option maxHeartbeats 4000000 in
theorem sP_noKey (x0 : Int) (σ : KM) : kSem 2 (⟨"KeyPath", "noKey", "(I)Z"⟩ : MethodName) prog_1_method_53_code 1 (some .boolean) [ki x0] σ (fP_noKey x0 σ) := by
  refine kSem.of (L0 := [li x0]) (by decide) (Nat.le_of_ble_eq_true rfl) rfl (fun X q hX hR => ?_)
  have hT : ∀ z : Int × KM, (fun z => z = q) z → z = q := fun _ h => h
  refine k_iconst hX dP_noKey_0 ?_
  refine k_bipush hX dP_noKey_1 (by decide) ?_
  refine k_iload_n hX dP_noKey_3 rfl ?_
  refine cl_43 hX (by decide) (Nat.le_of_ble_eq_true rfl) dP_noKey_4 (fun r2 τ1 => ?_)
  exact k_zret hX hR hT dP_noKey_7
theorem cl_44 {X : KC} {d n : Nat} {cc : ByteArray} {pc : Nat} {L : List (Option KV)} {st : List KV} {σ : KM} {Z : Type} {Θ : Z → Prop} {G : Int → KM → Option Z} {x0 : Int} (hX : kOk X d cc n "KeyPath") (hdd : 2 + 1 ≤ d) (hst : k_cat st ≤ 8) (hd : decode cc pc = .ok (.invokestatic 190, 3)) (h : ∀ r τ, kJ X (pc + 3) L (ki r :: st) τ (G r τ) Θ) : kJ X pc L (ki x0 :: st) σ (kCall (fP_noKey x0 σ) G) Θ :=
  k_callS (np := 1) (av := [ki x0]) (ret := (some .boolean)) hX (sP_noKey _ σ) ⟨⟨hdd, by decide⟩, tw_593, tw_1, by decide +kernel⟩ rfl tw_591 tw_592 hst hd h
theorem dP_degree_0 : decode prog_1_method_41_code 0 = .ok (.iconst 0, 1) := by decide +kernel
theorem dP_degree_1 : decode prog_1_method_41_code 1 = .ok (.bipush 35, 2) := by decide +kernel
theorem dP_degree_3 : decode prog_1_method_41_code 3 = .ok (.iload_n 1, 1) := by decide +kernel
theorem dP_degree_4 : decode prog_1_method_41_code 4 = .ok (.invokestatic 138, 3) := by decide +kernel
theorem dP_degree_7 : decode prog_1_method_41_code 7 = .ok (.ifCond .ne 10, 3) := by decide +kernel
theorem dP_degree_10 : decode prog_1_method_41_code 10 = .ok (.iload_n 2, 1) := by decide +kernel
theorem dP_degree_11 : decode prog_1_method_41_code 11 = .ok (.invokestatic 190, 3) := by decide +kernel
theorem dP_degree_14 : decode prog_1_method_41_code 14 = .ok (.ifCond .eq 6, 3) := by decide +kernel
theorem dP_degree_17 : decode prog_1_method_41_code 17 = .ok (.bipush (-2), 2) := by decide +kernel
theorem dP_degree_19 : decode prog_1_method_41_code 19 = .ok (.ireturn, 1) := by decide +kernel
theorem dP_degree_20 : decode prog_1_method_41_code 20 = .ok (.iload_n 1, 1) := by decide +kernel
theorem dP_degree_21 : decode prog_1_method_41_code 21 = .ok (.iload_n 2, 1) := by decide +kernel
theorem dP_degree_22 : decode prog_1_method_41_code 22 = .ok (.invokestatic 295, 3) := by decide +kernel
theorem dP_degree_25 : decode prog_1_method_41_code 25 = .ok (.ireturn, 1) := by decide +kernel
set_option maxRecDepth 100000 in
set_option maxHeartbeats 4000000 in
theorem tP_degree_J17 {X : KC} {q : Int × KM} (hX : kOk X 4 prog_1_method_41_code 3 "KeyPath") (hR : kRet X (some .int) q) (σ : KM) {Θ : (Int × KM) → Prop} (hT : ∀ z, Θ (z) → z = q) : kJ X 17 [lq 0, none, none] [] σ (fP_degree_J17 σ) Θ := by
  refine k_bipush hX dP_degree_17 (by decide) ?_
  exact k_iret hX hR hT dP_degree_19
set_option maxRecDepth 100000 in
set_option maxHeartbeats 4000000 in
theorem sP_degree (x1 x2 : Int) (σ : KM) : kSem 4 (⟨"KeyPath", "degree", "(II)I"⟩ : MethodName) prog_1_method_41_code 3 (some .int) [kr 0, ki x1, ki x2] σ (fP_degree x1 x2 σ) := by
  refine kSem.of (L0 := [lq 0, li x1, li x2]) (by decide) (Nat.le_of_ble_eq_true rfl) rfl (fun X q hX hR => ?_)
  have hT : ∀ z : Int × KM, (fun z => z = q) z → z = q := fun _ h => h
  refine k_iconst hX dP_degree_0 ?_
  refine k_bipush hX dP_degree_1 (by decide) ?_
  refine k_iload_n hX dP_degree_3 rfl ?_
  refine cl_43 hX (by decide) (Nat.le_of_ble_eq_true rfl) dP_degree_4 (fun r2 τ1 => ?_)
  refine k_if_ne (tgt := 17) hX dP_degree_7 (by decide) ?_ ?_
  · refine k_less [true, false, false] (L' := [lq 0, none, none]) rfl ?_
    exact tP_degree_J17 hX hR τ1 hT
  · refine k_iload_n hX dP_degree_10 rfl ?_
    refine cl_44 hX (by decide) (Nat.le_of_ble_eq_true rfl) dP_degree_11 (fun r4 τ3 => ?_)
    refine k_if_eq (tgt := 20) hX dP_degree_14 (by decide) ?_ ?_
    · refine k_iload_n hX dP_degree_20 rfl ?_
      refine k_iload_n hX dP_degree_21 rfl ?_
      refine cl_37 hX (by decide) (Nat.le_of_ble_eq_true rfl) dP_degree_22 (fun r6 τ5 => ?_)
      exact k_iret hX hR hT dP_degree_25
    · refine k_less [true, false, false] (L' := [lq 0, none, none]) rfl ?_
      exact tP_degree_J17 hX hR τ3 hT
theorem dP_distance_0 : decode prog_1_method_20_code 0 = .ok (.iload_n 1, 1) := by decide +kernel
theorem dP_distance_1 : decode prog_1_method_20_code 1 = .ok (.invokestatic 190, 3) := by decide +kernel
theorem dP_distance_4 : decode prog_1_method_20_code 4 = .ok (.ifCond .ne 10, 3) := by decide +kernel
theorem dP_distance_7 : decode prog_1_method_20_code 7 = .ok (.iload_n 2, 1) := by decide +kernel
theorem dP_distance_8 : decode prog_1_method_20_code 8 = .ok (.invokestatic 190, 3) := by decide +kernel
theorem dP_distance_11 : decode prog_1_method_20_code 11 = .ok (.ifCond .eq 6, 3) := by decide +kernel
theorem dP_distance_14 : decode prog_1_method_20_code 14 = .ok (.bipush (-2), 2) := by decide +kernel
theorem dP_distance_16 : decode prog_1_method_20_code 16 = .ok (.ireturn, 1) := by decide +kernel
theorem dP_distance_17 : decode prog_1_method_20_code 17 = .ok (.aload_n 0, 1) := by decide +kernel
theorem dP_distance_18 : decode prog_1_method_20_code 18 = .ok (.getfield 47, 3) := by decide +kernel
theorem dP_distance_21 : decode prog_1_method_20_code 21 = .ok (.invokevirtual 224, 3) := by decide +kernel
theorem dP_distance_24 : decode prog_1_method_20_code 24 = .ok (.aload_n 0, 1) := by decide +kernel
theorem dP_distance_25 : decode prog_1_method_20_code 25 = .ok (.getfield 47, 3) := by decide +kernel
theorem dP_distance_28 : decode prog_1_method_20_code 28 = .ok (.getfield 171, 3) := by decide +kernel
theorem dP_distance_31 : decode prog_1_method_20_code 31 = .ok (.aload_n 0, 1) := by decide +kernel
theorem dP_distance_32 : decode prog_1_method_20_code 32 = .ok (.getfield 47, 3) := by decide +kernel
theorem dP_distance_35 : decode prog_1_method_20_code 35 = .ok (.getfield 227, 3) := by decide +kernel
theorem dP_distance_38 : decode prog_1_method_20_code 38 = .ok (.iload_n 1, 1) := by decide +kernel
theorem dP_distance_39 : decode prog_1_method_20_code 39 = .ok (.bipush 24, 2) := by decide +kernel
theorem dP_distance_41 : decode prog_1_method_20_code 41 = .ok (.imul, 1) := by decide +kernel
theorem dP_distance_42 : decode prog_1_method_20_code 42 = .ok (.iload_n 2, 1) := by decide +kernel
theorem dP_distance_43 : decode prog_1_method_20_code 43 = .ok (.iadd, 1) := by decide +kernel
theorem dP_distance_44 : decode prog_1_method_20_code 44 = .ok (.iaload, 1) := by decide +kernel
theorem dP_distance_45 : decode prog_1_method_20_code 45 = .ok (.imul, 1) := by decide +kernel
theorem dP_distance_46 : decode prog_1_method_20_code 46 = .ok (.ireturn, 1) := by decide +kernel
set_option maxRecDepth 100000 in
set_option maxHeartbeats 4000000 in
theorem tP_distance_J14 {X : KC} {q : Int × KM} (hX : kOk X 5 prog_1_method_20_code 3 "KeyPath") (hR : kRet X (some .int) q) (σ : KM) {Θ : (Int × KM) → Prop} (hT : ∀ z, Θ (z) → z = q) : kJ X 14 [lq 0, none, none] [] σ (fP_distance_J14 σ) Θ := by
  refine k_bipush hX dP_distance_14 (by decide) ?_
  exact k_iret hX hR hT dP_distance_16
set_option maxRecDepth 100000 in
set_option maxHeartbeats 4000000 in
theorem sP_distance (x1 x2 : Int) (σ : KM) : kSem 5 (⟨"KeyPath", "distance", "(II)I"⟩ : MethodName) prog_1_method_20_code 3 (some .int) [kr 0, ki x1, ki x2] σ (fP_distance x1 x2 σ) := by
  refine kSem.of (L0 := [lq 0, li x1, li x2]) (by decide) (Nat.le_of_ble_eq_true rfl) rfl (fun X q hX hR => ?_)
  have hT : ∀ z : Int × KM, (fun z => z = q) z → z = q := fun _ h => h
  refine k_iload_n hX dP_distance_0 rfl ?_
  refine cl_44 hX (by decide) (Nat.le_of_ble_eq_true rfl) dP_distance_1 (fun r2 τ1 => ?_)
  refine k_if_ne (tgt := 14) hX dP_distance_4 (by decide) ?_ ?_
  · refine k_less [true, false, false] (L' := [lq 0, none, none]) rfl ?_
    exact tP_distance_J14 hX hR τ1 hT
  · refine k_iload_n hX dP_distance_7 rfl ?_
    refine cl_44 hX (by decide) (Nat.le_of_ble_eq_true rfl) dP_distance_8 (fun r4 τ3 => ?_)
    refine k_if_eq (tgt := 17) hX dP_distance_11 (by decide) ?_ ?_
    · refine k_aload_n hX dP_distance_17 rfl ?_
      refine gf_32 hX dP_distance_18 ?_
      refine cl_22 hX (by decide) (Nat.le_of_ble_eq_true rfl) dP_distance_21 (fun _ τ5 => ?_)
      refine k_aload_n hX dP_distance_24 rfl ?_
      refine gf_32 hX dP_distance_25 ?_
      refine gf_50 hX dP_distance_28 ?_
      refine k_aload_n hX dP_distance_31 rfl ?_
      refine gf_32 hX dP_distance_32 ?_
      refine gf_84 hX dP_distance_35 ?_
      refine k_iload_n hX dP_distance_38 rfl ?_
      refine k_bipush hX dP_distance_39 (by decide) ?_
      refine k_imul hX dP_distance_41 ?_
      refine k_iload_n hX dP_distance_42 rfl ?_
      refine k_iadd hX dP_distance_43 ?_
      refine k_iald hX (by decide) rfl dP_distance_44 rfl (fun y6 => ?_)
      refine k_imul hX dP_distance_45 ?_
      exact k_iret hX hR hT dP_distance_46
    · refine k_less [true, false, false] (L' := [lq 0, none, none]) rfl ?_
      exact tP_distance_J14 hX hR τ3 hT
theorem dHi_forgetOldest_0 : decode prog_3_method_3_code 0 = .ok (.aload_n 0, 1) := by decide +kernel
theorem dHi_forgetOldest_1 : decode prog_3_method_3_code 1 = .ok (.bipush 9, 2) := by decide +kernel
theorem dHi_forgetOldest_3 : decode prog_3_method_3_code 3 = .ok (.putfield 27, 3) := by decide +kernel
theorem dHi_forgetOldest_6 : decode prog_3_method_3_code 6 = .ok (.aload_n 0, 1) := by decide +kernel
theorem dHi_forgetOldest_7 : decode prog_3_method_3_code 7 = .ok (.getfield 9, 3) := by decide +kernel
theorem dHi_forgetOldest_10 : decode prog_3_method_3_code 10 = .ok (.iconst 1, 1) := by decide +kernel
theorem dHi_forgetOldest_11 : decode prog_3_method_3_code 11 = .ok (.aload_n 0, 1) := by decide +kernel
theorem dHi_forgetOldest_12 : decode prog_3_method_3_code 12 = .ok (.getfield 9, 3) := by decide +kernel
theorem dHi_forgetOldest_15 : decode prog_3_method_3_code 15 = .ok (.iconst 0, 1) := by decide +kernel
theorem dHi_forgetOldest_16 : decode prog_3_method_3_code 16 = .ok (.aload_n 0, 1) := by decide +kernel
theorem dHi_forgetOldest_17 : decode prog_3_method_3_code 17 = .ok (.getfield 27, 3) := by decide +kernel
theorem dHi_forgetOldest_20 : decode prog_3_method_3_code 20 = .ok (.invokestatic 34, 3) := by decide +kernel
theorem dHi_forgetOldest_23 : decode prog_3_method_3_code 23 = .ok (.aload_n 0, 1) := by decide +kernel
theorem dHi_forgetOldest_24 : decode prog_3_method_3_code 24 = .ok (.getfield 15, 3) := by decide +kernel
theorem dHi_forgetOldest_27 : decode prog_3_method_3_code 27 = .ok (.iconst 1, 1) := by decide +kernel
theorem dHi_forgetOldest_28 : decode prog_3_method_3_code 28 = .ok (.aload_n 0, 1) := by decide +kernel
theorem dHi_forgetOldest_29 : decode prog_3_method_3_code 29 = .ok (.getfield 15, 3) := by decide +kernel
theorem dHi_forgetOldest_32 : decode prog_3_method_3_code 32 = .ok (.iconst 0, 1) := by decide +kernel
theorem dHi_forgetOldest_33 : decode prog_3_method_3_code 33 = .ok (.aload_n 0, 1) := by decide +kernel
theorem dHi_forgetOldest_34 : decode prog_3_method_3_code 34 = .ok (.getfield 27, 3) := by decide +kernel
theorem dHi_forgetOldest_37 : decode prog_3_method_3_code 37 = .ok (.invokestatic 34, 3) := by decide +kernel
theorem dHi_forgetOldest_40 : decode prog_3_method_3_code 40 = .ok (.aload_n 0, 1) := by decide +kernel
theorem dHi_forgetOldest_41 : decode prog_3_method_3_code 41 = .ok (.getfield 18, 3) := by decide +kernel
theorem dHi_forgetOldest_44 : decode prog_3_method_3_code 44 = .ok (.iconst 1, 1) := by decide +kernel
theorem dHi_forgetOldest_45 : decode prog_3_method_3_code 45 = .ok (.aload_n 0, 1) := by decide +kernel
theorem dHi_forgetOldest_46 : decode prog_3_method_3_code 46 = .ok (.getfield 18, 3) := by decide +kernel
theorem dHi_forgetOldest_49 : decode prog_3_method_3_code 49 = .ok (.iconst 0, 1) := by decide +kernel
theorem dHi_forgetOldest_50 : decode prog_3_method_3_code 50 = .ok (.aload_n 0, 1) := by decide +kernel
theorem dHi_forgetOldest_51 : decode prog_3_method_3_code 51 = .ok (.getfield 27, 3) := by decide +kernel
theorem dHi_forgetOldest_54 : decode prog_3_method_3_code 54 = .ok (.invokestatic 34, 3) := by decide +kernel
theorem dHi_forgetOldest_57 : decode prog_3_method_3_code 57 = .ok (.aload_n 0, 1) := by decide +kernel
theorem dHi_forgetOldest_58 : decode prog_3_method_3_code 58 = .ok (.getfield 21, 3) := by decide +kernel
theorem dHi_forgetOldest_61 : decode prog_3_method_3_code 61 = .ok (.iconst 1, 1) := by decide +kernel
theorem dHi_forgetOldest_62 : decode prog_3_method_3_code 62 = .ok (.aload_n 0, 1) := by decide +kernel
theorem dHi_forgetOldest_63 : decode prog_3_method_3_code 63 = .ok (.getfield 21, 3) := by decide +kernel
theorem dHi_forgetOldest_66 : decode prog_3_method_3_code 66 = .ok (.iconst 0, 1) := by decide +kernel
theorem dHi_forgetOldest_67 : decode prog_3_method_3_code 67 = .ok (.aload_n 0, 1) := by decide +kernel
theorem dHi_forgetOldest_68 : decode prog_3_method_3_code 68 = .ok (.getfield 27, 3) := by decide +kernel
theorem dHi_forgetOldest_71 : decode prog_3_method_3_code 71 = .ok (.invokestatic 34, 3) := by decide +kernel
theorem dHi_forgetOldest_74 : decode prog_3_method_3_code 74 = .ok (.aload_n 0, 1) := by decide +kernel
theorem dHi_forgetOldest_75 : decode prog_3_method_3_code 75 = .ok (.getfield 24, 3) := by decide +kernel
theorem dHi_forgetOldest_78 : decode prog_3_method_3_code 78 = .ok (.iconst 1, 1) := by decide +kernel
theorem dHi_forgetOldest_79 : decode prog_3_method_3_code 79 = .ok (.aload_n 0, 1) := by decide +kernel
theorem dHi_forgetOldest_80 : decode prog_3_method_3_code 80 = .ok (.getfield 24, 3) := by decide +kernel
theorem dHi_forgetOldest_83 : decode prog_3_method_3_code 83 = .ok (.iconst 0, 1) := by decide +kernel
theorem dHi_forgetOldest_84 : decode prog_3_method_3_code 84 = .ok (.aload_n 0, 1) := by decide +kernel
theorem dHi_forgetOldest_85 : decode prog_3_method_3_code 85 = .ok (.getfield 27, 3) := by decide +kernel
theorem dHi_forgetOldest_88 : decode prog_3_method_3_code 88 = .ok (.invokestatic 34, 3) := by decide +kernel
theorem dHi_forgetOldest_91 : decode prog_3_method_3_code 91 = .ok (.return_, 1) := by decide +kernel
set_option maxRecDepth 100000 in
set_option maxHeartbeats 4000000 in
theorem sHi_forgetOldest (σ : KM) : kSem 1 (⟨"KeyPath$History", "forgetOldest", "()V"⟩ : MethodName) prog_3_method_3_code 1 none [kr 4] σ (fHi_forgetOldest σ) := by
  refine kSem.of (L0 := [lq 4]) (by decide) (Nat.le_of_ble_eq_true rfl) rfl (fun X q hX hR => ?_)
  have hT : ∀ z : Int × KM, (fun z => z = q) z → z = q := fun _ h => h
  refine k_aload_n hX dHi_forgetOldest_0 rfl ?_
  refine k_bipush hX dHi_forgetOldest_1 (by decide) ?_
  refine gp_94 hX dHi_forgetOldest_3 (fun τ1 => ?_)
  refine k_aload_n hX dHi_forgetOldest_6 rfl ?_
  refine gf_89 hX dHi_forgetOldest_7 ?_
  refine k_iconst hX dHi_forgetOldest_10 ?_
  refine k_aload_n hX dHi_forgetOldest_11 rfl ?_
  refine gf_89 hX dHi_forgetOldest_12 ?_
  refine k_iconst hX dHi_forgetOldest_15 ?_
  refine k_aload_n hX dHi_forgetOldest_16 rfl ?_
  refine gf_88 hX dHi_forgetOldest_17 ?_
  refine k_copy hX (by decide) (Nat.le_of_ble_eq_true rfl) (by decide) (by decide) rfl rfl tw_488 tw_425 tw_424 tw_13 dHi_forgetOldest_20 rfl rfl (fun τ2 => ?_)
  refine k_aload_n hX dHi_forgetOldest_23 rfl ?_
  refine gf_90 hX dHi_forgetOldest_24 ?_
  refine k_iconst hX dHi_forgetOldest_27 ?_
  refine k_aload_n hX dHi_forgetOldest_28 rfl ?_
  refine gf_90 hX dHi_forgetOldest_29 ?_
  refine k_iconst hX dHi_forgetOldest_32 ?_
  refine k_aload_n hX dHi_forgetOldest_33 rfl ?_
  refine gf_88 hX dHi_forgetOldest_34 ?_
  refine k_copy hX (by decide) (Nat.le_of_ble_eq_true rfl) (by decide) (by decide) rfl rfl tw_488 tw_425 tw_424 tw_13 dHi_forgetOldest_37 rfl rfl (fun τ3 => ?_)
  refine k_aload_n hX dHi_forgetOldest_40 rfl ?_
  refine gf_91 hX dHi_forgetOldest_41 ?_
  refine k_iconst hX dHi_forgetOldest_44 ?_
  refine k_aload_n hX dHi_forgetOldest_45 rfl ?_
  refine gf_91 hX dHi_forgetOldest_46 ?_
  refine k_iconst hX dHi_forgetOldest_49 ?_
  refine k_aload_n hX dHi_forgetOldest_50 rfl ?_
  refine gf_88 hX dHi_forgetOldest_51 ?_
  refine k_copy hX (by decide) (Nat.le_of_ble_eq_true rfl) (by decide) (by decide) rfl rfl tw_488 tw_425 tw_424 tw_13 dHi_forgetOldest_54 rfl rfl (fun τ4 => ?_)
  refine k_aload_n hX dHi_forgetOldest_57 rfl ?_
  refine gf_92 hX dHi_forgetOldest_58 ?_
  refine k_iconst hX dHi_forgetOldest_61 ?_
  refine k_aload_n hX dHi_forgetOldest_62 rfl ?_
  refine gf_92 hX dHi_forgetOldest_63 ?_
  refine k_iconst hX dHi_forgetOldest_66 ?_
  refine k_aload_n hX dHi_forgetOldest_67 rfl ?_
  refine gf_88 hX dHi_forgetOldest_68 ?_
  refine k_copy hX (by decide) (Nat.le_of_ble_eq_true rfl) (by decide) (by decide) rfl rfl tw_488 tw_425 tw_424 tw_13 dHi_forgetOldest_71 rfl rfl (fun τ5 => ?_)
  refine k_aload_n hX dHi_forgetOldest_74 rfl ?_
  refine gf_93 hX dHi_forgetOldest_75 ?_
  refine k_iconst hX dHi_forgetOldest_78 ?_
  refine k_aload_n hX dHi_forgetOldest_79 rfl ?_
  refine gf_93 hX dHi_forgetOldest_80 ?_
  refine k_iconst hX dHi_forgetOldest_83 ?_
  refine k_aload_n hX dHi_forgetOldest_84 rfl ?_
  refine gf_88 hX dHi_forgetOldest_85 ?_
  refine k_copy hX (by decide) (Nat.le_of_ble_eq_true rfl) (by decide) (by decide) rfl rfl tw_488 tw_425 tw_424 tw_13 dHi_forgetOldest_88 rfl rfl (fun τ6 => ?_)
  exact k_vret hX hR hT dHi_forgetOldest_91
theorem cl_45 {X : KC} {d n : Nat} {cc : ByteArray} {pc : Nat} {L : List (Option KV)} {st : List KV} {σ : KM} {Z : Type} {Θ : Z → Prop} {G : Int → KM → Option Z} (hX : kOk X d cc n "KeyPath$History") (hdd : 1 + 1 ≤ d) (hst : k_cat st ≤ 8) (hd : decode cc pc = .ok (.invokevirtual 31, 3)) (h : ∀ r τ, kJ X (pc + 3) L (st) τ (G r τ) Θ) : kJ X pc L (kr 4 :: st) σ (kCall (fHi_forgetOldest σ) G) Θ :=
  k_callV (np := 0) (av := []) (ret := none) hX (by decide) rfl rfl rfl (sHi_forgetOldest σ) ⟨⟨hdd, by decide⟩, tw_487, tw_4, by decide +kernel⟩ rfl tw_484 tw_486 ts_14 hst hd h
theorem dHi_remember_0 : decode prog_3_method_2_code 0 = .ok (.aload_n 0, 1) := by decide +kernel
theorem dHi_remember_1 : decode prog_3_method_2_code 1 = .ok (.getfield 27, 3) := by decide +kernel
theorem dHi_remember_4 : decode prog_3_method_2_code 4 = .ok (.bipush 10, 2) := by decide +kernel
theorem dHi_remember_6 : decode prog_3_method_2_code 6 = .ok (.if_icmp .lt 7, 3) := by decide +kernel
theorem dHi_remember_9 : decode prog_3_method_2_code 9 = .ok (.aload_n 0, 1) := by decide +kernel
theorem dHi_remember_10 : decode prog_3_method_2_code 10 = .ok (.invokevirtual 31, 3) := by decide +kernel
theorem dHi_remember_13 : decode prog_3_method_2_code 13 = .ok (.aload_n 0, 1) := by decide +kernel
theorem dHi_remember_14 : decode prog_3_method_2_code 14 = .ok (.getfield 9, 3) := by decide +kernel
theorem dHi_remember_17 : decode prog_3_method_2_code 17 = .ok (.aload_n 0, 1) := by decide +kernel
theorem dHi_remember_18 : decode prog_3_method_2_code 18 = .ok (.getfield 27, 3) := by decide +kernel
theorem dHi_remember_21 : decode prog_3_method_2_code 21 = .ok (.iload_n 1, 1) := by decide +kernel
theorem dHi_remember_22 : decode prog_3_method_2_code 22 = .ok (.iastore, 1) := by decide +kernel
theorem dHi_remember_23 : decode prog_3_method_2_code 23 = .ok (.aload_n 0, 1) := by decide +kernel
theorem dHi_remember_24 : decode prog_3_method_2_code 24 = .ok (.getfield 15, 3) := by decide +kernel
theorem dHi_remember_27 : decode prog_3_method_2_code 27 = .ok (.aload_n 0, 1) := by decide +kernel
theorem dHi_remember_28 : decode prog_3_method_2_code 28 = .ok (.getfield 27, 3) := by decide +kernel
theorem dHi_remember_31 : decode prog_3_method_2_code 31 = .ok (.iload_n 2, 1) := by decide +kernel
theorem dHi_remember_32 : decode prog_3_method_2_code 32 = .ok (.iastore, 1) := by decide +kernel
theorem dHi_remember_33 : decode prog_3_method_2_code 33 = .ok (.aload_n 0, 1) := by decide +kernel
theorem dHi_remember_34 : decode prog_3_method_2_code 34 = .ok (.getfield 18, 3) := by decide +kernel
theorem dHi_remember_37 : decode prog_3_method_2_code 37 = .ok (.aload_n 0, 1) := by decide +kernel
theorem dHi_remember_38 : decode prog_3_method_2_code 38 = .ok (.getfield 27, 3) := by decide +kernel
theorem dHi_remember_41 : decode prog_3_method_2_code 41 = .ok (.iload_n 3, 1) := by decide +kernel
theorem dHi_remember_42 : decode prog_3_method_2_code 42 = .ok (.iastore, 1) := by decide +kernel
theorem dHi_remember_43 : decode prog_3_method_2_code 43 = .ok (.aload_n 0, 1) := by decide +kernel
theorem dHi_remember_44 : decode prog_3_method_2_code 44 = .ok (.getfield 21, 3) := by decide +kernel
theorem dHi_remember_47 : decode prog_3_method_2_code 47 = .ok (.aload_n 0, 1) := by decide +kernel
theorem dHi_remember_48 : decode prog_3_method_2_code 48 = .ok (.getfield 27, 3) := by decide +kernel
theorem dHi_remember_51 : decode prog_3_method_2_code 51 = .ok (.iload 4, 2) := by decide +kernel
theorem dHi_remember_53 : decode prog_3_method_2_code 53 = .ok (.iastore, 1) := by decide +kernel
theorem dHi_remember_54 : decode prog_3_method_2_code 54 = .ok (.aload_n 0, 1) := by decide +kernel
theorem dHi_remember_55 : decode prog_3_method_2_code 55 = .ok (.getfield 24, 3) := by decide +kernel
theorem dHi_remember_58 : decode prog_3_method_2_code 58 = .ok (.aload_n 0, 1) := by decide +kernel
theorem dHi_remember_59 : decode prog_3_method_2_code 59 = .ok (.getfield 27, 3) := by decide +kernel
theorem dHi_remember_62 : decode prog_3_method_2_code 62 = .ok (.iload 5, 2) := by decide +kernel
theorem dHi_remember_64 : decode prog_3_method_2_code 64 = .ok (.iastore, 1) := by decide +kernel
theorem dHi_remember_65 : decode prog_3_method_2_code 65 = .ok (.aload_n 0, 1) := by decide +kernel
theorem dHi_remember_66 : decode prog_3_method_2_code 66 = .ok (.dup, 1) := by decide +kernel
theorem dHi_remember_67 : decode prog_3_method_2_code 67 = .ok (.getfield 27, 3) := by decide +kernel
theorem dHi_remember_70 : decode prog_3_method_2_code 70 = .ok (.iconst 1, 1) := by decide +kernel
theorem dHi_remember_71 : decode prog_3_method_2_code 71 = .ok (.iadd, 1) := by decide +kernel
theorem dHi_remember_72 : decode prog_3_method_2_code 72 = .ok (.putfield 27, 3) := by decide +kernel
theorem dHi_remember_75 : decode prog_3_method_2_code 75 = .ok (.return_, 1) := by decide +kernel
set_option maxRecDepth 100000 in
set_option maxHeartbeats 4000000 in
theorem tHi_remember_J13 {X : KC} {q : Int × KM} (hX : kOk X 2 prog_3_method_2_code 6 "KeyPath$History") (hR : kRet X none q) (x1 x2 x3 x4 x5 : Int) (σ : KM) {Θ : (Int × KM) → Prop} (hT : ∀ z, Θ (z) → z = q) : kJ X 13 [lq 4, li x1, li x2, li x3, li x4, li x5] [] σ (fHi_remember_J13 x1 x2 x3 x4 x5 σ) Θ := by
  refine k_aload_n hX dHi_remember_13 rfl ?_
  refine gf_89 hX dHi_remember_14 ?_
  refine k_aload_n hX dHi_remember_17 rfl ?_
  refine gf_88 hX dHi_remember_18 ?_
  refine k_iload_n hX dHi_remember_21 rfl ?_
  refine k_iast hX (by decide) rfl dHi_remember_22 rfl (fun τ1 => ?_)
  refine k_aload_n hX dHi_remember_23 rfl ?_
  refine gf_90 hX dHi_remember_24 ?_
  refine k_aload_n hX dHi_remember_27 rfl ?_
  refine gf_88 hX dHi_remember_28 ?_
  refine k_iload_n hX dHi_remember_31 rfl ?_
  refine k_iast hX (by decide) rfl dHi_remember_32 rfl (fun τ2 => ?_)
  refine k_aload_n hX dHi_remember_33 rfl ?_
  refine gf_91 hX dHi_remember_34 ?_
  refine k_aload_n hX dHi_remember_37 rfl ?_
  refine gf_88 hX dHi_remember_38 ?_
  refine k_iload_n hX dHi_remember_41 rfl ?_
  refine k_iast hX (by decide) rfl dHi_remember_42 rfl (fun τ3 => ?_)
  refine k_aload_n hX dHi_remember_43 rfl ?_
  refine gf_92 hX dHi_remember_44 ?_
  refine k_aload_n hX dHi_remember_47 rfl ?_
  refine gf_88 hX dHi_remember_48 ?_
  refine k_iload hX dHi_remember_51 rfl ?_
  refine k_iast hX (by decide) rfl dHi_remember_53 rfl (fun τ4 => ?_)
  refine k_aload_n hX dHi_remember_54 rfl ?_
  refine gf_93 hX dHi_remember_55 ?_
  refine k_aload_n hX dHi_remember_58 rfl ?_
  refine gf_88 hX dHi_remember_59 ?_
  refine k_iload hX dHi_remember_62 rfl ?_
  refine k_iast hX (by decide) rfl dHi_remember_64 rfl (fun τ5 => ?_)
  refine k_aload_n hX dHi_remember_65 rfl ?_
  refine k_dupr hX dHi_remember_66 ?_
  refine gf_88 hX dHi_remember_67 ?_
  refine k_iconst hX dHi_remember_70 ?_
  refine k_iadd hX dHi_remember_71 ?_
  refine gp_94 hX dHi_remember_72 (fun τ6 => ?_)
  exact k_vret hX hR hT dHi_remember_75
set_option maxRecDepth 100000 in
set_option maxHeartbeats 4000000 in
theorem sHi_remember (x1 x2 x3 x4 x5 : Int) (σ : KM) : kSem 2 (⟨"KeyPath$History", "remember", "(IIIII)V"⟩ : MethodName) prog_3_method_2_code 6 none [kr 4, ki x1, ki x2, ki x3, ki x4, ki x5] σ (fHi_remember x1 x2 x3 x4 x5 σ) := by
  refine kSem.of (L0 := [lq 4, li x1, li x2, li x3, li x4, li x5]) (by decide) (Nat.le_of_ble_eq_true rfl) rfl (fun X q hX hR => ?_)
  have hT : ∀ z : Int × KM, (fun z => z = q) z → z = q := fun _ h => h
  refine k_aload_n hX dHi_remember_0 rfl ?_
  refine gf_88 hX dHi_remember_1 ?_
  refine k_bipush hX dHi_remember_4 (by decide) ?_
  refine k_icmp_lt (tgt := 13) hX dHi_remember_6 (by decide) ?_ ?_
  · exact tHi_remember_J13 hX hR x1 x2 x3 x4 x5 σ hT
  · refine k_aload_n hX dHi_remember_9 rfl ?_
    refine cl_45 hX (by decide) (Nat.le_of_ble_eq_true rfl) dHi_remember_10 (fun _ τ1 => ?_)
    exact tHi_remember_J13 hX hR x1 x2 x3 x4 x5 τ1 hT
theorem cl_46 {X : KC} {d n : Nat} {cc : ByteArray} {pc : Nat} {L : List (Option KV)} {st : List KV} {σ : KM} {Z : Type} {Θ : Z → Prop} {G : Int → KM → Option Z} {x1 x2 x3 x4 x5 : Int} (hX : kOk X d cc n "KeyPath") (hdd : 2 + 1 ≤ d) (hst : k_cat st ≤ 8) (hd : decode cc pc = .ok (.invokevirtual 110, 3)) (h : ∀ r τ, kJ X (pc + 3) L (st) τ (G r τ) Θ) : kJ X pc L (ki x5 :: ki x4 :: ki x3 :: ki x2 :: ki x1 :: kr 4 :: st) σ (kCall (fHi_remember x1 x2 x3 x4 x5 σ) G) Θ :=
  k_callV (np := 5) (av := [ki x1, ki x2, ki x3, ki x4, ki x5]) (ret := none) hX (by decide) rfl rfl rfl (sHi_remember _ _ _ _ _ σ) ⟨⟨hdd, by decide⟩, tw_483, tw_4, by decide +kernel⟩ rfl tw_480 tw_481 tw_482 hst hd h
theorem dNo_remove_0 : decode prog_5_method_6_code 0 = .ok (.iload_n 1, 1) := by decide +kernel
theorem dNo_remove_1 : decode prog_5_method_6_code 1 = .ok (.ifCond .lt 11, 3) := by decide +kernel
theorem dNo_remove_4 : decode prog_5_method_6_code 4 = .ok (.iload_n 1, 1) := by decide +kernel
theorem dNo_remove_5 : decode prog_5_method_6_code 5 = .ok (.aload_n 0, 1) := by decide +kernel
theorem dNo_remove_6 : decode prog_5_method_6_code 6 = .ok (.getfield 21, 3) := by decide +kernel
theorem dNo_remove_9 : decode prog_5_method_6_code 9 = .ok (.if_icmp .lt 4, 3) := by decide +kernel
theorem dNo_remove_12 : decode prog_5_method_6_code 12 = .ok (.return_, 1) := by decide +kernel
theorem dNo_remove_13 : decode prog_5_method_6_code 13 = .ok (.aload_n 0, 1) := by decide +kernel
theorem dNo_remove_14 : decode prog_5_method_6_code 14 = .ok (.getfield 21, 3) := by decide +kernel
theorem dNo_remove_17 : decode prog_5_method_6_code 17 = .ok (.iload_n 1, 1) := by decide +kernel
theorem dNo_remove_18 : decode prog_5_method_6_code 18 = .ok (.isub, 1) := by decide +kernel
theorem dNo_remove_19 : decode prog_5_method_6_code 19 = .ok (.iconst 1, 1) := by decide +kernel
theorem dNo_remove_20 : decode prog_5_method_6_code 20 = .ok (.isub, 1) := by decide +kernel
theorem dNo_remove_21 : decode prog_5_method_6_code 21 = .ok (.istore_n 2, 1) := by decide +kernel
theorem dNo_remove_22 : decode prog_5_method_6_code 22 = .ok (.aload_n 0, 1) := by decide +kernel
theorem dNo_remove_23 : decode prog_5_method_6_code 23 = .ok (.getfield 9, 3) := by decide +kernel
theorem dNo_remove_26 : decode prog_5_method_6_code 26 = .ok (.iload_n 1, 1) := by decide +kernel
theorem dNo_remove_27 : decode prog_5_method_6_code 27 = .ok (.iconst 1, 1) := by decide +kernel
theorem dNo_remove_28 : decode prog_5_method_6_code 28 = .ok (.iadd, 1) := by decide +kernel
theorem dNo_remove_29 : decode prog_5_method_6_code 29 = .ok (.aload_n 0, 1) := by decide +kernel
theorem dNo_remove_30 : decode prog_5_method_6_code 30 = .ok (.getfield 9, 3) := by decide +kernel
theorem dNo_remove_33 : decode prog_5_method_6_code 33 = .ok (.iload_n 1, 1) := by decide +kernel
theorem dNo_remove_34 : decode prog_5_method_6_code 34 = .ok (.iload_n 2, 1) := by decide +kernel
theorem dNo_remove_35 : decode prog_5_method_6_code 35 = .ok (.invokestatic 29, 3) := by decide +kernel
theorem dNo_remove_38 : decode prog_5_method_6_code 38 = .ok (.aload_n 0, 1) := by decide +kernel
theorem dNo_remove_39 : decode prog_5_method_6_code 39 = .ok (.getfield 15, 3) := by decide +kernel
theorem dNo_remove_42 : decode prog_5_method_6_code 42 = .ok (.iload_n 1, 1) := by decide +kernel
theorem dNo_remove_43 : decode prog_5_method_6_code 43 = .ok (.iconst 1, 1) := by decide +kernel
theorem dNo_remove_44 : decode prog_5_method_6_code 44 = .ok (.iadd, 1) := by decide +kernel
theorem dNo_remove_45 : decode prog_5_method_6_code 45 = .ok (.aload_n 0, 1) := by decide +kernel
theorem dNo_remove_46 : decode prog_5_method_6_code 46 = .ok (.getfield 15, 3) := by decide +kernel
theorem dNo_remove_49 : decode prog_5_method_6_code 49 = .ok (.iload_n 1, 1) := by decide +kernel
theorem dNo_remove_50 : decode prog_5_method_6_code 50 = .ok (.iload_n 2, 1) := by decide +kernel
theorem dNo_remove_51 : decode prog_5_method_6_code 51 = .ok (.invokestatic 29, 3) := by decide +kernel
theorem dNo_remove_54 : decode prog_5_method_6_code 54 = .ok (.aload_n 0, 1) := by decide +kernel
theorem dNo_remove_55 : decode prog_5_method_6_code 55 = .ok (.getfield 18, 3) := by decide +kernel
theorem dNo_remove_58 : decode prog_5_method_6_code 58 = .ok (.iload_n 1, 1) := by decide +kernel
theorem dNo_remove_59 : decode prog_5_method_6_code 59 = .ok (.iconst 1, 1) := by decide +kernel
theorem dNo_remove_60 : decode prog_5_method_6_code 60 = .ok (.iadd, 1) := by decide +kernel
theorem dNo_remove_61 : decode prog_5_method_6_code 61 = .ok (.aload_n 0, 1) := by decide +kernel
theorem dNo_remove_62 : decode prog_5_method_6_code 62 = .ok (.getfield 18, 3) := by decide +kernel
theorem dNo_remove_65 : decode prog_5_method_6_code 65 = .ok (.iload_n 1, 1) := by decide +kernel
theorem dNo_remove_66 : decode prog_5_method_6_code 66 = .ok (.iload_n 2, 1) := by decide +kernel
theorem dNo_remove_67 : decode prog_5_method_6_code 67 = .ok (.invokestatic 29, 3) := by decide +kernel
theorem dNo_remove_70 : decode prog_5_method_6_code 70 = .ok (.aload_n 0, 1) := by decide +kernel
theorem dNo_remove_71 : decode prog_5_method_6_code 71 = .ok (.dup, 1) := by decide +kernel
theorem dNo_remove_72 : decode prog_5_method_6_code 72 = .ok (.getfield 21, 3) := by decide +kernel
theorem dNo_remove_75 : decode prog_5_method_6_code 75 = .ok (.iconst 1, 1) := by decide +kernel
theorem dNo_remove_76 : decode prog_5_method_6_code 76 = .ok (.isub, 1) := by decide +kernel
theorem dNo_remove_77 : decode prog_5_method_6_code 77 = .ok (.putfield 21, 3) := by decide +kernel
theorem dNo_remove_80 : decode prog_5_method_6_code 80 = .ok (.return_, 1) := by decide +kernel
set_option maxRecDepth 100000 in
set_option maxHeartbeats 4000000 in
theorem tNo_remove_J12 {X : KC} {q : Int × KM} (hX : kOk X 1 prog_5_method_6_code 3 "KeyPath$Notes") (hR : kRet X none q) (σ : KM) {Θ : (Int × KM) → Prop} (hT : ∀ z, Θ (z) → z = q) : kJ X 12 [lq 3, none, none] [] σ (fNo_remove_J12 σ) Θ := by
  exact k_vret hX hR hT dNo_remove_12
set_option maxRecDepth 100000 in
set_option maxHeartbeats 4000000 in
theorem sNo_remove (x1 : Int) (σ : KM) : kSem 1 (⟨"KeyPath$Notes", "remove", "(I)V"⟩ : MethodName) prog_5_method_6_code 3 none [kr 3, ki x1] σ (fNo_remove x1 σ) := by
  refine kSem.of (L0 := [lq 3, li x1, none]) (by decide) (Nat.le_of_ble_eq_true rfl) rfl (fun X q hX hR => ?_)
  have hT : ∀ z : Int × KM, (fun z => z = q) z → z = q := fun _ h => h
  refine k_iload_n hX dNo_remove_0 rfl ?_
  refine k_if_lt (tgt := 12) hX dNo_remove_1 (by decide) ?_ ?_
  · refine k_less [true, false, true] (L' := [lq 3, none, none]) rfl ?_
    exact tNo_remove_J12 hX hR σ hT
  · refine k_iload_n hX dNo_remove_4 rfl ?_
    refine k_aload_n hX dNo_remove_5 rfl ?_
    refine gf_3 hX dNo_remove_6 ?_
    refine k_icmp_lt (tgt := 13) hX dNo_remove_9 (by decide) ?_ ?_
    · refine k_aload_n hX dNo_remove_13 rfl ?_
      refine gf_3 hX dNo_remove_14 ?_
      refine k_iload_n hX dNo_remove_17 rfl ?_
      refine k_isub hX dNo_remove_18 ?_
      refine k_iconst hX dNo_remove_19 ?_
      refine k_isub hX dNo_remove_20 ?_
      refine k_istoreL_n (Lf := fun y1 => [lq 3, li x1, li y1]) hX dNo_remove_21 rfl (by decide) (fun _ => rfl) (fun y1 => ?_)
      refine k_aload_n hX dNo_remove_22 rfl ?_
      refine gf_4 hX dNo_remove_23 ?_
      refine k_iload_n hX dNo_remove_26 rfl ?_
      refine k_iconst hX dNo_remove_27 ?_
      refine k_iadd hX dNo_remove_28 ?_
      refine k_aload_n hX dNo_remove_29 rfl ?_
      refine gf_4 hX dNo_remove_30 ?_
      refine k_iload_n hX dNo_remove_33 rfl ?_
      refine k_iload_n hX dNo_remove_34 rfl ?_
      refine k_copy hX (by decide) (Nat.le_of_ble_eq_true rfl) (by decide) (by decide) rfl rfl tw_423 tw_425 tw_424 tw_13 dNo_remove_35 rfl rfl (fun τ2 => ?_)
      refine k_aload_n hX dNo_remove_38 rfl ?_
      refine gf_5 hX dNo_remove_39 ?_
      refine k_iload_n hX dNo_remove_42 rfl ?_
      refine k_iconst hX dNo_remove_43 ?_
      refine k_iadd hX dNo_remove_44 ?_
      refine k_aload_n hX dNo_remove_45 rfl ?_
      refine gf_5 hX dNo_remove_46 ?_
      refine k_iload_n hX dNo_remove_49 rfl ?_
      refine k_iload_n hX dNo_remove_50 rfl ?_
      refine k_copy hX (by decide) (Nat.le_of_ble_eq_true rfl) (by decide) (by decide) rfl rfl tw_423 tw_425 tw_424 tw_13 dNo_remove_51 rfl rfl (fun τ3 => ?_)
      refine k_aload_n hX dNo_remove_54 rfl ?_
      refine gf_95 hX dNo_remove_55 ?_
      refine k_iload_n hX dNo_remove_58 rfl ?_
      refine k_iconst hX dNo_remove_59 ?_
      refine k_iadd hX dNo_remove_60 ?_
      refine k_aload_n hX dNo_remove_61 rfl ?_
      refine gf_95 hX dNo_remove_62 ?_
      refine k_iload_n hX dNo_remove_65 rfl ?_
      refine k_iload_n hX dNo_remove_66 rfl ?_
      refine k_copy hX (by decide) (Nat.le_of_ble_eq_true rfl) (by decide) (by decide) rfl rfl tw_423 tw_425 tw_424 tw_13 dNo_remove_67 rfl rfl (fun τ4 => ?_)
      refine k_aload_n hX dNo_remove_70 rfl ?_
      refine k_dupr hX dNo_remove_71 ?_
      refine gf_3 hX dNo_remove_72 ?_
      refine k_iconst hX dNo_remove_75 ?_
      refine k_isub hX dNo_remove_76 ?_
      refine gp_96 hX dNo_remove_77 (fun τ5 => ?_)
      exact k_vret hX hR hT dNo_remove_80
    · refine k_less [true, false, true] (L' := [lq 3, none, none]) rfl ?_
      exact tNo_remove_J12 hX hR σ hT
theorem cl_47 {X : KC} {d n : Nat} {cc : ByteArray} {pc : Nat} {L : List (Option KV)} {st : List KV} {σ : KM} {Z : Type} {Θ : Z → Prop} {G : Int → KM → Option Z} {x1 : Int} (hX : kOk X d cc n "KeyPath") (hdd : 1 + 1 ≤ d) (hst : k_cat st ≤ 8) (hd : decode cc pc = .ok (.invokevirtual 124, 3)) (h : ∀ r τ, kJ X (pc + 3) L (st) τ (G r τ) Θ) : kJ X pc L (ki x1 :: kr 3 :: st) σ (kCall (fNo_remove x1 σ) G) Θ :=
  k_callV (np := 1) (av := [ki x1]) (ret := none) hX (by decide) rfl rfl rfl (sNo_remove _ σ) ⟨⟨hdd, by decide⟩, tw_496, tw_3, by decide +kernel⟩ rfl tw_493 tw_494 tw_495 hst hd h
theorem cl_105 {X : KC} {d n : Nat} {cc : ByteArray} {pc : Nat} {L : List (Option KV)} {st : List KV} {σ : KM} {Z : Type} {Θ : Z → Prop} {G : Int → KM → Option Z} {x1 : Int} (hX : kOk X d cc n "KeyPath$History") (hdd : 1 + 1 ≤ d) (hst : k_cat st ≤ 8) (hd : decode cc pc = .ok (.invokevirtual 40, 3)) (h : ∀ r τ, kJ X (pc + 3) L (st) τ (G r τ) Θ) : kJ X pc L (ki x1 :: kr 3 :: st) σ (kCall (fNo_remove x1 σ) G) Θ :=
  k_callV (np := 1) (av := [ki x1]) (ret := none) hX (by decide) rfl rfl rfl (sNo_remove _ σ) ⟨⟨hdd, by decide⟩, tw_496, tw_3, by decide +kernel⟩ rfl tw_518 tw_494 tw_495 hst hd h
theorem dP_pathChanged_0 : decode prog_1_method_46_code 0 = .ok (.aload_n 0, 1) := by decide +kernel
theorem dP_pathChanged_1 : decode prog_1_method_46_code 1 = .ok (.getfield 54, 3) := by decide +kernel
theorem dP_pathChanged_4 : decode prog_1_method_46_code 4 = .ok (.iconst 1, 1) := by decide +kernel
theorem dP_pathChanged_5 : decode prog_1_method_46_code 5 = .ok (.putfield 331, 3) := by decide +kernel
theorem dP_pathChanged_8 : decode prog_1_method_46_code 8 = .ok (.return_, 1) := by decide +kernel
set_option maxRecDepth 100000 in
set_option maxHeartbeats 4000000 in
theorem sP_pathChanged (σ : KM) : kSem 1 (⟨"KeyPath", "pathChanged", "()V"⟩ : MethodName) prog_1_method_46_code 1 none [kr 0] σ (fP_pathChanged σ) := by
  refine kSem.of (L0 := [lq 0]) (by decide) (Nat.le_of_ble_eq_true rfl) rfl (fun X q hX hR => ?_)
  have hT : ∀ z : Int × KM, (fun z => z = q) z → z = q := fun _ h => h
  refine k_aload_n hX dP_pathChanged_0 rfl ?_
  refine gf_20 hX dP_pathChanged_1 ?_
  refine k_iconst hX dP_pathChanged_4 ?_
  refine gz_65 hX dP_pathChanged_5 (fun τ1 => ?_)
  exact k_vret hX hR hT dP_pathChanged_8
theorem cl_48 {X : KC} {d n : Nat} {cc : ByteArray} {pc : Nat} {L : List (Option KV)} {st : List KV} {σ : KM} {Z : Type} {Θ : Z → Prop} {G : Int → KM → Option Z} (hX : kOk X d cc n "KeyPath") (hdd : 1 + 1 ≤ d) (hst : k_cat st ≤ 8) (hd : decode cc pc = .ok (.invokevirtual 187, 3)) (h : ∀ r τ, kJ X (pc + 3) L (st) τ (G r τ) Θ) : kJ X pc L (kr 0 :: st) σ (kCall (fP_pathChanged σ) G) Θ :=
  k_callV (np := 0) (av := []) (ret := none) hX (by decide) rfl rfl rfl (sP_pathChanged σ) ⟨⟨hdd, by decide⟩, tw_466, tw_1, by decide +kernel⟩ rfl tw_463 tw_465 ts_13 hst hd h
theorem dP_weightsChanged_0 : decode prog_1_method_45_code 0 = .ok (.aload_n 0, 1) := by decide +kernel
theorem dP_weightsChanged_1 : decode prog_1_method_45_code 1 = .ok (.getfield 40, 3) := by decide +kernel
theorem dP_weightsChanged_4 : decode prog_1_method_45_code 4 = .ok (.iconst 1, 1) := by decide +kernel
theorem dP_weightsChanged_5 : decode prog_1_method_45_code 5 = .ok (.putfield 330, 3) := by decide +kernel
theorem dP_weightsChanged_8 : decode prog_1_method_45_code 8 = .ok (.aload_n 0, 1) := by decide +kernel
theorem dP_weightsChanged_9 : decode prog_1_method_45_code 9 = .ok (.invokevirtual 187, 3) := by decide +kernel
theorem dP_weightsChanged_12 : decode prog_1_method_45_code 12 = .ok (.return_, 1) := by decide +kernel
set_option maxRecDepth 100000 in
set_option maxHeartbeats 4000000 in
theorem sP_weightsChanged (σ : KM) : kSem 2 (⟨"KeyPath", "weightsChanged", "()V"⟩ : MethodName) prog_1_method_45_code 1 none [kr 0] σ (fP_weightsChanged σ) := by
  refine kSem.of (L0 := [lq 0]) (by decide) (Nat.le_of_ble_eq_true rfl) rfl (fun X q hX hR => ?_)
  have hT : ∀ z : Int × KM, (fun z => z = q) z → z = q := fun _ h => h
  refine k_aload_n hX dP_weightsChanged_0 rfl ?_
  refine gf_23 hX dP_weightsChanged_1 ?_
  refine k_iconst hX dP_weightsChanged_4 ?_
  refine gz_98 hX dP_weightsChanged_5 (fun τ1 => ?_)
  refine k_aload_n hX dP_weightsChanged_8 rfl ?_
  refine cl_48 hX (by decide) (Nat.le_of_ble_eq_true rfl) dP_weightsChanged_9 (fun _ τ2 => ?_)
  exact k_vret hX hR hT dP_weightsChanged_12
theorem cl_49 {X : KC} {d n : Nat} {cc : ByteArray} {pc : Nat} {L : List (Option KV)} {st : List KV} {σ : KM} {Z : Type} {Θ : Z → Prop} {G : Int → KM → Option Z} (hX : kOk X d cc n "KeyPath") (hdd : 2 + 1 ≤ d) (hst : k_cat st ≤ 8) (hd : decode cc pc = .ok (.invokevirtual 168, 3)) (h : ∀ r τ, kJ X (pc + 3) L (st) τ (G r τ) Θ) : kJ X pc L (kr 0 :: st) σ (kCall (fP_weightsChanged σ) G) Θ :=
  k_callV (np := 0) (av := []) (ret := none) hX (by decide) rfl rfl rfl (sP_weightsChanged σ) ⟨⟨hdd, by decide⟩, tw_462, tw_1, by decide +kernel⟩ rfl tw_459 tw_461 ts_12 hst hd h
theorem dP_notesChanged_0 : decode prog_1_method_44_code 0 = .ok (.aload_n 0, 1) := by decide +kernel
theorem dP_notesChanged_1 : decode prog_1_method_44_code 1 = .ok (.getfield 33, 3) := by decide +kernel
theorem dP_notesChanged_4 : decode prog_1_method_44_code 4 = .ok (.iconst 1, 1) := by decide +kernel
theorem dP_notesChanged_5 : decode prog_1_method_44_code 5 = .ok (.putfield 329, 3) := by decide +kernel
theorem dP_notesChanged_8 : decode prog_1_method_44_code 8 = .ok (.aload_n 0, 1) := by decide +kernel
theorem dP_notesChanged_9 : decode prog_1_method_44_code 9 = .ok (.invokevirtual 168, 3) := by decide +kernel
theorem dP_notesChanged_12 : decode prog_1_method_44_code 12 = .ok (.return_, 1) := by decide +kernel
set_option maxRecDepth 100000 in
set_option maxHeartbeats 4000000 in
theorem sP_notesChanged (σ : KM) : kSem 3 (⟨"KeyPath", "notesChanged", "()V"⟩ : MethodName) prog_1_method_44_code 1 none [kr 0] σ (fP_notesChanged σ) := by
  refine kSem.of (L0 := [lq 0]) (by decide) (Nat.le_of_ble_eq_true rfl) rfl (fun X q hX hR => ?_)
  have hT : ∀ z : Int × KM, (fun z => z = q) z → z = q := fun _ h => h
  refine k_aload_n hX dP_notesChanged_0 rfl ?_
  refine gf_0 hX dP_notesChanged_1 ?_
  refine k_iconst hX dP_notesChanged_4 ?_
  refine gz_97 hX dP_notesChanged_5 (fun τ1 => ?_)
  refine k_aload_n hX dP_notesChanged_8 rfl ?_
  refine cl_49 hX (by decide) (Nat.le_of_ble_eq_true rfl) dP_notesChanged_9 (fun _ τ2 => ?_)
  exact k_vret hX hR hT dP_notesChanged_12
theorem cl_50 {X : KC} {d n : Nat} {cc : ByteArray} {pc : Nat} {L : List (Option KV)} {st : List KV} {σ : KM} {Z : Type} {Θ : Z → Prop} {G : Int → KM → Option Z} (hX : kOk X d cc n "KeyPath") (hdd : 3 + 1 ≤ d) (hst : k_cat st ≤ 8) (hd : decode cc pc = .ok (.invokevirtual 89, 3)) (h : ∀ r τ, kJ X (pc + 3) L (st) τ (G r τ) Θ) : kJ X pc L (kr 0 :: st) σ (kCall (fP_notesChanged σ) G) Θ :=
  k_callV (np := 0) (av := []) (ret := none) hX (by decide) rfl rfl rfl (sP_notesChanged σ) ⟨⟨hdd, by decide⟩, tw_458, tw_1, by decide +kernel⟩ rfl tw_455 tw_457 ts_11 hst hd h
theorem dP_drop_0 : decode prog_1_method_6_code 0 = .ok (.iload_n 1, 1) := by decide +kernel
theorem dP_drop_1 : decode prog_1_method_6_code 1 = .ok (.ifCond .lt 14, 3) := by decide +kernel
theorem dP_drop_4 : decode prog_1_method_6_code 4 = .ok (.iload_n 1, 1) := by decide +kernel
theorem dP_drop_5 : decode prog_1_method_6_code 5 = .ok (.aload_n 0, 1) := by decide +kernel
theorem dP_drop_6 : decode prog_1_method_6_code 6 = .ok (.getfield 19, 3) := by decide +kernel
theorem dP_drop_9 : decode prog_1_method_6_code 9 = .ok (.getfield 92, 3) := by decide +kernel
theorem dP_drop_12 : decode prog_1_method_6_code 12 = .ok (.if_icmp .lt 6, 3) := by decide +kernel
theorem dP_drop_15 : decode prog_1_method_6_code 15 = .ok (.bipush (-2), 2) := by decide +kernel
theorem dP_drop_17 : decode prog_1_method_6_code 17 = .ok (.ireturn, 1) := by decide +kernel
theorem dP_drop_18 : decode prog_1_method_6_code 18 = .ok (.aload_n 0, 1) := by decide +kernel
theorem dP_drop_19 : decode prog_1_method_6_code 19 = .ok (.getfield 26, 3) := by decide +kernel
theorem dP_drop_22 : decode prog_1_method_6_code 22 = .ok (.iconst 1, 1) := by decide +kernel
theorem dP_drop_23 : decode prog_1_method_6_code 23 = .ok (.iload_n 1, 1) := by decide +kernel
theorem dP_drop_24 : decode prog_1_method_6_code 24 = .ok (.aload_n 0, 1) := by decide +kernel
theorem dP_drop_25 : decode prog_1_method_6_code 25 = .ok (.getfield 19, 3) := by decide +kernel
theorem dP_drop_28 : decode prog_1_method_6_code 28 = .ok (.getfield 114, 3) := by decide +kernel
theorem dP_drop_31 : decode prog_1_method_6_code 31 = .ok (.iload_n 1, 1) := by decide +kernel
theorem dP_drop_32 : decode prog_1_method_6_code 32 = .ok (.iaload, 1) := by decide +kernel
theorem dP_drop_33 : decode prog_1_method_6_code 33 = .ok (.aload_n 0, 1) := by decide +kernel
theorem dP_drop_34 : decode prog_1_method_6_code 34 = .ok (.getfield 19, 3) := by decide +kernel
theorem dP_drop_37 : decode prog_1_method_6_code 37 = .ok (.getfield 118, 3) := by decide +kernel
theorem dP_drop_40 : decode prog_1_method_6_code 40 = .ok (.iload_n 1, 1) := by decide +kernel
theorem dP_drop_41 : decode prog_1_method_6_code 41 = .ok (.iaload, 1) := by decide +kernel
theorem dP_drop_42 : decode prog_1_method_6_code 42 = .ok (.aload_n 0, 1) := by decide +kernel
theorem dP_drop_43 : decode prog_1_method_6_code 43 = .ok (.getfield 19, 3) := by decide +kernel
theorem dP_drop_46 : decode prog_1_method_6_code 46 = .ok (.getfield 121, 3) := by decide +kernel
theorem dP_drop_49 : decode prog_1_method_6_code 49 = .ok (.iload_n 1, 1) := by decide +kernel
theorem dP_drop_50 : decode prog_1_method_6_code 50 = .ok (.iaload, 1) := by decide +kernel
theorem dP_drop_51 : decode prog_1_method_6_code 51 = .ok (.invokevirtual 110, 3) := by decide +kernel
theorem dP_drop_54 : decode prog_1_method_6_code 54 = .ok (.aload_n 0, 1) := by decide +kernel
theorem dP_drop_55 : decode prog_1_method_6_code 55 = .ok (.getfield 19, 3) := by decide +kernel
theorem dP_drop_58 : decode prog_1_method_6_code 58 = .ok (.iload_n 1, 1) := by decide +kernel
theorem dP_drop_59 : decode prog_1_method_6_code 59 = .ok (.invokevirtual 124, 3) := by decide +kernel
theorem dP_drop_62 : decode prog_1_method_6_code 62 = .ok (.aload_n 0, 1) := by decide +kernel
theorem dP_drop_63 : decode prog_1_method_6_code 63 = .ok (.invokevirtual 89, 3) := by decide +kernel
theorem dP_drop_66 : decode prog_1_method_6_code 66 = .ok (.aload_n 0, 1) := by decide +kernel
theorem dP_drop_67 : decode prog_1_method_6_code 67 = .ok (.getfield 19, 3) := by decide +kernel
theorem dP_drop_70 : decode prog_1_method_6_code 70 = .ok (.getfield 92, 3) := by decide +kernel
theorem dP_drop_73 : decode prog_1_method_6_code 73 = .ok (.ireturn, 1) := by decide +kernel
set_option maxRecDepth 100000 in
set_option maxHeartbeats 4000000 in
theorem tP_drop_J15 {X : KC} {q : Int × KM} (hX : kOk X 4 prog_1_method_6_code 2 "KeyPath") (hR : kRet X (some .int) q) (σ : KM) {Θ : (Int × KM) → Prop} (hT : ∀ z, Θ (z) → z = q) : kJ X 15 [lq 0, none] [] σ (fP_drop_J15 σ) Θ := by
  refine k_bipush hX dP_drop_15 (by decide) ?_
  exact k_iret hX hR hT dP_drop_17
set_option maxRecDepth 100000 in
set_option maxHeartbeats 4000000 in
theorem sP_drop (x1 : Int) (σ : KM) : kSem 4 (⟨"KeyPath", "drop", "(I)I"⟩ : MethodName) prog_1_method_6_code 2 (some .int) [kr 0, ki x1] σ (fP_drop x1 σ) := by
  refine kSem.of (L0 := [lq 0, li x1]) (by decide) (Nat.le_of_ble_eq_true rfl) rfl (fun X q hX hR => ?_)
  have hT : ∀ z : Int × KM, (fun z => z = q) z → z = q := fun _ h => h
  refine k_iload_n hX dP_drop_0 rfl ?_
  refine k_if_lt (tgt := 15) hX dP_drop_1 (by decide) ?_ ?_
  · refine k_less [true, false] (L' := [lq 0, none]) rfl ?_
    exact tP_drop_J15 hX hR σ hT
  · refine k_iload_n hX dP_drop_4 rfl ?_
    refine k_aload_n hX dP_drop_5 rfl ?_
    refine gf_2 hX dP_drop_6 ?_
    refine gf_74 hX dP_drop_9 ?_
    refine k_icmp_lt (tgt := 18) hX dP_drop_12 (by decide) ?_ ?_
    · refine k_aload_n hX dP_drop_18 rfl ?_
      refine gf_75 hX dP_drop_19 ?_
      refine k_iconst hX dP_drop_22 ?_
      refine k_iload_n hX dP_drop_23 rfl ?_
      refine k_aload_n hX dP_drop_24 rfl ?_
      refine gf_2 hX dP_drop_25 ?_
      refine gf_85 hX dP_drop_28 ?_
      refine k_iload_n hX dP_drop_31 rfl ?_
      refine k_iald hX (by decide) rfl dP_drop_32 rfl (fun y1 => ?_)
      refine k_aload_n hX dP_drop_33 rfl ?_
      refine gf_2 hX dP_drop_34 ?_
      refine gf_86 hX dP_drop_37 ?_
      refine k_iload_n hX dP_drop_40 rfl ?_
      refine k_iald hX (by decide) rfl dP_drop_41 rfl (fun y2 => ?_)
      refine k_aload_n hX dP_drop_42 rfl ?_
      refine gf_2 hX dP_drop_43 ?_
      refine gf_87 hX dP_drop_46 ?_
      refine k_iload_n hX dP_drop_49 rfl ?_
      refine k_iald hX (by decide) rfl dP_drop_50 rfl (fun y3 => ?_)
      refine cl_46 hX (by decide) (Nat.le_of_ble_eq_true rfl) dP_drop_51 (fun _ τ4 => ?_)
      refine k_aload_n hX dP_drop_54 rfl ?_
      refine gf_2 hX dP_drop_55 ?_
      refine k_iload_n hX dP_drop_58 rfl ?_
      refine cl_47 hX (by decide) (Nat.le_of_ble_eq_true rfl) dP_drop_59 (fun _ τ5 => ?_)
      refine k_aload_n hX dP_drop_62 rfl ?_
      refine cl_50 hX (by decide) (Nat.le_of_ble_eq_true rfl) dP_drop_63 (fun _ τ6 => ?_)
      refine k_aload_n hX dP_drop_66 rfl ?_
      refine gf_2 hX dP_drop_67 ?_
      refine gf_74 hX dP_drop_70 ?_
      exact k_iret hX hR hT dP_drop_73
    · refine k_less [true, false] (L' := [lq 0, none]) rfl ?_
      exact tP_drop_J15 hX hR σ hT
theorem dP_fault_0 : decode prog_1_method_4_code 0 = .ok (.iload_n 1, 1) := by decide +kernel
theorem dP_fault_1 : decode prog_1_method_4_code 1 = .ok (.ifCond .ne 11, 3) := by decide +kernel
theorem dP_fault_4 : decode prog_1_method_4_code 4 = .ok (.aload_n 0, 1) := by decide +kernel
theorem dP_fault_5 : decode prog_1_method_4_code 5 = .ok (.getfield 12, 3) := by decide +kernel
theorem dP_fault_8 : decode prog_1_method_4_code 8 = .ok (.getfield 76, 3) := by decide +kernel
theorem dP_fault_11 : decode prog_1_method_4_code 11 = .ok (.ireturn, 1) := by decide +kernel
theorem dP_fault_12 : decode prog_1_method_4_code 12 = .ok (.iload_n 1, 1) := by decide +kernel
theorem dP_fault_13 : decode prog_1_method_4_code 13 = .ok (.iconst 1, 1) := by decide +kernel
theorem dP_fault_14 : decode prog_1_method_4_code 14 = .ok (.if_icmp .ne 13, 3) := by decide +kernel
theorem dP_fault_17 : decode prog_1_method_4_code 17 = .ok (.aload_n 0, 1) := by decide +kernel
theorem dP_fault_18 : decode prog_1_method_4_code 18 = .ok (.getfield 12, 3) := by decide +kernel
theorem dP_fault_21 : decode prog_1_method_4_code 21 = .ok (.getfield 95, 3) := by decide +kernel
theorem dP_fault_24 : decode prog_1_method_4_code 24 = .ok (.goto 4, 3) := by decide +kernel
theorem dP_fault_27 : decode prog_1_method_4_code 27 = .ok (.iconst (-1), 1) := by decide +kernel
theorem dP_fault_28 : decode prog_1_method_4_code 28 = .ok (.ireturn, 1) := by decide +kernel
set_option maxRecDepth 100000 in
set_option maxHeartbeats 4000000 in
theorem tP_fault_J28 {X : KC} {q : Int × KM} (hX : kOk X 1 prog_1_method_4_code 2 "KeyPath") (hR : kRet X (some .int) q) (t0 : Int) (σ : KM) {Θ : (Int × KM) → Prop} (hT : ∀ z, Θ (z) → z = q) : kJ X 28 [lq 0, none] [ki t0] σ (fP_fault_J28 t0 σ) Θ := by
  exact k_iret hX hR hT dP_fault_28
set_option maxRecDepth 100000 in
set_option maxHeartbeats 4000000 in
theorem sP_fault (x1 : Int) (σ : KM) : kSem 1 (⟨"KeyPath", "fault", "(I)I"⟩ : MethodName) prog_1_method_4_code 2 (some .int) [kr 0, ki x1] σ (fP_fault x1 σ) := by
  refine kSem.of (L0 := [lq 0, li x1]) (by decide) (Nat.le_of_ble_eq_true rfl) rfl (fun X q hX hR => ?_)
  have hT : ∀ z : Int × KM, (fun z => z = q) z → z = q := fun _ h => h
  refine k_iload_n hX dP_fault_0 rfl ?_
  refine k_if_ne (tgt := 12) hX dP_fault_1 (by decide) ?_ ?_
  · refine k_iload_n hX dP_fault_12 rfl ?_
    refine k_iconst hX dP_fault_13 ?_
    refine k_icmp_ne (tgt := 27) hX dP_fault_14 (by decide) ?_ ?_
    · refine k_iconst hX dP_fault_27 ?_
      refine k_less [true, false] (L' := [lq 0, none]) rfl ?_
      exact tP_fault_J28 hX hR (-1) σ hT
    · refine k_aload_n hX dP_fault_17 rfl ?_
      refine gf_77 hX dP_fault_18 ?_
      refine gf_99 hX dP_fault_21 ?_
      refine k_goto (tgt := 28) hX dP_fault_24 (by decide) ?_
      refine k_less [true, false] (L' := [lq 0, none]) rfl ?_
      exact tP_fault_J28 hX hR (σ 1 4) σ hT
  · refine k_aload_n hX dP_fault_4 rfl ?_
    refine gf_77 hX dP_fault_5 ?_
    refine gf_100 hX dP_fault_8 ?_
    exact k_iret hX hR hT dP_fault_11
