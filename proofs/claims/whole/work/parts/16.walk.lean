theorem dM_theEnd_0 : decode prog_11_method_23_code 0 = .ok (.iconst 0, 1) := by decide +kernel
theorem dM_theEnd_1 : decode prog_11_method_23_code 1 = .ok (.istore_n 1, 1) := by decide +kernel
theorem dM_theEnd_2 : decode prog_11_method_23_code 2 = .ok (.iconst 0, 1) := by decide +kernel
theorem dM_theEnd_3 : decode prog_11_method_23_code 3 = .ok (.istore_n 2, 1) := by decide +kernel
theorem dM_theEnd_4 : decode prog_11_method_23_code 4 = .ok (.iload_n 2, 1) := by decide +kernel
theorem dM_theEnd_5 : decode prog_11_method_23_code 5 = .ok (.aload_n 0, 1) := by decide +kernel
theorem dM_theEnd_6 : decode prog_11_method_23_code 6 = .ok (.getfield 169, 3) := by decide +kernel
theorem dM_theEnd_9 : decode prog_11_method_23_code 9 = .ok (.if_icmp .ge 44, 3) := by decide +kernel
theorem dM_theEnd_12 : decode prog_11_method_23_code 12 = .ok (.aload_n 0, 1) := by decide +kernel
theorem dM_theEnd_13 : decode prog_11_method_23_code 13 = .ok (.getfield 13, 3) := by decide +kernel
theorem dM_theEnd_16 : decode prog_11_method_23_code 16 = .ok (.iload_n 2, 1) := by decide +kernel
theorem dM_theEnd_17 : decode prog_11_method_23_code 17 = .ok (.iaload, 1) := by decide +kernel
theorem dM_theEnd_18 : decode prog_11_method_23_code 18 = .ok (.aload_n 0, 1) := by decide +kernel
theorem dM_theEnd_19 : decode prog_11_method_23_code 19 = .ok (.getfield 17, 3) := by decide +kernel
theorem dM_theEnd_22 : decode prog_11_method_23_code 22 = .ok (.iload_n 2, 1) := by decide +kernel
theorem dM_theEnd_23 : decode prog_11_method_23_code 23 = .ok (.iaload, 1) := by decide +kernel
theorem dM_theEnd_24 : decode prog_11_method_23_code 24 = .ok (.iadd, 1) := by decide +kernel
theorem dM_theEnd_25 : decode prog_11_method_23_code 25 = .ok (.iload_n 1, 1) := by decide +kernel
theorem dM_theEnd_26 : decode prog_11_method_23_code 26 = .ok (.if_icmp .le 19, 3) := by decide +kernel
theorem dM_theEnd_29 : decode prog_11_method_23_code 29 = .ok (.aload_n 0, 1) := by decide +kernel
theorem dM_theEnd_30 : decode prog_11_method_23_code 30 = .ok (.getfield 13, 3) := by decide +kernel
theorem dM_theEnd_33 : decode prog_11_method_23_code 33 = .ok (.iload_n 2, 1) := by decide +kernel
theorem dM_theEnd_34 : decode prog_11_method_23_code 34 = .ok (.iaload, 1) := by decide +kernel
theorem dM_theEnd_35 : decode prog_11_method_23_code 35 = .ok (.aload_n 0, 1) := by decide +kernel
theorem dM_theEnd_36 : decode prog_11_method_23_code 36 = .ok (.getfield 17, 3) := by decide +kernel
theorem dM_theEnd_39 : decode prog_11_method_23_code 39 = .ok (.iload_n 2, 1) := by decide +kernel
theorem dM_theEnd_40 : decode prog_11_method_23_code 40 = .ok (.iaload, 1) := by decide +kernel
theorem dM_theEnd_41 : decode prog_11_method_23_code 41 = .ok (.iadd, 1) := by decide +kernel
theorem dM_theEnd_42 : decode prog_11_method_23_code 42 = .ok (.goto 4, 3) := by decide +kernel
theorem dM_theEnd_45 : decode prog_11_method_23_code 45 = .ok (.iload_n 1, 1) := by decide +kernel
theorem dM_theEnd_46 : decode prog_11_method_23_code 46 = .ok (.istore_n 1, 1) := by decide +kernel
theorem dM_theEnd_47 : decode prog_11_method_23_code 47 = .ok (.iinc 2 1, 3) := by decide +kernel
theorem dM_theEnd_50 : decode prog_11_method_23_code 50 = .ok (.goto (-46), 3) := by decide +kernel
theorem dM_theEnd_53 : decode prog_11_method_23_code 53 = .ok (.iload_n 1, 1) := by decide +kernel
theorem dM_theEnd_54 : decode prog_11_method_23_code 54 = .ok (.ireturn, 1) := by decide +kernel
set_option maxRecDepth 100000 in
set_option maxHeartbeats 4000000 in
theorem tM_theEnd_J53 {X : KC} {q : Int × KM} (hX : kOk X 1 prog_11_method_23_code 3 "KeyPathModel") (hR : kRet X (some .int) q) (x1 : Int) (σ : KM) {Θ : (Int × KM) → Prop} (hT : ∀ z, Θ (z) → z = q) : kJ X 53 [lq 10, li x1, none] [] σ (fM_theEnd_J53 x1 σ) Θ := by
  refine k_iload_n hX dM_theEnd_53 rfl ?_
  exact k_iret hX hR hT dM_theEnd_54
set_option maxRecDepth 100000 in
set_option maxHeartbeats 4000000 in
theorem tM_theEnd_J46 {X : KC} {q : Int × KM} (hX : kOk X 1 prog_11_method_23_code 3 "KeyPathModel") (hR : kRet X (some .int) q) (x2 t0 : Int) (σ : KM) {Θ : ((Int × Int × KM) ⊕ (Int × KM)) → Prop} (hT : ∀ z, Θ (.inr (z)) → z = q) (hb0 : ∀ s : Int × Int × KM, Θ (.inl s) → kW X 4 [lq 10, li s.1, li s.2.1] [] s.2.2) : kJ X 46 [lq 10, none, li x2] [ki t0] σ (fM_theEnd_J46 x2 t0 σ) Θ := by
  refine k_istore_n (L' := [lq 10, li t0, li x2]) hX dM_theEnd_46 rfl (by decide) rfl ?_
  refine k_iincL (Lf := fun y1 => [lq 10, li t0, li y1]) hX dM_theEnd_47 rfl (by decide) rfl (fun _ => rfl) (fun y1 => ?_)
  refine k_goto (tgt := 4) hX dM_theEnd_50 (by decide) ?_
  exact k_back (hb0 (t0, y1, σ))
set_option maxRecDepth 100000 in
set_option maxHeartbeats 4000000 in
theorem tM_theEnd_B4 {X : KC} {q : Int × KM} (hX : kOk X 1 prog_11_method_23_code 3 "KeyPathModel") (hR : kRet X (some .int) q) (x1 x2 : Int) (σ : KM) {Θ : ((Int × Int × KM) ⊕ (Int × KM)) → Prop} (hT : ∀ z, Θ (.inr (z)) → z = q) (hb0 : ∀ s : Int × Int × KM, Θ (.inl s) → kW X 4 [lq 10, li s.1, li s.2.1] [] s.2.2) : kJ X 4 [lq 10, li x1, li x2] [] σ (fM_theEnd_B4 x1 x2 σ) Θ := by
  refine k_iload_n hX dM_theEnd_4 rfl ?_
  refine k_aload_n hX dM_theEnd_5 rfl ?_
  refine gf_159 hX dM_theEnd_6 ?_
  refine k_icmp_ge (tgt := 53) hX dM_theEnd_9 (by decide) ?_ ?_
  · refine k_exit ?_
    refine k_less [true, true, false] (L' := [lq 10, li x1, none]) rfl ?_
    exact tM_theEnd_J53 hX hR x1 σ hT
  · refine k_aload_n hX dM_theEnd_12 rfl ?_
    refine gf_160 hX dM_theEnd_13 ?_
    refine k_iload_n hX dM_theEnd_16 rfl ?_
    refine k_iald hX (by decide) rfl dM_theEnd_17 rfl (fun y1 => ?_)
    refine k_aload_n hX dM_theEnd_18 rfl ?_
    refine gf_161 hX dM_theEnd_19 ?_
    refine k_iload_n hX dM_theEnd_22 rfl ?_
    refine k_iald hX (by decide) rfl dM_theEnd_23 rfl (fun y2 => ?_)
    refine k_iadd hX dM_theEnd_24 ?_
    refine k_iload_n hX dM_theEnd_25 rfl ?_
    refine k_icmp_le (tgt := 45) hX dM_theEnd_26 (by decide) ?_ ?_
    · refine k_iload_n hX dM_theEnd_45 rfl ?_
      refine k_less [true, false, true] (L' := [lq 10, none, li x2]) rfl ?_
      exact tM_theEnd_J46 hX hR x2 x1 σ hT hb0
    · refine k_aload_n hX dM_theEnd_29 rfl ?_
      refine gf_160 hX dM_theEnd_30 ?_
      refine k_iload_n hX dM_theEnd_33 rfl ?_
      refine k_iald hX (by decide) rfl dM_theEnd_34 rfl (fun y3 => ?_)
      refine k_aload_n hX dM_theEnd_35 rfl ?_
      refine gf_161 hX dM_theEnd_36 ?_
      refine k_iload_n hX dM_theEnd_39 rfl ?_
      refine k_iald hX (by decide) rfl dM_theEnd_40 rfl (fun y4 => ?_)
      refine k_iadd hX dM_theEnd_41 ?_
      refine k_goto (tgt := 46) hX dM_theEnd_42 (by decide) ?_
      refine k_less [true, false, true] (L' := [lq 10, none, li x2]) rfl ?_
      exact tM_theEnd_J46 hX hR x2 (y3 + y4) σ hT hb0
set_option maxRecDepth 100000 in
set_option maxHeartbeats 4000000 in
theorem tM_theEnd_L4 {X : KC} {q : Int × KM} (hX : kOk X 1 prog_11_method_23_code 3 "KeyPathModel") (hR : kRet X (some .int) q) (x1 x2 : Int) (σ : KM) {Θ : (Int × KM) → Prop} (hT : ∀ z, Θ (z) → z = q) : kJ X 4 [lq 10, li x1, li x2] [] σ (fM_theEnd_L4 x1 x2 σ) Θ :=
  k_iter (f := fun s => fM_theEnd_B4 s.1 s.2.1 s.2.2) (Lf := fun s => [lq 10, li s.1, li s.2.1]) (mf := fun s => s.2.2) (Θ := Θ) (fun s => tM_theEnd_B4 hX hR s.1 s.2.1 s.2.2 hT (fun _ h9 => h9)) kF (x1, x2, σ)
set_option maxRecDepth 100000 in
set_option maxHeartbeats 4000000 in
theorem sM_theEnd (σ : KM) : kSem 1 (⟨"KeyPathModel", "theEnd", "()I"⟩ : MethodName) prog_11_method_23_code 3 (some .int) [kr 10] σ (fM_theEnd σ) := by
  refine kSem.of (L0 := [lq 10, none, none]) (by decide) (Nat.le_of_ble_eq_true rfl) rfl (fun X q hX hR => ?_)
  have hT : ∀ z : Int × KM, (fun z => z = q) z → z = q := fun _ h => h
  refine k_iconst hX dM_theEnd_0 ?_
  refine k_istore_n (L' := [lq 10, li 0, none]) hX dM_theEnd_1 rfl (by decide) rfl ?_
  refine k_iconst hX dM_theEnd_2 ?_
  refine k_istore_n (L' := [lq 10, li 0, li 0]) hX dM_theEnd_3 rfl (by decide) rfl ?_
  exact tM_theEnd_L4 hX hR 0 0 σ hT
theorem cl_117 {X : KC} {d n : Nat} {cc : ByteArray} {pc : Nat} {L : List (Option KV)} {st : List KV} {σ : KM} {Z : Type} {Θ : Z → Prop} {G : Int → KM → Option Z} (hX : kOk X d cc n "KeyPathModel") (hdd : 1 + 1 ≤ d) (hst : k_cat st ≤ 8) (hd : decode cc pc = .ok (.invokevirtual 192, 3)) (h : ∀ r τ, kJ X (pc + 3) L (ki r :: st) τ (G r τ) Θ) : kJ X pc L (kr 10 :: st) σ (kCall (fM_theEnd σ) G) Θ :=
  k_callV (np := 0) (av := []) (ret := (some .int)) hX (by decide) rfl rfl rfl (sM_theEnd σ) ⟨⟨hdd, by decide⟩, tw_1214, tw_11, by decide +kernel⟩ rfl tw_1211 tw_1213 ts_49 hst hd h
theorem dM_windowsBy_0 : decode prog_11_method_24_code 0 = .ok (.aload_n 0, 1) := by decide +kernel
theorem dM_windowsBy_1 : decode prog_11_method_24_code 1 = .ok (.invokevirtual 192, 3) := by decide +kernel
theorem dM_windowsBy_4 : decode prog_11_method_24_code 4 = .ok (.iload_n 1, 1) := by decide +kernel
theorem dM_windowsBy_5 : decode prog_11_method_24_code 5 = .ok (.iadd, 1) := by decide +kernel
theorem dM_windowsBy_6 : decode prog_11_method_24_code 6 = .ok (.iconst 1, 1) := by decide +kernel
theorem dM_windowsBy_7 : decode prog_11_method_24_code 7 = .ok (.isub, 1) := by decide +kernel
theorem dM_windowsBy_8 : decode prog_11_method_24_code 8 = .ok (.iload_n 1, 1) := by decide +kernel
theorem dM_windowsBy_9 : decode prog_11_method_24_code 9 = .ok (.idiv, 1) := by decide +kernel
theorem dM_windowsBy_10 : decode prog_11_method_24_code 10 = .ok (.ireturn, 1) := by decide +kernel
set_option maxRecDepth 100000 in
set_option maxHeartbeats 4000000 in
theorem sM_windowsBy (x1 : Int) (σ : KM) : kSem 2 (⟨"KeyPathModel", "windowsBy", "(I)I"⟩ : MethodName) prog_11_method_24_code 2 (some .int) [kr 10, ki x1] σ (fM_windowsBy x1 σ) := by
  refine kSem.of (L0 := [lq 10, li x1]) (by decide) (Nat.le_of_ble_eq_true rfl) rfl (fun X q hX hR => ?_)
  have hT : ∀ z : Int × KM, (fun z => z = q) z → z = q := fun _ h => h
  refine k_aload_n hX dM_windowsBy_0 rfl ?_
  refine cl_117 hX (by decide) (Nat.le_of_ble_eq_true rfl) dM_windowsBy_1 (fun r2 τ1 => ?_)
  refine k_iload_n hX dM_windowsBy_4 rfl ?_
  refine k_iadd hX dM_windowsBy_5 ?_
  refine k_iconst hX dM_windowsBy_6 ?_
  refine k_isub hX dM_windowsBy_7 ?_
  refine k_iload_n hX dM_windowsBy_8 rfl ?_
  refine k_idiv hX dM_windowsBy_9 (fun y3 => ?_)
  exact k_iret hX hR hT dM_windowsBy_10
theorem cl_118 {X : KC} {d n : Nat} {cc : ByteArray} {pc : Nat} {L : List (Option KV)} {st : List KV} {σ : KM} {Z : Type} {Θ : Z → Prop} {G : Int → KM → Option Z} {x1 : Int} (hX : kOk X d cc n "KeyPathModel") (hdd : 2 + 1 ≤ d) (hst : k_cat st ≤ 8) (hd : decode cc pc = .ok (.invokevirtual 195, 3)) (h : ∀ r τ, kJ X (pc + 3) L (ki r :: st) τ (G r τ) Θ) : kJ X pc L (ki x1 :: kr 10 :: st) σ (kCall (fM_windowsBy x1 σ) G) Θ :=
  k_callV (np := 1) (av := [ki x1]) (ret := (some .int)) hX (by decide) rfl rfl rfl (sM_windowsBy _ σ) ⟨⟨hdd, by decide⟩, tw_1210, tw_11, by decide +kernel⟩ rfl tw_1207 tw_1209 ts_48 hst hd h
theorem dM_windowMany_0 : decode prog_11_method_25_code 0 = .ok (.aload_n 0, 1) := by decide +kernel
theorem dM_windowMany_1 : decode prog_11_method_25_code 1 = .ok (.aload_n 0, 1) := by decide +kernel
theorem dM_windowMany_2 : decode prog_11_method_25_code 2 = .ok (.getfield 38, 3) := by decide +kernel
theorem dM_windowMany_5 : decode prog_11_method_25_code 5 = .ok (.invokevirtual 195, 3) := by decide +kernel
theorem dM_windowMany_8 : decode prog_11_method_25_code 8 = .ok (.istore_n 1, 1) := by decide +kernel
theorem dM_windowMany_9 : decode prog_11_method_25_code 9 = .ok (.iload_n 1, 1) := by decide +kernel
theorem dM_windowMany_10 : decode prog_11_method_25_code 10 = .ok (.bipush 48, 2) := by decide +kernel
theorem dM_windowMany_12 : decode prog_11_method_25_code 12 = .ok (.if_icmp .le 8, 3) := by decide +kernel
theorem dM_windowMany_15 : decode prog_11_method_25_code 15 = .ok (.bipush 48, 2) := by decide +kernel
theorem dM_windowMany_17 : decode prog_11_method_25_code 17 = .ok (.goto 4, 3) := by decide +kernel
theorem dM_windowMany_20 : decode prog_11_method_25_code 20 = .ok (.iload_n 1, 1) := by decide +kernel
theorem dM_windowMany_21 : decode prog_11_method_25_code 21 = .ok (.ireturn, 1) := by decide +kernel
set_option maxRecDepth 100000 in
set_option maxHeartbeats 4000000 in
theorem tM_windowMany_J21 {X : KC} {q : Int × KM} (hX : kOk X 3 prog_11_method_25_code 2 "KeyPathModel") (hR : kRet X (some .int) q) (t0 : Int) (σ : KM) {Θ : (Int × KM) → Prop} (hT : ∀ z, Θ (z) → z = q) : kJ X 21 [lq 10, none] [ki t0] σ (fM_windowMany_J21 t0 σ) Θ := by
  exact k_iret hX hR hT dM_windowMany_21
set_option maxRecDepth 100000 in
set_option maxHeartbeats 4000000 in
theorem sM_windowMany (σ : KM) : kSem 3 (⟨"KeyPathModel", "windowMany", "()I"⟩ : MethodName) prog_11_method_25_code 2 (some .int) [kr 10] σ (fM_windowMany σ) := by
  refine kSem.of (L0 := [lq 10, none]) (by decide) (Nat.le_of_ble_eq_true rfl) rfl (fun X q hX hR => ?_)
  have hT : ∀ z : Int × KM, (fun z => z = q) z → z = q := fun _ h => h
  refine k_aload_n hX dM_windowMany_0 rfl ?_
  refine k_aload_n hX dM_windowMany_1 rfl ?_
  refine gf_158 hX dM_windowMany_2 ?_
  refine cl_118 hX (by decide) (Nat.le_of_ble_eq_true rfl) dM_windowMany_5 (fun r2 τ1 => ?_)
  refine k_istore_n (L' := [lq 10, li r2]) hX dM_windowMany_8 rfl (by decide) rfl ?_
  refine k_iload_n hX dM_windowMany_9 rfl ?_
  refine k_bipush hX dM_windowMany_10 (by decide) ?_
  refine k_icmp_le (tgt := 20) hX dM_windowMany_12 (by decide) ?_ ?_
  · refine k_iload_n hX dM_windowMany_20 rfl ?_
    refine k_less [true, false] (L' := [lq 10, none]) rfl ?_
    exact tM_windowMany_J21 hX hR r2 τ1 hT
  · refine k_bipush hX dM_windowMany_15 (by decide) ?_
    refine k_goto (tgt := 21) hX dM_windowMany_17 (by decide) ?_
    refine k_less [true, false] (L' := [lq 10, none]) rfl ?_
    exact tM_windowMany_J21 hX hR 48 τ1 hT
theorem cl_119 {X : KC} {d n : Nat} {cc : ByteArray} {pc : Nat} {L : List (Option KV)} {st : List KV} {σ : KM} {Z : Type} {Θ : Z → Prop} {G : Int → KM → Option Z} (hX : kOk X d cc n "KeyPathModel") (hdd : 3 + 1 ≤ d) (hst : k_cat st ≤ 8) (hd : decode cc pc = .ok (.invokevirtual 202, 3)) (h : ∀ r τ, kJ X (pc + 3) L (ki r :: st) τ (G r τ) Θ) : kJ X pc L (kr 10 :: st) σ (kCall (fM_windowMany σ) G) Θ :=
  k_callV (np := 0) (av := []) (ret := (some .int)) hX (by decide) rfl rfl rfl (sM_windowMany σ) ⟨⟨hdd, by decide⟩, tw_1218, tw_11, by decide +kernel⟩ rfl tw_1215 tw_1217 ts_50 hst hd h
theorem dM_isIn_0 : decode prog_11_method_2_code 0 = .ok (.lload_n 0, 1) := by decide +kernel
theorem dM_isIn_1 : decode prog_11_method_2_code 1 = .ok (.lload_n 2, 1) := by decide +kernel
theorem dM_isIn_2 : decode prog_11_method_2_code 2 = .ok (.lcmp, 1) := by decide +kernel
theorem dM_isIn_3 : decode prog_11_method_2_code 3 = .ok (.ifCond .lt 14, 3) := by decide +kernel
theorem dM_isIn_6 : decode prog_11_method_2_code 6 = .ok (.lload_n 0, 1) := by decide +kernel
theorem dM_isIn_7 : decode prog_11_method_2_code 7 = .ok (.lload 4, 2) := by decide +kernel
theorem dM_isIn_9 : decode prog_11_method_2_code 9 = .ok (.lcmp, 1) := by decide +kernel
theorem dM_isIn_10 : decode prog_11_method_2_code 10 = .ok (.ifCond .gt 7, 3) := by decide +kernel
theorem dM_isIn_13 : decode prog_11_method_2_code 13 = .ok (.iconst 1, 1) := by decide +kernel
theorem dM_isIn_14 : decode prog_11_method_2_code 14 = .ok (.goto 4, 3) := by decide +kernel
theorem dM_isIn_17 : decode prog_11_method_2_code 17 = .ok (.iconst 0, 1) := by decide +kernel
theorem dM_isIn_18 : decode prog_11_method_2_code 18 = .ok (.ireturn, 1) := by decide +kernel
set_option maxRecDepth 100000 in
set_option maxHeartbeats 4000000 in
theorem tM_isIn_J18 {X : KC} {q : Int × KM} (hX : kOk X 1 prog_11_method_2_code 6 "KeyPathModel") (hR : kRet X (some .boolean) q) (t0 : Int) (σ : KM) {Θ : (Int × KM) → Prop} (hT : ∀ z, Θ (z) → z = q) : kJ X 18 [none, none, none, none, none, none] [ki t0] σ (fM_isIn_J18 t0 σ) Θ := by
  exact k_zret hX hR hT dM_isIn_18
set_option maxRecDepth 100000 in
set_option maxHeartbeats 4000000 in
theorem tM_isIn_J17 {X : KC} {q : Int × KM} (hX : kOk X 1 prog_11_method_2_code 6 "KeyPathModel") (hR : kRet X (some .boolean) q) (σ : KM) {Θ : (Int × KM) → Prop} (hT : ∀ z, Θ (z) → z = q) : kJ X 17 [none, none, none, none, none, none] [] σ (fM_isIn_J17 σ) Θ := by
  refine k_iconst hX dM_isIn_17 ?_
  exact tM_isIn_J18 hX hR 0 σ hT
set_option maxRecDepth 100000 in
set_option maxHeartbeats 4000000 in
theorem sM_isIn (x0 x2 x4 : Int) (σ : KM) : kSem 1 (⟨"KeyPathModel", "isIn", "(JJJ)Z"⟩ : MethodName) prog_11_method_2_code 6 (some .boolean) [kl x0, kl x2, kl x4] σ (fM_isIn x0 x2 x4 σ) := by
  refine kSem.of (L0 := [some (kl x0), none, some (kl x2), none, some (kl x4), none]) (by decide) (Nat.le_of_ble_eq_true rfl) rfl (fun X q hX hR => ?_)
  have hT : ∀ z : Int × KM, (fun z => z = q) z → z = q := fun _ h => h
  refine k_lload_n hX dM_isIn_0 rfl ?_
  refine k_lload_n hX dM_isIn_1 rfl ?_
  refine k_lcmp hX dM_isIn_2 ?_
  refine k_if_lt (tgt := 17) hX dM_isIn_3 (by decide) ?_ ?_
  · refine k_less [false, true, false, true, false, true] (L' := [none, none, none, none, none, none]) rfl ?_
    exact tM_isIn_J17 hX hR σ hT
  · refine k_lload_n hX dM_isIn_6 rfl ?_
    refine k_lload hX dM_isIn_7 rfl ?_
    refine k_lcmp hX dM_isIn_9 ?_
    refine k_if_gt (tgt := 17) hX dM_isIn_10 (by decide) ?_ ?_
    · refine k_less [false, true, false, true, false, true] (L' := [none, none, none, none, none, none]) rfl ?_
      exact tM_isIn_J17 hX hR σ hT
    · refine k_iconst hX dM_isIn_13 ?_
      refine k_goto (tgt := 18) hX dM_isIn_14 (by decide) ?_
      refine k_less [false, true, false, true, false, true] (L' := [none, none, none, none, none, none]) rfl ?_
      exact tM_isIn_J18 hX hR 1 σ hT
theorem cl_120 {X : KC} {d n : Nat} {cc : ByteArray} {pc : Nat} {L : List (Option KV)} {st : List KV} {σ : KM} {Z : Type} {Θ : Z → Prop} {G : Int → KM → Option Z} {x0 x2 x4 : Int} (hX : kOk X d cc n "KeyPathModel") (hdd : 1 + 1 ≤ d) (hst : k_cat st ≤ 8) (hd : decode cc pc = .ok (.invokestatic 134, 3)) (h : ∀ r τ, kJ X (pc + 3) L (ki r :: st) τ (G r τ) Θ) : kJ X pc L (kl x4 :: kl x2 :: kl x0 :: st) σ (kCall (fM_isIn x0 x2 x4 σ) G) Θ :=
  k_callS (np := 3) (av := [kl x0, kl x2, kl x4]) (ret := (some .boolean)) hX (sM_isIn _ _ _ σ) ⟨⟨hdd, by decide⟩, tw_1124, tw_11, by decide +kernel⟩ rfl tw_1122 tw_1123 hst hd h
theorem dM_isWindow_0 : decode prog_11_method_34_code 0 = .ok (.iload_n 1, 1) := by decide +kernel
theorem dM_isWindow_1 : decode prog_11_method_34_code 1 = .ok (.i2l, 1) := by decide +kernel
theorem dM_isWindow_2 : decode prog_11_method_34_code 2 = .ok (.lconst 0, 1) := by decide +kernel
theorem dM_isWindow_3 : decode prog_11_method_34_code 3 = .ok (.aload_n 0, 1) := by decide +kernel
theorem dM_isWindow_4 : decode prog_11_method_34_code 4 = .ok (.invokevirtual 202, 3) := by decide +kernel
theorem dM_isWindow_7 : decode prog_11_method_34_code 7 = .ok (.iconst 1, 1) := by decide +kernel
theorem dM_isWindow_8 : decode prog_11_method_34_code 8 = .ok (.isub, 1) := by decide +kernel
theorem dM_isWindow_9 : decode prog_11_method_34_code 9 = .ok (.i2l, 1) := by decide +kernel
theorem dM_isWindow_10 : decode prog_11_method_34_code 10 = .ok (.invokestatic 134, 3) := by decide +kernel
theorem dM_isWindow_13 : decode prog_11_method_34_code 13 = .ok (.ireturn, 1) := by decide +kernel
set_option maxRecDepth 100000 in
set_option maxHeartbeats 4000000 in
theorem sM_isWindow (x1 : Int) (σ : KM) : kSem 4 (⟨"KeyPathModel", "isWindow", "(I)Z"⟩ : MethodName) prog_11_method_34_code 2 (some .boolean) [kr 10, ki x1] σ (fM_isWindow x1 σ) := by
  refine kSem.of (L0 := [lq 10, li x1]) (by decide) (Nat.le_of_ble_eq_true rfl) rfl (fun X q hX hR => ?_)
  have hT : ∀ z : Int × KM, (fun z => z = q) z → z = q := fun _ h => h
  refine k_iload_n hX dM_isWindow_0 rfl ?_
  refine k_i2l hX dM_isWindow_1 ?_
  refine k_lconst0 hX dM_isWindow_2 ?_
  refine k_aload_n hX dM_isWindow_3 rfl ?_
  refine cl_119 hX (by decide) (Nat.le_of_ble_eq_true rfl) dM_isWindow_4 (fun r2 τ1 => ?_)
  refine k_iconst hX dM_isWindow_7 ?_
  refine k_isub hX dM_isWindow_8 ?_
  refine k_i2l hX dM_isWindow_9 ?_
  refine cl_120 hX (by decide) (Nat.le_of_ble_eq_true rfl) dM_isWindow_10 (fun r4 τ3 => ?_)
  exact k_zret hX hR hT dM_isWindow_13
theorem cl_121 {X : KC} {d n : Nat} {cc : ByteArray} {pc : Nat} {L : List (Option KV)} {st : List KV} {σ : KM} {Z : Type} {Θ : Z → Prop} {G : Int → KM → Option Z} {x1 : Int} (hX : kOk X d cc n "KeyPathModel") (hdd : 4 + 1 ≤ d) (hst : k_cat st ≤ 8) (hd : decode cc pc = .ok (.invokevirtual 229, 3)) (h : ∀ r τ, kJ X (pc + 3) L (ki r :: st) τ (G r τ) Θ) : kJ X pc L (ki x1 :: kr 10 :: st) σ (kCall (fM_isWindow x1 σ) G) Θ :=
  k_callV (np := 1) (av := [ki x1]) (ret := (some .boolean)) hX (by decide) rfl rfl rfl (sM_isWindow _ σ) ⟨⟨hdd, by decide⟩, tw_1250, tw_11, by decide +kernel⟩ rfl tw_1247 tw_1249 ts_51 hst hd h
theorem dM_counted_0 : decode prog_11_method_32_code 0 = .ok (.aload_n 0, 1) := by decide +kernel
theorem dM_counted_1 : decode prog_11_method_32_code 1 = .ok (.iconst 0, 1) := by decide +kernel
theorem dM_counted_2 : decode prog_11_method_32_code 2 = .ok (.putfield 223, 3) := by decide +kernel
theorem dM_counted_5 : decode prog_11_method_32_code 5 = .ok (.iconst 0, 1) := by decide +kernel
theorem dM_counted_6 : decode prog_11_method_32_code 6 = .ok (.istore_n 3, 1) := by decide +kernel
theorem dM_counted_7 : decode prog_11_method_32_code 7 = .ok (.iload_n 3, 1) := by decide +kernel
theorem dM_counted_8 : decode prog_11_method_32_code 8 = .ok (.bipush 12, 2) := by decide +kernel
theorem dM_counted_10 : decode prog_11_method_32_code 10 = .ok (.if_icmp .ge 16, 3) := by decide +kernel
theorem dM_counted_13 : decode prog_11_method_32_code 13 = .ok (.aload_n 0, 1) := by decide +kernel
theorem dM_counted_14 : decode prog_11_method_32_code 14 = .ok (.getfield 66, 3) := by decide +kernel
theorem dM_counted_17 : decode prog_11_method_32_code 17 = .ok (.iload_n 3, 1) := by decide +kernel
theorem dM_counted_18 : decode prog_11_method_32_code 18 = .ok (.iconst 0, 1) := by decide +kernel
theorem dM_counted_19 : decode prog_11_method_32_code 19 = .ok (.iastore, 1) := by decide +kernel
theorem dM_counted_20 : decode prog_11_method_32_code 20 = .ok (.iinc 3 1, 3) := by decide +kernel
theorem dM_counted_23 : decode prog_11_method_32_code 23 = .ok (.goto (-16), 3) := by decide +kernel
theorem dM_counted_26 : decode prog_11_method_32_code 26 = .ok (.iconst 0, 1) := by decide +kernel
theorem dM_counted_27 : decode prog_11_method_32_code 27 = .ok (.istore_n 3, 1) := by decide +kernel
theorem dM_counted_28 : decode prog_11_method_32_code 28 = .ok (.iload_n 3, 1) := by decide +kernel
theorem dM_counted_29 : decode prog_11_method_32_code 29 = .ok (.aload_n 0, 1) := by decide +kernel
theorem dM_counted_30 : decode prog_11_method_32_code 30 = .ok (.getfield 169, 3) := by decide +kernel
theorem dM_counted_33 : decode prog_11_method_32_code 33 = .ok (.if_icmp .ge 113, 3) := by decide +kernel
theorem dM_counted_36 : decode prog_11_method_32_code 36 = .ok (.aload_n 0, 1) := by decide +kernel
theorem dM_counted_37 : decode prog_11_method_32_code 37 = .ok (.getfield 13, 3) := by decide +kernel
theorem dM_counted_40 : decode prog_11_method_32_code 40 = .ok (.iload_n 3, 1) := by decide +kernel
theorem dM_counted_41 : decode prog_11_method_32_code 41 = .ok (.iaload, 1) := by decide +kernel
theorem dM_counted_42 : decode prog_11_method_32_code 42 = .ok (.iload_n 1, 1) := by decide +kernel
theorem dM_counted_43 : decode prog_11_method_32_code 43 = .ok (.if_icmp .le 12, 3) := by decide +kernel
theorem dM_counted_46 : decode prog_11_method_32_code 46 = .ok (.aload_n 0, 1) := by decide +kernel
theorem dM_counted_47 : decode prog_11_method_32_code 47 = .ok (.getfield 13, 3) := by decide +kernel
theorem dM_counted_50 : decode prog_11_method_32_code 50 = .ok (.iload_n 3, 1) := by decide +kernel
theorem dM_counted_51 : decode prog_11_method_32_code 51 = .ok (.iaload, 1) := by decide +kernel
theorem dM_counted_52 : decode prog_11_method_32_code 52 = .ok (.goto 4, 3) := by decide +kernel
theorem dM_counted_55 : decode prog_11_method_32_code 55 = .ok (.iload_n 1, 1) := by decide +kernel
theorem dM_counted_56 : decode prog_11_method_32_code 56 = .ok (.istore 4, 2) := by decide +kernel
theorem dM_counted_58 : decode prog_11_method_32_code 58 = .ok (.aload_n 0, 1) := by decide +kernel
theorem dM_counted_59 : decode prog_11_method_32_code 59 = .ok (.getfield 13, 3) := by decide +kernel
theorem dM_counted_62 : decode prog_11_method_32_code 62 = .ok (.iload_n 3, 1) := by decide +kernel
theorem dM_counted_63 : decode prog_11_method_32_code 63 = .ok (.iaload, 1) := by decide +kernel
theorem dM_counted_64 : decode prog_11_method_32_code 64 = .ok (.aload_n 0, 1) := by decide +kernel
theorem dM_counted_65 : decode prog_11_method_32_code 65 = .ok (.getfield 17, 3) := by decide +kernel
theorem dM_counted_68 : decode prog_11_method_32_code 68 = .ok (.iload_n 3, 1) := by decide +kernel
theorem dM_counted_69 : decode prog_11_method_32_code 69 = .ok (.iaload, 1) := by decide +kernel
theorem dM_counted_70 : decode prog_11_method_32_code 70 = .ok (.iadd, 1) := by decide +kernel
theorem dM_counted_71 : decode prog_11_method_32_code 71 = .ok (.iload_n 2, 1) := by decide +kernel
theorem dM_counted_72 : decode prog_11_method_32_code 72 = .ok (.if_icmp .ge 19, 3) := by decide +kernel
theorem dM_counted_75 : decode prog_11_method_32_code 75 = .ok (.aload_n 0, 1) := by decide +kernel
theorem dM_counted_76 : decode prog_11_method_32_code 76 = .ok (.getfield 13, 3) := by decide +kernel
theorem dM_counted_79 : decode prog_11_method_32_code 79 = .ok (.iload_n 3, 1) := by decide +kernel
theorem dM_counted_80 : decode prog_11_method_32_code 80 = .ok (.iaload, 1) := by decide +kernel
theorem dM_counted_81 : decode prog_11_method_32_code 81 = .ok (.aload_n 0, 1) := by decide +kernel
theorem dM_counted_82 : decode prog_11_method_32_code 82 = .ok (.getfield 17, 3) := by decide +kernel
theorem dM_counted_85 : decode prog_11_method_32_code 85 = .ok (.iload_n 3, 1) := by decide +kernel
theorem dM_counted_86 : decode prog_11_method_32_code 86 = .ok (.iaload, 1) := by decide +kernel
theorem dM_counted_87 : decode prog_11_method_32_code 87 = .ok (.iadd, 1) := by decide +kernel
theorem dM_counted_88 : decode prog_11_method_32_code 88 = .ok (.goto 4, 3) := by decide +kernel
theorem dM_counted_91 : decode prog_11_method_32_code 91 = .ok (.iload_n 2, 1) := by decide +kernel
theorem dM_counted_92 : decode prog_11_method_32_code 92 = .ok (.istore 5, 2) := by decide +kernel
theorem dM_counted_94 : decode prog_11_method_32_code 94 = .ok (.iload 5, 2) := by decide +kernel
theorem dM_counted_96 : decode prog_11_method_32_code 96 = .ok (.iload 4, 2) := by decide +kernel
theorem dM_counted_98 : decode prog_11_method_32_code 98 = .ok (.if_icmp .gt 6, 3) := by decide +kernel
theorem dM_counted_101 : decode prog_11_method_32_code 101 = .ok (.goto 39, 3) := by decide +kernel
theorem dM_counted_104 : decode prog_11_method_32_code 104 = .ok (.aload_n 0, 1) := by decide +kernel
theorem dM_counted_105 : decode prog_11_method_32_code 105 = .ok (.getfield 66, 3) := by decide +kernel
theorem dM_counted_108 : decode prog_11_method_32_code 108 = .ok (.aload_n 0, 1) := by decide +kernel
theorem dM_counted_109 : decode prog_11_method_32_code 109 = .ok (.getfield 20, 3) := by decide +kernel
theorem dM_counted_112 : decode prog_11_method_32_code 112 = .ok (.iload_n 3, 1) := by decide +kernel
theorem dM_counted_113 : decode prog_11_method_32_code 113 = .ok (.iaload, 1) := by decide +kernel
theorem dM_counted_114 : decode prog_11_method_32_code 114 = .ok (.bipush 12, 2) := by decide +kernel
theorem dM_counted_116 : decode prog_11_method_32_code 116 = .ok (.irem, 1) := by decide +kernel
theorem dM_counted_117 : decode prog_11_method_32_code 117 = .ok (.dup2, 1) := by decide +kernel
theorem dM_counted_118 : decode prog_11_method_32_code 118 = .ok (.iaload, 1) := by decide +kernel
theorem dM_counted_119 : decode prog_11_method_32_code 119 = .ok (.iload 5, 2) := by decide +kernel
theorem dM_counted_121 : decode prog_11_method_32_code 121 = .ok (.iload 4, 2) := by decide +kernel
theorem dM_counted_123 : decode prog_11_method_32_code 123 = .ok (.isub, 1) := by decide +kernel
theorem dM_counted_124 : decode prog_11_method_32_code 124 = .ok (.iadd, 1) := by decide +kernel
theorem dM_counted_125 : decode prog_11_method_32_code 125 = .ok (.iastore, 1) := by decide +kernel
theorem dM_counted_126 : decode prog_11_method_32_code 126 = .ok (.aload_n 0, 1) := by decide +kernel
theorem dM_counted_127 : decode prog_11_method_32_code 127 = .ok (.dup, 1) := by decide +kernel
theorem dM_counted_128 : decode prog_11_method_32_code 128 = .ok (.getfield 223, 3) := by decide +kernel
theorem dM_counted_131 : decode prog_11_method_32_code 131 = .ok (.iload 5, 2) := by decide +kernel
theorem dM_counted_133 : decode prog_11_method_32_code 133 = .ok (.iload 4, 2) := by decide +kernel
theorem dM_counted_135 : decode prog_11_method_32_code 135 = .ok (.isub, 1) := by decide +kernel
theorem dM_counted_136 : decode prog_11_method_32_code 136 = .ok (.iadd, 1) := by decide +kernel
theorem dM_counted_137 : decode prog_11_method_32_code 137 = .ok (.putfield 223, 3) := by decide +kernel
theorem dM_counted_140 : decode prog_11_method_32_code 140 = .ok (.iinc 3 1, 3) := by decide +kernel
theorem dM_counted_143 : decode prog_11_method_32_code 143 = .ok (.goto (-115), 3) := by decide +kernel
theorem dM_counted_146 : decode prog_11_method_32_code 146 = .ok (.return_, 1) := by decide +kernel
set_option maxRecDepth 100000 in
set_option maxHeartbeats 4000000 in
theorem tM_counted_J146 {X : KC} {q : Int × KM} (hX : kOk X 1 prog_11_method_32_code 6 "KeyPathModel") (hR : kRet X none q) (σ : KM) {Θ : (Int × KM) → Prop} (hT : ∀ z, Θ (z) → z = q) : kJ X 146 [lq 10, none, none, none, none, none] [] σ (fM_counted_J146 σ) Θ := by
  exact k_vret hX hR hT dM_counted_146
set_option maxRecDepth 100000 in
set_option maxHeartbeats 4000000 in
theorem tM_counted_J140 {X : KC} {q : Int × KM} (hX : kOk X 1 prog_11_method_32_code 6 "KeyPathModel") (hR : kRet X none q) (x1 x2 x3 : Int) (σ : KM) {Θ : ((Int × KM) ⊕ (Int × KM)) → Prop} (hT : ∀ z, Θ (.inr (z)) → z = q) (hb0 : ∀ s : Int × KM, Θ (.inl s) → kW X 28 [lq 10, li x1, li x2, li s.1, none, none] [] s.2) : kJ X 140 [lq 10, li x1, li x2, li x3, none, none] [] σ (fM_counted_J140 x1 x2 x3 σ) Θ := by
  refine k_iincL (Lf := fun y1 => [lq 10, li x1, li x2, li y1, none, none]) hX dM_counted_140 rfl (by decide) rfl (fun _ => rfl) (fun y1 => ?_)
  refine k_goto (tgt := 28) hX dM_counted_143 (by decide) ?_
  exact k_back (hb0 (y1, σ))
set_option maxRecDepth 100000 in
set_option maxHeartbeats 4000000 in
theorem tM_counted_J92 {X : KC} {q : Int × KM} (hX : kOk X 1 prog_11_method_32_code 6 "KeyPathModel") (hR : kRet X none q) (x1 x2 x3 x4 t0 : Int) (σ : KM) {Θ : ((Int × KM) ⊕ (Int × KM)) → Prop} (hT : ∀ z, Θ (.inr (z)) → z = q) (hb0 : ∀ s : Int × KM, Θ (.inl s) → kW X 28 [lq 10, li x1, li x2, li s.1, none, none] [] s.2) : kJ X 92 [lq 10, li x1, li x2, li x3, li x4, none] [ki t0] σ (fM_counted_J92 x1 x2 x3 x4 t0 σ) Θ := by
  refine k_istore (L' := [lq 10, li x1, li x2, li x3, li x4, li t0]) hX dM_counted_92 rfl (by decide) rfl ?_
  refine k_iload hX dM_counted_94 rfl ?_
  refine k_iload hX dM_counted_96 rfl ?_
  refine k_icmp_gt (tgt := 104) hX dM_counted_98 (by decide) ?_ ?_
  · refine k_aload_n hX dM_counted_104 rfl ?_
    refine gf_164 hX dM_counted_105 ?_
    refine k_aload_n hX dM_counted_108 rfl ?_
    refine gf_165 hX dM_counted_109 ?_
    refine k_iload_n hX dM_counted_112 rfl ?_
    refine k_iald hX (by decide) rfl dM_counted_113 rfl (fun y1 => ?_)
    refine k_bipush hX dM_counted_114 (by decide) ?_
    refine k_irem hX dM_counted_116 (fun y2 => ?_)
    refine k_dup2 hX dM_counted_117 ?_
    refine k_iald hX (by decide) rfl dM_counted_118 rfl (fun y3 => ?_)
    refine k_iload hX dM_counted_119 rfl ?_
    refine k_iload hX dM_counted_121 rfl ?_
    refine k_isub hX dM_counted_123 ?_
    refine k_iadd hX dM_counted_124 ?_
    refine k_iast hX (by decide) rfl dM_counted_125 rfl (fun τ4 => ?_)
    refine k_aload_n hX dM_counted_126 rfl ?_
    refine k_dupr hX dM_counted_127 ?_
    refine gf_166 hX dM_counted_128 ?_
    refine k_iload hX dM_counted_131 rfl ?_
    refine k_iload hX dM_counted_133 rfl ?_
    refine k_isub hX dM_counted_135 ?_
    refine k_iadd hX dM_counted_136 ?_
    refine gp_163 hX dM_counted_137 (fun τ5 => ?_)
    refine k_less [true, true, true, true, false, false] (L' := [lq 10, li x1, li x2, li x3, none, none]) rfl ?_
    exact tM_counted_J140 hX hR x1 x2 x3 τ5 hT hb0
  · refine k_goto (tgt := 140) hX dM_counted_101 (by decide) ?_
    refine k_less [true, true, true, true, false, false] (L' := [lq 10, li x1, li x2, li x3, none, none]) rfl ?_
    exact tM_counted_J140 hX hR x1 x2 x3 σ hT hb0
set_option maxRecDepth 100000 in
set_option maxHeartbeats 4000000 in
theorem tM_counted_J56 {X : KC} {q : Int × KM} (hX : kOk X 1 prog_11_method_32_code 6 "KeyPathModel") (hR : kRet X none q) (x1 x2 x3 t0 : Int) (σ : KM) {Θ : ((Int × KM) ⊕ (Int × KM)) → Prop} (hT : ∀ z, Θ (.inr (z)) → z = q) (hb0 : ∀ s : Int × KM, Θ (.inl s) → kW X 28 [lq 10, li x1, li x2, li s.1, none, none] [] s.2) : kJ X 56 [lq 10, li x1, li x2, li x3, none, none] [ki t0] σ (fM_counted_J56 x1 x2 x3 t0 σ) Θ := by
  refine k_istore (L' := [lq 10, li x1, li x2, li x3, li t0, none]) hX dM_counted_56 rfl (by decide) rfl ?_
  refine k_aload_n hX dM_counted_58 rfl ?_
  refine gf_160 hX dM_counted_59 ?_
  refine k_iload_n hX dM_counted_62 rfl ?_
  refine k_iald hX (by decide) rfl dM_counted_63 rfl (fun y1 => ?_)
  refine k_aload_n hX dM_counted_64 rfl ?_
  refine gf_161 hX dM_counted_65 ?_
  refine k_iload_n hX dM_counted_68 rfl ?_
  refine k_iald hX (by decide) rfl dM_counted_69 rfl (fun y2 => ?_)
  refine k_iadd hX dM_counted_70 ?_
  refine k_iload_n hX dM_counted_71 rfl ?_
  refine k_icmp_ge (tgt := 91) hX dM_counted_72 (by decide) ?_ ?_
  · refine k_iload_n hX dM_counted_91 rfl ?_
    exact tM_counted_J92 hX hR x1 x2 x3 t0 x2 σ hT hb0
  · refine k_aload_n hX dM_counted_75 rfl ?_
    refine gf_160 hX dM_counted_76 ?_
    refine k_iload_n hX dM_counted_79 rfl ?_
    refine k_iald hX (by decide) rfl dM_counted_80 rfl (fun y3 => ?_)
    refine k_aload_n hX dM_counted_81 rfl ?_
    refine gf_161 hX dM_counted_82 ?_
    refine k_iload_n hX dM_counted_85 rfl ?_
    refine k_iald hX (by decide) rfl dM_counted_86 rfl (fun y4 => ?_)
    refine k_iadd hX dM_counted_87 ?_
    refine k_goto (tgt := 92) hX dM_counted_88 (by decide) ?_
    exact tM_counted_J92 hX hR x1 x2 x3 t0 (y3 + y4) σ hT hb0
set_option maxRecDepth 100000 in
set_option maxHeartbeats 4000000 in
theorem tM_counted_B28 {X : KC} {q : Int × KM} (hX : kOk X 1 prog_11_method_32_code 6 "KeyPathModel") (hR : kRet X none q) (x1 x2 x3 : Int) (σ : KM) {Θ : ((Int × KM) ⊕ (Int × KM)) → Prop} (hT : ∀ z, Θ (.inr (z)) → z = q) (hb0 : ∀ s : Int × KM, Θ (.inl s) → kW X 28 [lq 10, li x1, li x2, li s.1, none, none] [] s.2) : kJ X 28 [lq 10, li x1, li x2, li x3, none, none] [] σ (fM_counted_B28 x1 x2 x3 σ) Θ := by
  refine k_iload_n hX dM_counted_28 rfl ?_
  refine k_aload_n hX dM_counted_29 rfl ?_
  refine gf_159 hX dM_counted_30 ?_
  refine k_icmp_ge (tgt := 146) hX dM_counted_33 (by decide) ?_ ?_
  · refine k_exit ?_
    refine k_less [true, false, false, false, true, true] (L' := [lq 10, none, none, none, none, none]) rfl ?_
    exact tM_counted_J146 hX hR σ hT
  · refine k_aload_n hX dM_counted_36 rfl ?_
    refine gf_160 hX dM_counted_37 ?_
    refine k_iload_n hX dM_counted_40 rfl ?_
    refine k_iald hX (by decide) rfl dM_counted_41 rfl (fun y1 => ?_)
    refine k_iload_n hX dM_counted_42 rfl ?_
    refine k_icmp_le (tgt := 55) hX dM_counted_43 (by decide) ?_ ?_
    · refine k_iload_n hX dM_counted_55 rfl ?_
      exact tM_counted_J56 hX hR x1 x2 x3 x1 σ hT hb0
    · refine k_aload_n hX dM_counted_46 rfl ?_
      refine gf_160 hX dM_counted_47 ?_
      refine k_iload_n hX dM_counted_50 rfl ?_
      refine k_iald hX (by decide) rfl dM_counted_51 rfl (fun y2 => ?_)
      refine k_goto (tgt := 56) hX dM_counted_52 (by decide) ?_
      exact tM_counted_J56 hX hR x1 x2 x3 y2 σ hT hb0
set_option maxRecDepth 100000 in
set_option maxHeartbeats 4000000 in
theorem tM_counted_L28 {X : KC} {q : Int × KM} (hX : kOk X 1 prog_11_method_32_code 6 "KeyPathModel") (hR : kRet X none q) (x1 x2 x3 : Int) (σ : KM) {Θ : (Int × KM) → Prop} (hT : ∀ z, Θ (z) → z = q) : kJ X 28 [lq 10, li x1, li x2, li x3, none, none] [] σ (fM_counted_L28 x1 x2 x3 σ) Θ :=
  k_iter (f := fun s => fM_counted_B28 x1 x2 s.1 s.2) (Lf := fun s => [lq 10, li x1, li x2, li s.1, none, none]) (mf := fun s => s.2) (Θ := Θ) (fun s => tM_counted_B28 hX hR x1 x2 s.1 s.2 hT (fun _ h9 => h9)) kF (x3, σ)
set_option maxRecDepth 100000 in
set_option maxHeartbeats 4000000 in
theorem tM_counted_J26 {X : KC} {q : Int × KM} (hX : kOk X 1 prog_11_method_32_code 6 "KeyPathModel") (hR : kRet X none q) (x1 x2 : Int) (σ : KM) {Θ : (Int × KM) → Prop} (hT : ∀ z, Θ (z) → z = q) : kJ X 26 [lq 10, li x1, li x2, none, none, none] [] σ (fM_counted_J26 x1 x2 σ) Θ := by
  refine k_iconst hX dM_counted_26 ?_
  refine k_istore_n (L' := [lq 10, li x1, li x2, li 0, none, none]) hX dM_counted_27 rfl (by decide) rfl ?_
  exact tM_counted_L28 hX hR x1 x2 0 σ hT
set_option maxRecDepth 100000 in
set_option maxHeartbeats 4000000 in
theorem tM_counted_B7 {X : KC} {q : Int × KM} (hX : kOk X 1 prog_11_method_32_code 6 "KeyPathModel") (hR : kRet X none q) (x1 x2 x3 : Int) (σ : KM) {Θ : ((Int × KM) ⊕ (Int × KM)) → Prop} (hT : ∀ z, Θ (.inr (z)) → z = q) (hb0 : ∀ s : Int × KM, Θ (.inl s) → kW X 7 [lq 10, li x1, li x2, li s.1, none, none] [] s.2) : kJ X 7 [lq 10, li x1, li x2, li x3, none, none] [] σ (fM_counted_B7 x1 x2 x3 σ) Θ := by
  refine k_iload_n hX dM_counted_7 rfl ?_
  refine k_bipush hX dM_counted_8 (by decide) ?_
  refine k_icmp_ge (tgt := 26) hX dM_counted_10 (by decide) ?_ ?_
  · refine k_exit ?_
    refine k_less [true, true, true, false, true, true] (L' := [lq 10, li x1, li x2, none, none, none]) rfl ?_
    exact tM_counted_J26 hX hR x1 x2 σ hT
  · refine k_aload_n hX dM_counted_13 rfl ?_
    refine gf_164 hX dM_counted_14 ?_
    refine k_iload_n hX dM_counted_17 rfl ?_
    refine k_iconst hX dM_counted_18 ?_
    refine k_iast hX (by decide) rfl dM_counted_19 rfl (fun τ1 => ?_)
    refine k_iincL (Lf := fun y2 => [lq 10, li x1, li x2, li y2, none, none]) hX dM_counted_20 rfl (by decide) rfl (fun _ => rfl) (fun y2 => ?_)
    refine k_goto (tgt := 7) hX dM_counted_23 (by decide) ?_
    exact k_back (hb0 (y2, τ1))
set_option maxRecDepth 100000 in
set_option maxHeartbeats 4000000 in
theorem tM_counted_L7 {X : KC} {q : Int × KM} (hX : kOk X 1 prog_11_method_32_code 6 "KeyPathModel") (hR : kRet X none q) (x1 x2 x3 : Int) (σ : KM) {Θ : (Int × KM) → Prop} (hT : ∀ z, Θ (z) → z = q) : kJ X 7 [lq 10, li x1, li x2, li x3, none, none] [] σ (fM_counted_L7 x1 x2 x3 σ) Θ :=
  k_iter (f := fun s => fM_counted_B7 x1 x2 s.1 s.2) (Lf := fun s => [lq 10, li x1, li x2, li s.1, none, none]) (mf := fun s => s.2) (Θ := Θ) (fun s => tM_counted_B7 hX hR x1 x2 s.1 s.2 hT (fun _ h9 => h9)) kF (x3, σ)
set_option maxRecDepth 100000 in
set_option maxHeartbeats 4000000 in
theorem sM_counted (x1 x2 : Int) (σ : KM) : kSem 1 (⟨"KeyPathModel", "counted", "(II)V"⟩ : MethodName) prog_11_method_32_code 6 none [kr 10, ki x1, ki x2] σ (fM_counted x1 x2 σ) := by
  refine kSem.of (L0 := [lq 10, li x1, li x2, none, none, none]) (by decide) (Nat.le_of_ble_eq_true rfl) rfl (fun X q hX hR => ?_)
  have hT : ∀ z : Int × KM, (fun z => z = q) z → z = q := fun _ h => h
  refine k_aload_n hX dM_counted_0 rfl ?_
  refine k_iconst hX dM_counted_1 ?_
  refine gp_163 hX dM_counted_2 (fun τ1 => ?_)
  refine k_iconst hX dM_counted_5 ?_
  refine k_istore_n (L' := [lq 10, li x1, li x2, li 0, none, none]) hX dM_counted_6 rfl (by decide) rfl ?_
  exact tM_counted_L7 hX hR x1 x2 0 τ1 hT
theorem cl_122 {X : KC} {d n : Nat} {cc : ByteArray} {pc : Nat} {L : List (Option KV)} {st : List KV} {σ : KM} {Z : Type} {Θ : Z → Prop} {G : Int → KM → Option Z} {x1 x2 : Int} (hX : kOk X d cc n "KeyPathModel") (hdd : 1 + 1 ≤ d) (hst : k_cat st ≤ 8) (hd : decode cc pc = .ok (.invokevirtual 226, 3)) (h : ∀ r τ, kJ X (pc + 3) L (st) τ (G r τ) Θ) : kJ X pc L (ki x2 :: ki x1 :: kr 10 :: st) σ (kCall (fM_counted x1 x2 σ) G) Θ :=
  k_callV (np := 2) (av := [ki x1, ki x2]) (ret := none) hX (by decide) rfl rfl rfl (sM_counted _ _ σ) ⟨⟨hdd, by decide⟩, tw_1258, tw_11, by decide +kernel⟩ rfl tw_1255 tw_1257 ts_53 hst hd h
theorem dM_countedIn_0 : decode prog_11_method_33_code 0 = .ok (.aload_n 0, 1) := by decide +kernel
theorem dM_countedIn_1 : decode prog_11_method_33_code 1 = .ok (.aload_n 0, 1) := by decide +kernel
theorem dM_countedIn_2 : decode prog_11_method_33_code 2 = .ok (.getfield 38, 3) := by decide +kernel
theorem dM_countedIn_5 : decode prog_11_method_33_code 5 = .ok (.iload_n 1, 1) := by decide +kernel
theorem dM_countedIn_6 : decode prog_11_method_33_code 6 = .ok (.imul, 1) := by decide +kernel
theorem dM_countedIn_7 : decode prog_11_method_33_code 7 = .ok (.aload_n 0, 1) := by decide +kernel
theorem dM_countedIn_8 : decode prog_11_method_33_code 8 = .ok (.getfield 38, 3) := by decide +kernel
theorem dM_countedIn_11 : decode prog_11_method_33_code 11 = .ok (.iload_n 1, 1) := by decide +kernel
theorem dM_countedIn_12 : decode prog_11_method_33_code 12 = .ok (.imul, 1) := by decide +kernel
theorem dM_countedIn_13 : decode prog_11_method_33_code 13 = .ok (.aload_n 0, 1) := by decide +kernel
theorem dM_countedIn_14 : decode prog_11_method_33_code 14 = .ok (.getfield 35, 3) := by decide +kernel
theorem dM_countedIn_17 : decode prog_11_method_33_code 17 = .ok (.iadd, 1) := by decide +kernel
theorem dM_countedIn_18 : decode prog_11_method_33_code 18 = .ok (.invokevirtual 226, 3) := by decide +kernel
theorem dM_countedIn_21 : decode prog_11_method_33_code 21 = .ok (.return_, 1) := by decide +kernel
set_option maxRecDepth 100000 in
set_option maxHeartbeats 4000000 in
theorem sM_countedIn (x1 : Int) (σ : KM) : kSem 2 (⟨"KeyPathModel", "countedIn", "(I)V"⟩ : MethodName) prog_11_method_33_code 2 none [kr 10, ki x1] σ (fM_countedIn x1 σ) := by
  refine kSem.of (L0 := [lq 10, li x1]) (by decide) (Nat.le_of_ble_eq_true rfl) rfl (fun X q hX hR => ?_)
  have hT : ∀ z : Int × KM, (fun z => z = q) z → z = q := fun _ h => h
  refine k_aload_n hX dM_countedIn_0 rfl ?_
  refine k_aload_n hX dM_countedIn_1 rfl ?_
  refine gf_158 hX dM_countedIn_2 ?_
  refine k_iload_n hX dM_countedIn_5 rfl ?_
  refine k_imul hX dM_countedIn_6 ?_
  refine k_aload_n hX dM_countedIn_7 rfl ?_
  refine gf_158 hX dM_countedIn_8 ?_
  refine k_iload_n hX dM_countedIn_11 rfl ?_
  refine k_imul hX dM_countedIn_12 ?_
  refine k_aload_n hX dM_countedIn_13 rfl ?_
  refine gf_162 hX dM_countedIn_14 ?_
  refine k_iadd hX dM_countedIn_17 ?_
  refine cl_122 hX (by decide) (Nat.le_of_ble_eq_true rfl) dM_countedIn_18 (fun _ τ1 => ?_)
  exact k_vret hX hR hT dM_countedIn_21
theorem cl_123 {X : KC} {d n : Nat} {cc : ByteArray} {pc : Nat} {L : List (Option KV)} {st : List KV} {σ : KM} {Z : Type} {Θ : Z → Prop} {G : Int → KM → Option Z} {x1 : Int} (hX : kOk X d cc n "KeyPathModel") (hdd : 2 + 1 ≤ d) (hst : k_cat st ≤ 8) (hd : decode cc pc = .ok (.invokevirtual 232, 3)) (h : ∀ r τ, kJ X (pc + 3) L (st) τ (G r τ) Θ) : kJ X pc L (ki x1 :: kr 10 :: st) σ (kCall (fM_countedIn x1 σ) G) Θ :=
  k_callV (np := 1) (av := [ki x1]) (ret := none) hX (by decide) rfl rfl rfl (sM_countedIn _ σ) ⟨⟨hdd, by decide⟩, tw_1254, tw_11, by decide +kernel⟩ rfl tw_1251 tw_1253 ts_52 hst hd h
theorem dM_toneOf_0 : decode prog_11_method_44_code 0 = .ok (.iload_n 0, 1) := by decide +kernel
theorem dM_toneOf_1 : decode prog_11_method_44_code 1 = .ok (.iconst 3, 1) := by decide +kernel
theorem dM_toneOf_2 : decode prog_11_method_44_code 2 = .ok (.irem, 1) := by decide +kernel
theorem dM_toneOf_3 : decode prog_11_method_44_code 3 = .ok (.istore_n 2, 1) := by decide +kernel
theorem dM_toneOf_4 : decode prog_11_method_44_code 4 = .ok (.iload_n 1, 1) := by decide +kernel
theorem dM_toneOf_5 : decode prog_11_method_44_code 5 = .ok (.ifCond .ne 7, 3) := by decide +kernel
theorem dM_toneOf_8 : decode prog_11_method_44_code 8 = .ok (.iconst 0, 1) := by decide +kernel
theorem dM_toneOf_9 : decode prog_11_method_44_code 9 = .ok (.goto 32, 3) := by decide +kernel
theorem dM_toneOf_12 : decode prog_11_method_44_code 12 = .ok (.iload_n 1, 1) := by decide +kernel
theorem dM_toneOf_13 : decode prog_11_method_44_code 13 = .ok (.iconst 1, 1) := by decide +kernel
theorem dM_toneOf_14 : decode prog_11_method_44_code 14 = .ok (.if_icmp .ne 15, 3) := by decide +kernel
theorem dM_toneOf_17 : decode prog_11_method_44_code 17 = .ok (.iload_n 2, 1) := by decide +kernel
theorem dM_toneOf_18 : decode prog_11_method_44_code 18 = .ok (.ifCond .ne 7, 3) := by decide +kernel
theorem dM_toneOf_21 : decode prog_11_method_44_code 21 = .ok (.iconst 4, 1) := by decide +kernel
theorem dM_toneOf_22 : decode prog_11_method_44_code 22 = .ok (.goto 19, 3) := by decide +kernel
theorem dM_toneOf_25 : decode prog_11_method_44_code 25 = .ok (.iconst 3, 1) := by decide +kernel
theorem dM_toneOf_26 : decode prog_11_method_44_code 26 = .ok (.goto 15, 3) := by decide +kernel
theorem dM_toneOf_29 : decode prog_11_method_44_code 29 = .ok (.iload_n 2, 1) := by decide +kernel
theorem dM_toneOf_30 : decode prog_11_method_44_code 30 = .ok (.iconst 2, 1) := by decide +kernel
theorem dM_toneOf_31 : decode prog_11_method_44_code 31 = .ok (.if_icmp .ne 8, 3) := by decide +kernel
theorem dM_toneOf_34 : decode prog_11_method_44_code 34 = .ok (.bipush 6, 2) := by decide +kernel
theorem dM_toneOf_36 : decode prog_11_method_44_code 36 = .ok (.goto 5, 3) := by decide +kernel
theorem dM_toneOf_39 : decode prog_11_method_44_code 39 = .ok (.bipush 7, 2) := by decide +kernel
theorem dM_toneOf_41 : decode prog_11_method_44_code 41 = .ok (.istore_n 3, 1) := by decide +kernel
theorem dM_toneOf_42 : decode prog_11_method_44_code 42 = .ok (.iload_n 0, 1) := by decide +kernel
theorem dM_toneOf_43 : decode prog_11_method_44_code 43 = .ok (.iconst 3, 1) := by decide +kernel
theorem dM_toneOf_44 : decode prog_11_method_44_code 44 = .ok (.idiv, 1) := by decide +kernel
theorem dM_toneOf_45 : decode prog_11_method_44_code 45 = .ok (.iload_n 3, 1) := by decide +kernel
theorem dM_toneOf_46 : decode prog_11_method_44_code 46 = .ok (.iadd, 1) := by decide +kernel
theorem dM_toneOf_47 : decode prog_11_method_44_code 47 = .ok (.bipush 12, 2) := by decide +kernel
theorem dM_toneOf_49 : decode prog_11_method_44_code 49 = .ok (.irem, 1) := by decide +kernel
theorem dM_toneOf_50 : decode prog_11_method_44_code 50 = .ok (.ireturn, 1) := by decide +kernel
set_option maxRecDepth 100000 in
set_option maxHeartbeats 4000000 in
theorem tM_toneOf_J41 {X : KC} {q : Int × KM} (hX : kOk X 1 prog_11_method_44_code 4 "KeyPathModel") (hR : kRet X (some .int) q) (x0 t0 : Int) (σ : KM) {Θ : (Int × KM) → Prop} (hT : ∀ z, Θ (z) → z = q) : kJ X 41 [li x0, none, none, none] [ki t0] σ (fM_toneOf_J41 x0 t0 σ) Θ := by
  refine k_istore_n (L' := [li x0, none, none, li t0]) hX dM_toneOf_41 rfl (by decide) rfl ?_
  refine k_iload_n hX dM_toneOf_42 rfl ?_
  refine k_iconst hX dM_toneOf_43 ?_
  refine k_idiv hX dM_toneOf_44 (fun y1 => ?_)
  refine k_iload_n hX dM_toneOf_45 rfl ?_
  refine k_iadd hX dM_toneOf_46 ?_
  refine k_bipush hX dM_toneOf_47 (by decide) ?_
  refine k_irem hX dM_toneOf_49 (fun y2 => ?_)
  exact k_iret hX hR hT dM_toneOf_50
set_option maxRecDepth 100000 in
set_option maxHeartbeats 4000000 in
theorem sM_toneOf (x0 x1 : Int) (σ : KM) : kSem 1 (⟨"KeyPathModel", "toneOf", "(II)I"⟩ : MethodName) prog_11_method_44_code 4 (some .int) [ki x0, ki x1] σ (fM_toneOf x0 x1 σ) := by
  refine kSem.of (L0 := [li x0, li x1, none, none]) (by decide) (Nat.le_of_ble_eq_true rfl) rfl (fun X q hX hR => ?_)
  have hT : ∀ z : Int × KM, (fun z => z = q) z → z = q := fun _ h => h
  refine k_iload_n hX dM_toneOf_0 rfl ?_
  refine k_iconst hX dM_toneOf_1 ?_
  refine k_irem hX dM_toneOf_2 (fun y1 => ?_)
  refine k_istore_n (L' := [li x0, li x1, li y1, none]) hX dM_toneOf_3 rfl (by decide) rfl ?_
  refine k_iload_n hX dM_toneOf_4 rfl ?_
  refine k_if_ne (tgt := 12) hX dM_toneOf_5 (by decide) ?_ ?_
  · refine k_iload_n hX dM_toneOf_12 rfl ?_
    refine k_iconst hX dM_toneOf_13 ?_
    refine k_icmp_ne (tgt := 29) hX dM_toneOf_14 (by decide) ?_ ?_
    · refine k_iload_n hX dM_toneOf_29 rfl ?_
      refine k_iconst hX dM_toneOf_30 ?_
      refine k_icmp_ne (tgt := 39) hX dM_toneOf_31 (by decide) ?_ ?_
      · refine k_bipush hX dM_toneOf_39 (by decide) ?_
        refine k_less [true, false, false, true] (L' := [li x0, none, none, none]) rfl ?_
        exact tM_toneOf_J41 hX hR x0 7 σ hT
      · refine k_bipush hX dM_toneOf_34 (by decide) ?_
        refine k_goto (tgt := 41) hX dM_toneOf_36 (by decide) ?_
        refine k_less [true, false, false, true] (L' := [li x0, none, none, none]) rfl ?_
        exact tM_toneOf_J41 hX hR x0 6 σ hT
    · refine k_iload_n hX dM_toneOf_17 rfl ?_
      refine k_if_ne (tgt := 25) hX dM_toneOf_18 (by decide) ?_ ?_
      · refine k_iconst hX dM_toneOf_25 ?_
        refine k_goto (tgt := 41) hX dM_toneOf_26 (by decide) ?_
        refine k_less [true, false, false, true] (L' := [li x0, none, none, none]) rfl ?_
        exact tM_toneOf_J41 hX hR x0 3 σ hT
      · refine k_iconst hX dM_toneOf_21 ?_
        refine k_goto (tgt := 41) hX dM_toneOf_22 (by decide) ?_
        refine k_less [true, false, false, true] (L' := [li x0, none, none, none]) rfl ?_
        exact tM_toneOf_J41 hX hR x0 4 σ hT
  · refine k_iconst hX dM_toneOf_8 ?_
    refine k_goto (tgt := 41) hX dM_toneOf_9 (by decide) ?_
    refine k_less [true, false, false, true] (L' := [li x0, none, none, none]) rfl ?_
    exact tM_toneOf_J41 hX hR x0 0 σ hT
theorem cl_124 {X : KC} {d n : Nat} {cc : ByteArray} {pc : Nat} {L : List (Option KV)} {st : List KV} {σ : KM} {Z : Type} {Θ : Z → Prop} {G : Int → KM → Option Z} {x0 x1 : Int} (hX : kOk X d cc n "KeyPathModel") (hdd : 1 + 1 ≤ d) (hst : k_cat st ≤ 8) (hd : decode cc pc = .ok (.invokestatic 248, 3)) (h : ∀ r τ, kJ X (pc + 3) L (ki r :: st) τ (G r τ) Θ) : kJ X pc L (ki x1 :: ki x0 :: st) σ (kCall (fM_toneOf x0 x1 σ) G) Θ :=
  k_callS (np := 2) (av := [ki x0, ki x1]) (ret := (some .int)) hX (sM_toneOf _ _ σ) ⟨⟨hdd, by decide⟩, tw_1300, tw_11, by decide +kernel⟩ rfl tw_1298 tw_1299 hst hd h
theorem dM_chordNow_0 : decode prog_11_method_45_code 0 = .ok (.aload_n 0, 1) := by decide +kernel
theorem dM_chordNow_1 : decode prog_11_method_45_code 1 = .ok (.getfield 223, 3) := by decide +kernel
theorem dM_chordNow_4 : decode prog_11_method_45_code 4 = .ok (.ifCond .ne 5, 3) := by decide +kernel
theorem dM_chordNow_7 : decode prog_11_method_45_code 7 = .ok (.iconst (-1), 1) := by decide +kernel
theorem dM_chordNow_8 : decode prog_11_method_45_code 8 = .ok (.ireturn, 1) := by decide +kernel
theorem dM_chordNow_9 : decode prog_11_method_45_code 9 = .ok (.iconst 0, 1) := by decide +kernel
theorem dM_chordNow_10 : decode prog_11_method_45_code 10 = .ok (.istore_n 1, 1) := by decide +kernel
theorem dM_chordNow_11 : decode prog_11_method_45_code 11 = .ok (.iconst (-1), 1) := by decide +kernel
theorem dM_chordNow_12 : decode prog_11_method_45_code 12 = .ok (.istore_n 2, 1) := by decide +kernel
theorem dM_chordNow_13 : decode prog_11_method_45_code 13 = .ok (.iconst 0, 1) := by decide +kernel
theorem dM_chordNow_14 : decode prog_11_method_45_code 14 = .ok (.istore_n 3, 1) := by decide +kernel
theorem dM_chordNow_15 : decode prog_11_method_45_code 15 = .ok (.iload_n 3, 1) := by decide +kernel
theorem dM_chordNow_16 : decode prog_11_method_45_code 16 = .ok (.bipush 36, 2) := by decide +kernel
theorem dM_chordNow_18 : decode prog_11_method_45_code 18 = .ok (.if_icmp .ge 57, 3) := by decide +kernel
theorem dM_chordNow_21 : decode prog_11_method_45_code 21 = .ok (.aload_n 0, 1) := by decide +kernel
theorem dM_chordNow_22 : decode prog_11_method_45_code 22 = .ok (.getfield 66, 3) := by decide +kernel
theorem dM_chordNow_25 : decode prog_11_method_45_code 25 = .ok (.iload_n 3, 1) := by decide +kernel
theorem dM_chordNow_26 : decode prog_11_method_45_code 26 = .ok (.iconst 0, 1) := by decide +kernel
theorem dM_chordNow_27 : decode prog_11_method_45_code 27 = .ok (.invokestatic 248, 3) := by decide +kernel
theorem dM_chordNow_30 : decode prog_11_method_45_code 30 = .ok (.iaload, 1) := by decide +kernel
theorem dM_chordNow_31 : decode prog_11_method_45_code 31 = .ok (.aload_n 0, 1) := by decide +kernel
theorem dM_chordNow_32 : decode prog_11_method_45_code 32 = .ok (.getfield 66, 3) := by decide +kernel
theorem dM_chordNow_35 : decode prog_11_method_45_code 35 = .ok (.iload_n 3, 1) := by decide +kernel
theorem dM_chordNow_36 : decode prog_11_method_45_code 36 = .ok (.iconst 1, 1) := by decide +kernel
theorem dM_chordNow_37 : decode prog_11_method_45_code 37 = .ok (.invokestatic 248, 3) := by decide +kernel
theorem dM_chordNow_40 : decode prog_11_method_45_code 40 = .ok (.iaload, 1) := by decide +kernel
theorem dM_chordNow_41 : decode prog_11_method_45_code 41 = .ok (.iadd, 1) := by decide +kernel
theorem dM_chordNow_42 : decode prog_11_method_45_code 42 = .ok (.aload_n 0, 1) := by decide +kernel
theorem dM_chordNow_43 : decode prog_11_method_45_code 43 = .ok (.getfield 66, 3) := by decide +kernel
theorem dM_chordNow_46 : decode prog_11_method_45_code 46 = .ok (.iload_n 3, 1) := by decide +kernel
theorem dM_chordNow_47 : decode prog_11_method_45_code 47 = .ok (.iconst 2, 1) := by decide +kernel
theorem dM_chordNow_48 : decode prog_11_method_45_code 48 = .ok (.invokestatic 248, 3) := by decide +kernel
theorem dM_chordNow_51 : decode prog_11_method_45_code 51 = .ok (.iaload, 1) := by decide +kernel
theorem dM_chordNow_52 : decode prog_11_method_45_code 52 = .ok (.iadd, 1) := by decide +kernel
theorem dM_chordNow_53 : decode prog_11_method_45_code 53 = .ok (.istore 4, 2) := by decide +kernel
theorem dM_chordNow_55 : decode prog_11_method_45_code 55 = .ok (.iload 4, 2) := by decide +kernel
theorem dM_chordNow_57 : decode prog_11_method_45_code 57 = .ok (.iload_n 2, 1) := by decide +kernel
theorem dM_chordNow_58 : decode prog_11_method_45_code 58 = .ok (.if_icmp .gt 6, 3) := by decide +kernel
theorem dM_chordNow_61 : decode prog_11_method_45_code 61 = .ok (.goto 8, 3) := by decide +kernel
theorem dM_chordNow_64 : decode prog_11_method_45_code 64 = .ok (.iload 4, 2) := by decide +kernel
theorem dM_chordNow_66 : decode prog_11_method_45_code 66 = .ok (.istore_n 2, 1) := by decide +kernel
theorem dM_chordNow_67 : decode prog_11_method_45_code 67 = .ok (.iload_n 3, 1) := by decide +kernel
theorem dM_chordNow_68 : decode prog_11_method_45_code 68 = .ok (.istore_n 1, 1) := by decide +kernel
theorem dM_chordNow_69 : decode prog_11_method_45_code 69 = .ok (.iinc 3 1, 3) := by decide +kernel
theorem dM_chordNow_72 : decode prog_11_method_45_code 72 = .ok (.goto (-57), 3) := by decide +kernel
theorem dM_chordNow_75 : decode prog_11_method_45_code 75 = .ok (.iload_n 1, 1) := by decide +kernel
theorem dM_chordNow_76 : decode prog_11_method_45_code 76 = .ok (.ireturn, 1) := by decide +kernel
set_option maxRecDepth 100000 in
set_option maxHeartbeats 4000000 in
theorem tM_chordNow_J75 {X : KC} {q : Int × KM} (hX : kOk X 2 prog_11_method_45_code 5 "KeyPathModel") (hR : kRet X (some .int) q) (x1 : Int) (σ : KM) {Θ : (Int × KM) → Prop} (hT : ∀ z, Θ (z) → z = q) : kJ X 75 [lq 10, li x1, none, none, none] [] σ (fM_chordNow_J75 x1 σ) Θ := by
  refine k_iload_n hX dM_chordNow_75 rfl ?_
  exact k_iret hX hR hT dM_chordNow_76
set_option maxRecDepth 100000 in
set_option maxHeartbeats 4000000 in
theorem tM_chordNow_J69 {X : KC} {q : Int × KM} (hX : kOk X 2 prog_11_method_45_code 5 "KeyPathModel") (hR : kRet X (some .int) q) (x1 x2 x3 : Int) (σ : KM) {Θ : ((Int × Int × Int × KM) ⊕ (Int × KM)) → Prop} (hT : ∀ z, Θ (.inr (z)) → z = q) (hb0 : ∀ s : Int × Int × Int × KM, Θ (.inl s) → kW X 15 [lq 10, li s.1, li s.2.1, li s.2.2.1, none] [] s.2.2.2) : kJ X 69 [lq 10, li x1, li x2, li x3, none] [] σ (fM_chordNow_J69 x1 x2 x3 σ) Θ := by
  refine k_iincL (Lf := fun y1 => [lq 10, li x1, li x2, li y1, none]) hX dM_chordNow_69 rfl (by decide) rfl (fun _ => rfl) (fun y1 => ?_)
  refine k_goto (tgt := 15) hX dM_chordNow_72 (by decide) ?_
  exact k_back (hb0 (x1, x2, y1, σ))
set_option maxRecDepth 100000 in
set_option maxHeartbeats 4000000 in
theorem tM_chordNow_B15 {X : KC} {q : Int × KM} (hX : kOk X 2 prog_11_method_45_code 5 "KeyPathModel") (hR : kRet X (some .int) q) (x1 x2 x3 : Int) (σ : KM) {Θ : ((Int × Int × Int × KM) ⊕ (Int × KM)) → Prop} (hT : ∀ z, Θ (.inr (z)) → z = q) (hb0 : ∀ s : Int × Int × Int × KM, Θ (.inl s) → kW X 15 [lq 10, li s.1, li s.2.1, li s.2.2.1, none] [] s.2.2.2) : kJ X 15 [lq 10, li x1, li x2, li x3, none] [] σ (fM_chordNow_B15 x1 x2 x3 σ) Θ := by
  refine k_iload_n hX dM_chordNow_15 rfl ?_
  refine k_bipush hX dM_chordNow_16 (by decide) ?_
  refine k_icmp_ge (tgt := 75) hX dM_chordNow_18 (by decide) ?_ ?_
  · refine k_exit ?_
    refine k_less [true, true, false, false, true] (L' := [lq 10, li x1, none, none, none]) rfl ?_
    exact tM_chordNow_J75 hX hR x1 σ hT
  · refine k_aload_n hX dM_chordNow_21 rfl ?_
    refine gf_164 hX dM_chordNow_22 ?_
    refine k_iload_n hX dM_chordNow_25 rfl ?_
    refine k_iconst hX dM_chordNow_26 ?_
    refine cl_124 hX (by decide) (Nat.le_of_ble_eq_true rfl) dM_chordNow_27 (fun r2 τ1 => ?_)
    refine k_iald hX (by decide) rfl dM_chordNow_30 rfl (fun y3 => ?_)
    refine k_aload_n hX dM_chordNow_31 rfl ?_
    refine gf_164 hX dM_chordNow_32 ?_
    refine k_iload_n hX dM_chordNow_35 rfl ?_
    refine k_iconst hX dM_chordNow_36 ?_
    refine cl_124 hX (by decide) (Nat.le_of_ble_eq_true rfl) dM_chordNow_37 (fun r5 τ4 => ?_)
    refine k_iald hX (by decide) rfl dM_chordNow_40 rfl (fun y6 => ?_)
    refine k_iadd hX dM_chordNow_41 ?_
    refine k_aload_n hX dM_chordNow_42 rfl ?_
    refine gf_164 hX dM_chordNow_43 ?_
    refine k_iload_n hX dM_chordNow_46 rfl ?_
    refine k_iconst hX dM_chordNow_47 ?_
    refine cl_124 hX (by decide) (Nat.le_of_ble_eq_true rfl) dM_chordNow_48 (fun r8 τ7 => ?_)
    refine k_iald hX (by decide) rfl dM_chordNow_51 rfl (fun y9 => ?_)
    refine k_iadd hX dM_chordNow_52 ?_
    refine k_istoreL (Lf := fun y10 => [lq 10, li x1, li x2, li x3, li y10]) hX dM_chordNow_53 rfl (by decide) (fun _ => rfl) (fun y10 => ?_)
    refine k_iload hX dM_chordNow_55 rfl ?_
    refine k_iload_n hX dM_chordNow_57 rfl ?_
    refine k_icmp_gt (tgt := 64) hX dM_chordNow_58 (by decide) ?_ ?_
    · refine k_iload hX dM_chordNow_64 rfl ?_
      refine k_istore_n (L' := [lq 10, li x1, li y10, li x3, li y10]) hX dM_chordNow_66 rfl (by decide) rfl ?_
      refine k_iload_n hX dM_chordNow_67 rfl ?_
      refine k_istore_n (L' := [lq 10, li x3, li y10, li x3, li y10]) hX dM_chordNow_68 rfl (by decide) rfl ?_
      refine k_less [true, true, true, true, false] (L' := [lq 10, li x3, li y10, li x3, none]) rfl ?_
      exact tM_chordNow_J69 hX hR x3 y10 x3 τ7 hT hb0
    · refine k_goto (tgt := 69) hX dM_chordNow_61 (by decide) ?_
      refine k_less [true, true, true, true, false] (L' := [lq 10, li x1, li x2, li x3, none]) rfl ?_
      exact tM_chordNow_J69 hX hR x1 x2 x3 τ7 hT hb0
set_option maxRecDepth 100000 in
set_option maxHeartbeats 4000000 in
theorem tM_chordNow_L15 {X : KC} {q : Int × KM} (hX : kOk X 2 prog_11_method_45_code 5 "KeyPathModel") (hR : kRet X (some .int) q) (x1 x2 x3 : Int) (σ : KM) {Θ : (Int × KM) → Prop} (hT : ∀ z, Θ (z) → z = q) : kJ X 15 [lq 10, li x1, li x2, li x3, none] [] σ (fM_chordNow_L15 x1 x2 x3 σ) Θ :=
  k_iter (f := fun s => fM_chordNow_B15 s.1 s.2.1 s.2.2.1 s.2.2.2) (Lf := fun s => [lq 10, li s.1, li s.2.1, li s.2.2.1, none]) (mf := fun s => s.2.2.2) (Θ := Θ) (fun s => tM_chordNow_B15 hX hR s.1 s.2.1 s.2.2.1 s.2.2.2 hT (fun _ h9 => h9)) kF (x1, x2, x3, σ)
set_option maxRecDepth 100000 in
set_option maxHeartbeats 4000000 in
theorem sM_chordNow (σ : KM) : kSem 2 (⟨"KeyPathModel", "chordNow", "()I"⟩ : MethodName) prog_11_method_45_code 5 (some .int) [kr 10] σ (fM_chordNow σ) := by
  refine kSem.of (L0 := [lq 10, none, none, none, none]) (by decide) (Nat.le_of_ble_eq_true rfl) rfl (fun X q hX hR => ?_)
  have hT : ∀ z : Int × KM, (fun z => z = q) z → z = q := fun _ h => h
  refine k_aload_n hX dM_chordNow_0 rfl ?_
  refine gf_166 hX dM_chordNow_1 ?_
  refine k_if_ne (tgt := 9) hX dM_chordNow_4 (by decide) ?_ ?_
  · refine k_iconst hX dM_chordNow_9 ?_
    refine k_istore_n (L' := [lq 10, li 0, none, none, none]) hX dM_chordNow_10 rfl (by decide) rfl ?_
    refine k_iconst hX dM_chordNow_11 ?_
    refine k_istore_n (L' := [lq 10, li 0, li (-1), none, none]) hX dM_chordNow_12 rfl (by decide) rfl ?_
    refine k_iconst hX dM_chordNow_13 ?_
    refine k_istore_n (L' := [lq 10, li 0, li (-1), li 0, none]) hX dM_chordNow_14 rfl (by decide) rfl ?_
    exact tM_chordNow_L15 hX hR 0 (-1) 0 σ hT
  · refine k_iconst hX dM_chordNow_7 ?_
    exact k_iret hX hR hT dM_chordNow_8
theorem cl_125 {X : KC} {d n : Nat} {cc : ByteArray} {pc : Nat} {L : List (Option KV)} {st : List KV} {σ : KM} {Z : Type} {Θ : Z → Prop} {G : Int → KM → Option Z} (hX : kOk X d cc n "KeyPathModel") (hdd : 2 + 1 ≤ d) (hst : k_cat st ≤ 8) (hd : decode cc pc = .ok (.invokevirtual 251, 3)) (h : ∀ r τ, kJ X (pc + 3) L (ki r :: st) τ (G r τ) Θ) : kJ X pc L (kr 10 :: st) σ (kCall (fM_chordNow σ) G) Θ :=
  k_callV (np := 0) (av := []) (ret := (some .int)) hX (by decide) rfl rfl rfl (sM_chordNow σ) ⟨⟨hdd, by decide⟩, tw_1297, tw_11, by decide +kernel⟩ rfl tw_1294 tw_1296 ts_57 hst hd h
theorem dM_chord_0 : decode prog_11_method_46_code 0 = .ok (.aload_n 0, 1) := by decide +kernel
theorem dM_chord_1 : decode prog_11_method_46_code 1 = .ok (.iconst 0, 1) := by decide +kernel
theorem dM_chord_2 : decode prog_11_method_46_code 2 = .ok (.putfield 1, 3) := by decide +kernel
theorem dM_chord_5 : decode prog_11_method_46_code 5 = .ok (.aload_n 0, 1) := by decide +kernel
theorem dM_chord_6 : decode prog_11_method_46_code 6 = .ok (.iload_n 1, 1) := by decide +kernel
theorem dM_chord_7 : decode prog_11_method_46_code 7 = .ok (.invokevirtual 229, 3) := by decide +kernel
theorem dM_chord_10 : decode prog_11_method_46_code 10 = .ok (.ifCond .ne 6, 3) := by decide +kernel
theorem dM_chord_13 : decode prog_11_method_46_code 13 = .ok (.bipush (-2), 2) := by decide +kernel
theorem dM_chord_15 : decode prog_11_method_46_code 15 = .ok (.ireturn, 1) := by decide +kernel
theorem dM_chord_16 : decode prog_11_method_46_code 16 = .ok (.aload_n 0, 1) := by decide +kernel
theorem dM_chord_17 : decode prog_11_method_46_code 17 = .ok (.iload_n 1, 1) := by decide +kernel
theorem dM_chord_18 : decode prog_11_method_46_code 18 = .ok (.invokevirtual 232, 3) := by decide +kernel
theorem dM_chord_21 : decode prog_11_method_46_code 21 = .ok (.aload_n 0, 1) := by decide +kernel
theorem dM_chord_22 : decode prog_11_method_46_code 22 = .ok (.invokevirtual 251, 3) := by decide +kernel
theorem dM_chord_25 : decode prog_11_method_46_code 25 = .ok (.ireturn, 1) := by decide +kernel
set_option maxRecDepth 100000 in
set_option maxHeartbeats 4000000 in
theorem sM_chord (x1 : Int) (σ : KM) : kSem 5 (⟨"KeyPathModel", "chord", "(I)I"⟩ : MethodName) prog_11_method_46_code 2 (some .int) [kr 10, ki x1] σ (fM_chord x1 σ) := by
  refine kSem.of (L0 := [lq 10, li x1]) (by decide) (Nat.le_of_ble_eq_true rfl) rfl (fun X q hX hR => ?_)
  have hT : ∀ z : Int × KM, (fun z => z = q) z → z = q := fun _ h => h
  refine k_aload_n hX dM_chord_0 rfl ?_
  refine k_iconst hX dM_chord_1 ?_
  refine gp_157 hX dM_chord_2 (fun τ1 => ?_)
  refine k_aload_n hX dM_chord_5 rfl ?_
  refine k_iload_n hX dM_chord_6 rfl ?_
  refine cl_121 hX (by decide) (Nat.le_of_ble_eq_true rfl) dM_chord_7 (fun r3 τ2 => ?_)
  refine k_if_ne (tgt := 16) hX dM_chord_10 (by decide) ?_ ?_
  · refine k_aload_n hX dM_chord_16 rfl ?_
    refine k_iload_n hX dM_chord_17 rfl ?_
    refine cl_123 hX (by decide) (Nat.le_of_ble_eq_true rfl) dM_chord_18 (fun _ τ4 => ?_)
    refine k_aload_n hX dM_chord_21 rfl ?_
    refine cl_125 hX (by decide) (Nat.le_of_ble_eq_true rfl) dM_chord_22 (fun r6 τ5 => ?_)
    exact k_iret hX hR hT dM_chord_25
  · refine k_bipush hX dM_chord_13 (by decide) ?_
    exact k_iret hX hR hT dM_chord_15
theorem dM_next_0 : decode prog_11_method_47_code 0 = .ok (.iload_n 0, 1) := by decide +kernel
theorem dM_next_1 : decode prog_11_method_47_code 1 = .ok (.bipush 12, 2) := by decide +kernel
theorem dM_next_3 : decode prog_11_method_47_code 3 = .ok (.irem, 1) := by decide +kernel
theorem dM_next_4 : decode prog_11_method_47_code 4 = .ok (.istore_n 2, 1) := by decide +kernel
theorem dM_next_5 : decode prog_11_method_47_code 5 = .ok (.iload_n 0, 1) := by decide +kernel
theorem dM_next_6 : decode prog_11_method_47_code 6 = .ok (.bipush 12, 2) := by decide +kernel
theorem dM_next_8 : decode prog_11_method_47_code 8 = .ok (.if_icmp .lt 7, 3) := by decide +kernel
theorem dM_next_11 : decode prog_11_method_47_code 11 = .ok (.iconst 1, 1) := by decide +kernel
theorem dM_next_12 : decode prog_11_method_47_code 12 = .ok (.goto 4, 3) := by decide +kernel
theorem dM_next_15 : decode prog_11_method_47_code 15 = .ok (.iconst 0, 1) := by decide +kernel
theorem dM_next_16 : decode prog_11_method_47_code 16 = .ok (.istore_n 3, 1) := by decide +kernel
theorem dM_next_17 : decode prog_11_method_47_code 17 = .ok (.iload_n 1, 1) := by decide +kernel
theorem dM_next_18 : decode prog_11_method_47_code 18 = .ok (.tableswitch 87 0 2 #[26, 45, 63], 26) := by decide +kernel
theorem dM_next_44 : decode prog_11_method_47_code 44 = .ok (.iload_n 2, 1) := by decide +kernel
theorem dM_next_45 : decode prog_11_method_47_code 45 = .ok (.bipush 7, 2) := by decide +kernel
theorem dM_next_47 : decode prog_11_method_47_code 47 = .ok (.iadd, 1) := by decide +kernel
theorem dM_next_48 : decode prog_11_method_47_code 48 = .ok (.bipush 12, 2) := by decide +kernel
theorem dM_next_50 : decode prog_11_method_47_code 50 = .ok (.irem, 1) := by decide +kernel
theorem dM_next_51 : decode prog_11_method_47_code 51 = .ok (.iload_n 3, 1) := by decide +kernel
theorem dM_next_52 : decode prog_11_method_47_code 52 = .ok (.ifCond .eq 8, 3) := by decide +kernel
theorem dM_next_55 : decode prog_11_method_47_code 55 = .ok (.bipush 12, 2) := by decide +kernel
theorem dM_next_57 : decode prog_11_method_47_code 57 = .ok (.goto 4, 3) := by decide +kernel
theorem dM_next_60 : decode prog_11_method_47_code 60 = .ok (.iconst 0, 1) := by decide +kernel
theorem dM_next_61 : decode prog_11_method_47_code 61 = .ok (.iadd, 1) := by decide +kernel
theorem dM_next_62 : decode prog_11_method_47_code 62 = .ok (.ireturn, 1) := by decide +kernel
theorem dM_next_63 : decode prog_11_method_47_code 63 = .ok (.iload_n 2, 1) := by decide +kernel
theorem dM_next_64 : decode prog_11_method_47_code 64 = .ok (.iconst 5, 1) := by decide +kernel
theorem dM_next_65 : decode prog_11_method_47_code 65 = .ok (.iadd, 1) := by decide +kernel
theorem dM_next_66 : decode prog_11_method_47_code 66 = .ok (.bipush 12, 2) := by decide +kernel
theorem dM_next_68 : decode prog_11_method_47_code 68 = .ok (.irem, 1) := by decide +kernel
theorem dM_next_69 : decode prog_11_method_47_code 69 = .ok (.iload_n 3, 1) := by decide +kernel
theorem dM_next_70 : decode prog_11_method_47_code 70 = .ok (.ifCond .eq 8, 3) := by decide +kernel
theorem dM_next_73 : decode prog_11_method_47_code 73 = .ok (.bipush 12, 2) := by decide +kernel
theorem dM_next_75 : decode prog_11_method_47_code 75 = .ok (.goto 4, 3) := by decide +kernel
theorem dM_next_78 : decode prog_11_method_47_code 78 = .ok (.iconst 0, 1) := by decide +kernel
theorem dM_next_79 : decode prog_11_method_47_code 79 = .ok (.iadd, 1) := by decide +kernel
theorem dM_next_80 : decode prog_11_method_47_code 80 = .ok (.ireturn, 1) := by decide +kernel
theorem dM_next_81 : decode prog_11_method_47_code 81 = .ok (.iload_n 3, 1) := by decide +kernel
theorem dM_next_82 : decode prog_11_method_47_code 82 = .ok (.ifCond .eq 12, 3) := by decide +kernel
theorem dM_next_85 : decode prog_11_method_47_code 85 = .ok (.iload_n 2, 1) := by decide +kernel
theorem dM_next_86 : decode prog_11_method_47_code 86 = .ok (.iconst 3, 1) := by decide +kernel
theorem dM_next_87 : decode prog_11_method_47_code 87 = .ok (.iadd, 1) := by decide +kernel
theorem dM_next_88 : decode prog_11_method_47_code 88 = .ok (.bipush 12, 2) := by decide +kernel
theorem dM_next_90 : decode prog_11_method_47_code 90 = .ok (.irem, 1) := by decide +kernel
theorem dM_next_91 : decode prog_11_method_47_code 91 = .ok (.goto 13, 3) := by decide +kernel
theorem dM_next_94 : decode prog_11_method_47_code 94 = .ok (.iload_n 2, 1) := by decide +kernel
theorem dM_next_95 : decode prog_11_method_47_code 95 = .ok (.bipush 9, 2) := by decide +kernel
theorem dM_next_97 : decode prog_11_method_47_code 97 = .ok (.iadd, 1) := by decide +kernel
theorem dM_next_98 : decode prog_11_method_47_code 98 = .ok (.bipush 12, 2) := by decide +kernel
theorem dM_next_100 : decode prog_11_method_47_code 100 = .ok (.irem, 1) := by decide +kernel
theorem dM_next_101 : decode prog_11_method_47_code 101 = .ok (.bipush 12, 2) := by decide +kernel
theorem dM_next_103 : decode prog_11_method_47_code 103 = .ok (.iadd, 1) := by decide +kernel
theorem dM_next_104 : decode prog_11_method_47_code 104 = .ok (.ireturn, 1) := by decide +kernel
theorem dM_next_105 : decode prog_11_method_47_code 105 = .ok (.iload_n 3, 1) := by decide +kernel
theorem dM_next_106 : decode prog_11_method_47_code 106 = .ok (.ifCond .eq 7, 3) := by decide +kernel
theorem dM_next_109 : decode prog_11_method_47_code 109 = .ok (.iload_n 2, 1) := by decide +kernel
theorem dM_next_110 : decode prog_11_method_47_code 110 = .ok (.goto 7, 3) := by decide +kernel
theorem dM_next_113 : decode prog_11_method_47_code 113 = .ok (.iload_n 0, 1) := by decide +kernel
theorem dM_next_114 : decode prog_11_method_47_code 114 = .ok (.bipush 12, 2) := by decide +kernel
theorem dM_next_116 : decode prog_11_method_47_code 116 = .ok (.iadd, 1) := by decide +kernel
theorem dM_next_117 : decode prog_11_method_47_code 117 = .ok (.ireturn, 1) := by decide +kernel
set_option maxRecDepth 100000 in
set_option maxHeartbeats 4000000 in
theorem tM_next_J61 {X : KC} {q : Int × KM} (hX : kOk X 1 prog_11_method_47_code 4 "KeyPathModel") (hR : kRet X (some .int) q) (t0 t1 : Int) (σ : KM) {Θ : (Int × KM) → Prop} (hT : ∀ z, Θ (z) → z = q) : kJ X 61 [none, none, none, none] [ki t0, ki t1] σ (fM_next_J61 t0 t1 σ) Θ := by
  refine k_iadd hX dM_next_61 ?_
  exact k_iret hX hR hT dM_next_62
set_option maxRecDepth 100000 in
set_option maxHeartbeats 4000000 in
theorem tM_next_J79 {X : KC} {q : Int × KM} (hX : kOk X 1 prog_11_method_47_code 4 "KeyPathModel") (hR : kRet X (some .int) q) (t0 t1 : Int) (σ : KM) {Θ : (Int × KM) → Prop} (hT : ∀ z, Θ (z) → z = q) : kJ X 79 [none, none, none, none] [ki t0, ki t1] σ (fM_next_J79 t0 t1 σ) Θ := by
  refine k_iadd hX dM_next_79 ?_
  exact k_iret hX hR hT dM_next_80
set_option maxRecDepth 100000 in
set_option maxHeartbeats 4000000 in
theorem tM_next_J104 {X : KC} {q : Int × KM} (hX : kOk X 1 prog_11_method_47_code 4 "KeyPathModel") (hR : kRet X (some .int) q) (t0 : Int) (σ : KM) {Θ : (Int × KM) → Prop} (hT : ∀ z, Θ (z) → z = q) : kJ X 104 [none, none, none, none] [ki t0] σ (fM_next_J104 t0 σ) Θ := by
  exact k_iret hX hR hT dM_next_104
set_option maxRecDepth 100000 in
set_option maxHeartbeats 4000000 in
theorem tM_next_J117 {X : KC} {q : Int × KM} (hX : kOk X 1 prog_11_method_47_code 4 "KeyPathModel") (hR : kRet X (some .int) q) (t0 : Int) (σ : KM) {Θ : (Int × KM) → Prop} (hT : ∀ z, Θ (z) → z = q) : kJ X 117 [none, none, none, none] [ki t0] σ (fM_next_J117 t0 σ) Θ := by
  exact k_iret hX hR hT dM_next_117
set_option maxRecDepth 100000 in
set_option maxHeartbeats 4000000 in
theorem tM_next_J16 {X : KC} {q : Int × KM} (hX : kOk X 1 prog_11_method_47_code 4 "KeyPathModel") (hR : kRet X (some .int) q) (x0 x1 x2 t0 : Int) (σ : KM) {Θ : (Int × KM) → Prop} (hT : ∀ z, Θ (z) → z = q) : kJ X 16 [li x0, li x1, li x2, none] [ki t0] σ (fM_next_J16 x0 x1 x2 t0 σ) Θ := by
  refine k_istore_n (L' := [li x0, li x1, li x2, li t0]) hX dM_next_16 rfl (by decide) rfl ?_
  refine k_iload_n hX dM_next_17 rfl ?_
  refine k_tsw (ts := [44, 63, 81]) (te := 105) hX dM_next_18 (by decide) (by decide) rfl (by decide) (k_ts_c ?_ (k_ts_c ?_ (k_ts_c ?_ (k_ts_n)))) ?_
  · refine k_iload_n hX dM_next_44 rfl ?_
    refine k_bipush hX dM_next_45 (by decide) ?_
    refine k_iadd hX dM_next_47 ?_
    refine k_bipush hX dM_next_48 (by decide) ?_
    refine k_irem hX dM_next_50 (fun y1 => ?_)
    refine k_iload_n hX dM_next_51 rfl ?_
    refine k_if_eq (tgt := 60) hX dM_next_52 (by decide) ?_ ?_
    · refine k_iconst hX dM_next_60 ?_
      refine k_less [false, false, false, false] (L' := [none, none, none, none]) rfl ?_
      exact tM_next_J61 hX hR 0 y1 σ hT
    · refine k_bipush hX dM_next_55 (by decide) ?_
      refine k_goto (tgt := 61) hX dM_next_57 (by decide) ?_
      refine k_less [false, false, false, false] (L' := [none, none, none, none]) rfl ?_
      exact tM_next_J61 hX hR 12 y1 σ hT
  · refine k_iload_n hX dM_next_63 rfl ?_
    refine k_iconst hX dM_next_64 ?_
    refine k_iadd hX dM_next_65 ?_
    refine k_bipush hX dM_next_66 (by decide) ?_
    refine k_irem hX dM_next_68 (fun y2 => ?_)
    refine k_iload_n hX dM_next_69 rfl ?_
    refine k_if_eq (tgt := 78) hX dM_next_70 (by decide) ?_ ?_
    · refine k_iconst hX dM_next_78 ?_
      refine k_less [false, false, false, false] (L' := [none, none, none, none]) rfl ?_
      exact tM_next_J79 hX hR 0 y2 σ hT
    · refine k_bipush hX dM_next_73 (by decide) ?_
      refine k_goto (tgt := 79) hX dM_next_75 (by decide) ?_
      refine k_less [false, false, false, false] (L' := [none, none, none, none]) rfl ?_
      exact tM_next_J79 hX hR 12 y2 σ hT
  · refine k_iload_n hX dM_next_81 rfl ?_
    refine k_if_eq (tgt := 94) hX dM_next_82 (by decide) ?_ ?_
    · refine k_iload_n hX dM_next_94 rfl ?_
      refine k_bipush hX dM_next_95 (by decide) ?_
      refine k_iadd hX dM_next_97 ?_
      refine k_bipush hX dM_next_98 (by decide) ?_
      refine k_irem hX dM_next_100 (fun y3 => ?_)
      refine k_bipush hX dM_next_101 (by decide) ?_
      refine k_iadd hX dM_next_103 ?_
      refine k_less [false, false, false, false] (L' := [none, none, none, none]) rfl ?_
      exact tM_next_J104 hX hR (y3 + 12) σ hT
    · refine k_iload_n hX dM_next_85 rfl ?_
      refine k_iconst hX dM_next_86 ?_
      refine k_iadd hX dM_next_87 ?_
      refine k_bipush hX dM_next_88 (by decide) ?_
      refine k_irem hX dM_next_90 (fun y4 => ?_)
      refine k_goto (tgt := 104) hX dM_next_91 (by decide) ?_
      refine k_less [false, false, false, false] (L' := [none, none, none, none]) rfl ?_
      exact tM_next_J104 hX hR y4 σ hT
  · refine k_iload_n hX dM_next_105 rfl ?_
    refine k_if_eq (tgt := 113) hX dM_next_106 (by decide) ?_ ?_
    · refine k_iload_n hX dM_next_113 rfl ?_
      refine k_bipush hX dM_next_114 (by decide) ?_
      refine k_iadd hX dM_next_116 ?_
      refine k_less [false, false, false, false] (L' := [none, none, none, none]) rfl ?_
      exact tM_next_J117 hX hR (x0 + 12) σ hT
    · refine k_iload_n hX dM_next_109 rfl ?_
      refine k_goto (tgt := 117) hX dM_next_110 (by decide) ?_
      refine k_less [false, false, false, false] (L' := [none, none, none, none]) rfl ?_
      exact tM_next_J117 hX hR x2 σ hT
set_option maxRecDepth 100000 in
set_option maxHeartbeats 4000000 in
theorem sM_next (x0 x1 : Int) (σ : KM) : kSem 1 (⟨"KeyPathModel", "next", "(II)I"⟩ : MethodName) prog_11_method_47_code 4 (some .int) [ki x0, ki x1] σ (fM_next x0 x1 σ) := by
  refine kSem.of (L0 := [li x0, li x1, none, none]) (by decide) (Nat.le_of_ble_eq_true rfl) rfl (fun X q hX hR => ?_)
  have hT : ∀ z : Int × KM, (fun z => z = q) z → z = q := fun _ h => h
  refine k_iload_n hX dM_next_0 rfl ?_
  refine k_bipush hX dM_next_1 (by decide) ?_
  refine k_irem hX dM_next_3 (fun y1 => ?_)
  refine k_istore_n (L' := [li x0, li x1, li y1, none]) hX dM_next_4 rfl (by decide) rfl ?_
  refine k_iload_n hX dM_next_5 rfl ?_
  refine k_bipush hX dM_next_6 (by decide) ?_
  refine k_icmp_lt (tgt := 15) hX dM_next_8 (by decide) ?_ ?_
  · refine k_iconst hX dM_next_15 ?_
    exact tM_next_J16 hX hR x0 x1 y1 0 σ hT
  · refine k_iconst hX dM_next_11 ?_
    refine k_goto (tgt := 16) hX dM_next_12 (by decide) ?_
    exact tM_next_J16 hX hR x0 x1 y1 1 σ hT
theorem cl_126 {X : KC} {d n : Nat} {cc : ByteArray} {pc : Nat} {L : List (Option KV)} {st : List KV} {σ : KM} {Z : Type} {Θ : Z → Prop} {G : Int → KM → Option Z} {x0 x1 : Int} (hX : kOk X d cc n "KeyPathModel") (hdd : 1 + 1 ≤ d) (hst : k_cat st ≤ 8) (hd : decode cc pc = .ok (.invokestatic 255, 3)) (h : ∀ r τ, kJ X (pc + 3) L (ki r :: st) τ (G r τ) Θ) : kJ X pc L (ki x1 :: ki x0 :: st) σ (kCall (fM_next x0 x1 σ) G) Θ :=
  k_callS (np := 2) (av := [ki x0, ki x1]) (ret := (some .int)) hX (sM_next _ _ σ) ⟨⟨hdd, by decide⟩, tw_1312, tw_11, by decide +kernel⟩ rfl tw_1310 tw_1311 hst hd h
theorem dM_costs_0 : decode prog_11_method_48_code 0 = .ok (.iload_n 1, 1) := by decide +kernel
theorem dM_costs_1 : decode prog_11_method_48_code 1 = .ok (.iconst 2, 1) := by decide +kernel
theorem dM_costs_2 : decode prog_11_method_48_code 2 = .ok (.if_icmp .ge 10, 3) := by decide +kernel
theorem dM_costs_5 : decode prog_11_method_48_code 5 = .ok (.aload_n 0, 1) := by decide +kernel
theorem dM_costs_6 : decode prog_11_method_48_code 6 = .ok (.getfield 41, 3) := by decide +kernel
theorem dM_costs_9 : decode prog_11_method_48_code 9 = .ok (.goto 19, 3) := by decide +kernel
theorem dM_costs_12 : decode prog_11_method_48_code 12 = .ok (.iload_n 1, 1) := by decide +kernel
theorem dM_costs_13 : decode prog_11_method_48_code 13 = .ok (.iconst 2, 1) := by decide +kernel
theorem dM_costs_14 : decode prog_11_method_48_code 14 = .ok (.if_icmp .ne 10, 3) := by decide +kernel
theorem dM_costs_17 : decode prog_11_method_48_code 17 = .ok (.aload_n 0, 1) := by decide +kernel
theorem dM_costs_18 : decode prog_11_method_48_code 18 = .ok (.getfield 44, 3) := by decide +kernel
theorem dM_costs_21 : decode prog_11_method_48_code 21 = .ok (.goto 7, 3) := by decide +kernel
theorem dM_costs_24 : decode prog_11_method_48_code 24 = .ok (.aload_n 0, 1) := by decide +kernel
theorem dM_costs_25 : decode prog_11_method_48_code 25 = .ok (.getfield 47, 3) := by decide +kernel
theorem dM_costs_28 : decode prog_11_method_48_code 28 = .ok (.ireturn, 1) := by decide +kernel
set_option maxRecDepth 100000 in
set_option maxHeartbeats 4000000 in
theorem tM_costs_J28 {X : KC} {q : Int × KM} (hX : kOk X 1 prog_11_method_48_code 2 "KeyPathModel") (hR : kRet X (some .int) q) (t0 : Int) (σ : KM) {Θ : (Int × KM) → Prop} (hT : ∀ z, Θ (z) → z = q) : kJ X 28 [lq 10, none] [ki t0] σ (fM_costs_J28 t0 σ) Θ := by
  exact k_iret hX hR hT dM_costs_28
set_option maxRecDepth 100000 in
set_option maxHeartbeats 4000000 in
theorem sM_costs (x1 : Int) (σ : KM) : kSem 1 (⟨"KeyPathModel", "costs", "(I)I"⟩ : MethodName) prog_11_method_48_code 2 (some .int) [kr 10, ki x1] σ (fM_costs x1 σ) := by
  refine kSem.of (L0 := [lq 10, li x1]) (by decide) (Nat.le_of_ble_eq_true rfl) rfl (fun X q hX hR => ?_)
  have hT : ∀ z : Int × KM, (fun z => z = q) z → z = q := fun _ h => h
  refine k_iload_n hX dM_costs_0 rfl ?_
  refine k_iconst hX dM_costs_1 ?_
  refine k_icmp_ge (tgt := 12) hX dM_costs_2 (by decide) ?_ ?_
  · refine k_iload_n hX dM_costs_12 rfl ?_
    refine k_iconst hX dM_costs_13 ?_
    refine k_icmp_ne (tgt := 24) hX dM_costs_14 (by decide) ?_ ?_
    · refine k_aload_n hX dM_costs_24 rfl ?_
      refine gf_169 hX dM_costs_25 ?_
      refine k_less [true, false] (L' := [lq 10, none]) rfl ?_
      exact tM_costs_J28 hX hR (σ 10 15) σ hT
    · refine k_aload_n hX dM_costs_17 rfl ?_
      refine gf_170 hX dM_costs_18 ?_
      refine k_goto (tgt := 28) hX dM_costs_21 (by decide) ?_
      refine k_less [true, false] (L' := [lq 10, none]) rfl ?_
      exact tM_costs_J28 hX hR (σ 10 14) σ hT
  · refine k_aload_n hX dM_costs_5 rfl ?_
    refine gf_171 hX dM_costs_6 ?_
    refine k_goto (tgt := 28) hX dM_costs_9 (by decide) ?_
    refine k_less [true, false] (L' := [lq 10, none]) rfl ?_
    exact tM_costs_J28 hX hR (σ 10 13) σ hT
theorem cl_127 {X : KC} {d n : Nat} {cc : ByteArray} {pc : Nat} {L : List (Option KV)} {st : List KV} {σ : KM} {Z : Type} {Θ : Z → Prop} {G : Int → KM → Option Z} {x1 : Int} (hX : kOk X d cc n "KeyPathModel") (hdd : 1 + 1 ≤ d) (hst : k_cat st ≤ 8) (hd : decode cc pc = .ok (.invokevirtual 258, 3)) (h : ∀ r τ, kJ X (pc + 3) L (ki r :: st) τ (G r τ) Θ) : kJ X pc L (ki x1 :: kr 10 :: st) σ (kCall (fM_costs x1 σ) G) Θ :=
  k_callV (np := 1) (av := [ki x1]) (ret := (some .int)) hX (by decide) rfl rfl rfl (sM_costs _ σ) ⟨⟨hdd, by decide⟩, tw_1316, tw_11, by decide +kernel⟩ rfl tw_1313 tw_1315 ts_59 hst hd h
theorem dM_laysFar_0 : decode prog_11_method_49_code 0 = .ok (.iconst 0, 1) := by decide +kernel
theorem dM_laysFar_1 : decode prog_11_method_49_code 1 = .ok (.istore_n 2, 1) := by decide +kernel
theorem dM_laysFar_2 : decode prog_11_method_49_code 2 = .ok (.iload_n 2, 1) := by decide +kernel
theorem dM_laysFar_3 : decode prog_11_method_49_code 3 = .ok (.bipush 24, 2) := by decide +kernel
theorem dM_laysFar_5 : decode prog_11_method_49_code 5 = .ok (.if_icmp .ge 17, 3) := by decide +kernel
theorem dM_laysFar_8 : decode prog_11_method_49_code 8 = .ok (.aload_n 0, 1) := by decide +kernel
theorem dM_laysFar_9 : decode prog_11_method_49_code 9 = .ok (.getfield 69, 3) := by decide +kernel
theorem dM_laysFar_12 : decode prog_11_method_49_code 12 = .ok (.iload_n 2, 1) := by decide +kernel
theorem dM_laysFar_13 : decode prog_11_method_49_code 13 = .ok (.ldc 254, 2) := by decide +kernel
theorem dM_laysFar_15 : decode prog_11_method_49_code 15 = .ok (.iastore, 1) := by decide +kernel
theorem dM_laysFar_16 : decode prog_11_method_49_code 16 = .ok (.iinc 2 1, 3) := by decide +kernel
theorem dM_laysFar_19 : decode prog_11_method_49_code 19 = .ok (.goto (-17), 3) := by decide +kernel
theorem dM_laysFar_22 : decode prog_11_method_49_code 22 = .ok (.aload_n 0, 1) := by decide +kernel
theorem dM_laysFar_23 : decode prog_11_method_49_code 23 = .ok (.getfield 69, 3) := by decide +kernel
theorem dM_laysFar_26 : decode prog_11_method_49_code 26 = .ok (.iload_n 1, 1) := by decide +kernel
theorem dM_laysFar_27 : decode prog_11_method_49_code 27 = .ok (.iconst 0, 1) := by decide +kernel
theorem dM_laysFar_28 : decode prog_11_method_49_code 28 = .ok (.iastore, 1) := by decide +kernel
theorem dM_laysFar_29 : decode prog_11_method_49_code 29 = .ok (.aload_n 0, 1) := by decide +kernel
theorem dM_laysFar_30 : decode prog_11_method_49_code 30 = .ok (.getfield 72, 3) := by decide +kernel
theorem dM_laysFar_33 : decode prog_11_method_49_code 33 = .ok (.iload_n 1, 1) := by decide +kernel
theorem dM_laysFar_34 : decode prog_11_method_49_code 34 = .ok (.iconst 0, 1) := by decide +kernel
theorem dM_laysFar_35 : decode prog_11_method_49_code 35 = .ok (.iastore, 1) := by decide +kernel
theorem dM_laysFar_36 : decode prog_11_method_49_code 36 = .ok (.iconst 1, 1) := by decide +kernel
theorem dM_laysFar_37 : decode prog_11_method_49_code 37 = .ok (.istore_n 2, 1) := by decide +kernel
theorem dM_laysFar_38 : decode prog_11_method_49_code 38 = .ok (.iload_n 2, 1) := by decide +kernel
theorem dM_laysFar_39 : decode prog_11_method_49_code 39 = .ok (.ifCond .eq 144, 3) := by decide +kernel
theorem dM_laysFar_42 : decode prog_11_method_49_code 42 = .ok (.iconst 0, 1) := by decide +kernel
theorem dM_laysFar_43 : decode prog_11_method_49_code 43 = .ok (.istore_n 2, 1) := by decide +kernel
theorem dM_laysFar_44 : decode prog_11_method_49_code 44 = .ok (.iconst 0, 1) := by decide +kernel
theorem dM_laysFar_45 : decode prog_11_method_49_code 45 = .ok (.istore_n 3, 1) := by decide +kernel
theorem dM_laysFar_46 : decode prog_11_method_49_code 46 = .ok (.iload_n 3, 1) := by decide +kernel
theorem dM_laysFar_47 : decode prog_11_method_49_code 47 = .ok (.bipush 24, 2) := by decide +kernel
theorem dM_laysFar_49 : decode prog_11_method_49_code 49 = .ok (.if_icmp .ge 131, 3) := by decide +kernel
theorem dM_laysFar_52 : decode prog_11_method_49_code 52 = .ok (.iconst 0, 1) := by decide +kernel
theorem dM_laysFar_53 : decode prog_11_method_49_code 53 = .ok (.istore 4, 2) := by decide +kernel
theorem dM_laysFar_55 : decode prog_11_method_49_code 55 = .ok (.iload 4, 2) := by decide +kernel
theorem dM_laysFar_57 : decode prog_11_method_49_code 57 = .ok (.iconst 4, 1) := by decide +kernel
theorem dM_laysFar_58 : decode prog_11_method_49_code 58 = .ok (.if_icmp .ge 116, 3) := by decide +kernel
theorem dM_laysFar_61 : decode prog_11_method_49_code 61 = .ok (.iload_n 3, 1) := by decide +kernel
theorem dM_laysFar_62 : decode prog_11_method_49_code 62 = .ok (.iload 4, 2) := by decide +kernel
theorem dM_laysFar_64 : decode prog_11_method_49_code 64 = .ok (.invokestatic 255, 3) := by decide +kernel
theorem dM_laysFar_67 : decode prog_11_method_49_code 67 = .ok (.istore 5, 2) := by decide +kernel
theorem dM_laysFar_69 : decode prog_11_method_49_code 69 = .ok (.aload_n 0, 1) := by decide +kernel
theorem dM_laysFar_70 : decode prog_11_method_49_code 70 = .ok (.getfield 69, 3) := by decide +kernel
theorem dM_laysFar_73 : decode prog_11_method_49_code 73 = .ok (.iload 5, 2) := by decide +kernel
theorem dM_laysFar_75 : decode prog_11_method_49_code 75 = .ok (.iaload, 1) := by decide +kernel
theorem dM_laysFar_76 : decode prog_11_method_49_code 76 = .ok (.ldc 254, 2) := by decide +kernel
theorem dM_laysFar_78 : decode prog_11_method_49_code 78 = .ok (.if_icmp .ne 6, 3) := by decide +kernel
theorem dM_laysFar_81 : decode prog_11_method_49_code 81 = .ok (.goto 87, 3) := by decide +kernel
theorem dM_laysFar_84 : decode prog_11_method_49_code 84 = .ok (.aload_n 0, 1) := by decide +kernel
theorem dM_laysFar_85 : decode prog_11_method_49_code 85 = .ok (.getfield 69, 3) := by decide +kernel
theorem dM_laysFar_88 : decode prog_11_method_49_code 88 = .ok (.iload 5, 2) := by decide +kernel
theorem dM_laysFar_90 : decode prog_11_method_49_code 90 = .ok (.iaload, 1) := by decide +kernel
theorem dM_laysFar_91 : decode prog_11_method_49_code 91 = .ok (.aload_n 0, 1) := by decide +kernel
theorem dM_laysFar_92 : decode prog_11_method_49_code 92 = .ok (.iload 4, 2) := by decide +kernel
theorem dM_laysFar_94 : decode prog_11_method_49_code 94 = .ok (.invokevirtual 258, 3) := by decide +kernel
theorem dM_laysFar_97 : decode prog_11_method_49_code 97 = .ok (.iadd, 1) := by decide +kernel
theorem dM_laysFar_98 : decode prog_11_method_49_code 98 = .ok (.istore 6, 2) := by decide +kernel
theorem dM_laysFar_100 : decode prog_11_method_49_code 100 = .ok (.iload 6, 2) := by decide +kernel
theorem dM_laysFar_102 : decode prog_11_method_49_code 102 = .ok (.aload_n 0, 1) := by decide +kernel
theorem dM_laysFar_103 : decode prog_11_method_49_code 103 = .ok (.getfield 69, 3) := by decide +kernel
theorem dM_laysFar_106 : decode prog_11_method_49_code 106 = .ok (.iload_n 3, 1) := by decide +kernel
theorem dM_laysFar_107 : decode prog_11_method_49_code 107 = .ok (.iaload, 1) := by decide +kernel
theorem dM_laysFar_108 : decode prog_11_method_49_code 108 = .ok (.if_icmp .gt 60, 3) := by decide +kernel
theorem dM_laysFar_111 : decode prog_11_method_49_code 111 = .ok (.iload 6, 2) := by decide +kernel
theorem dM_laysFar_113 : decode prog_11_method_49_code 113 = .ok (.aload_n 0, 1) := by decide +kernel
theorem dM_laysFar_114 : decode prog_11_method_49_code 114 = .ok (.getfield 69, 3) := by decide +kernel
theorem dM_laysFar_117 : decode prog_11_method_49_code 117 = .ok (.iload_n 3, 1) := by decide +kernel
theorem dM_laysFar_118 : decode prog_11_method_49_code 118 = .ok (.iaload, 1) := by decide +kernel
theorem dM_laysFar_119 : decode prog_11_method_49_code 119 = .ok (.if_icmp .ne 24, 3) := by decide +kernel
theorem dM_laysFar_122 : decode prog_11_method_49_code 122 = .ok (.aload_n 0, 1) := by decide +kernel
theorem dM_laysFar_123 : decode prog_11_method_49_code 123 = .ok (.getfield 72, 3) := by decide +kernel
theorem dM_laysFar_126 : decode prog_11_method_49_code 126 = .ok (.iload 5, 2) := by decide +kernel
theorem dM_laysFar_128 : decode prog_11_method_49_code 128 = .ok (.iaload, 1) := by decide +kernel
theorem dM_laysFar_129 : decode prog_11_method_49_code 129 = .ok (.iconst 1, 1) := by decide +kernel
theorem dM_laysFar_130 : decode prog_11_method_49_code 130 = .ok (.iadd, 1) := by decide +kernel
theorem dM_laysFar_131 : decode prog_11_method_49_code 131 = .ok (.aload_n 0, 1) := by decide +kernel
theorem dM_laysFar_132 : decode prog_11_method_49_code 132 = .ok (.getfield 72, 3) := by decide +kernel
theorem dM_laysFar_135 : decode prog_11_method_49_code 135 = .ok (.iload_n 3, 1) := by decide +kernel
theorem dM_laysFar_136 : decode prog_11_method_49_code 136 = .ok (.iaload, 1) := by decide +kernel
theorem dM_laysFar_137 : decode prog_11_method_49_code 137 = .ok (.if_icmp .lt 6, 3) := by decide +kernel
theorem dM_laysFar_140 : decode prog_11_method_49_code 140 = .ok (.goto 28, 3) := by decide +kernel
theorem dM_laysFar_143 : decode prog_11_method_49_code 143 = .ok (.aload_n 0, 1) := by decide +kernel
theorem dM_laysFar_144 : decode prog_11_method_49_code 144 = .ok (.getfield 69, 3) := by decide +kernel
theorem dM_laysFar_147 : decode prog_11_method_49_code 147 = .ok (.iload_n 3, 1) := by decide +kernel
theorem dM_laysFar_148 : decode prog_11_method_49_code 148 = .ok (.iload 6, 2) := by decide +kernel
theorem dM_laysFar_150 : decode prog_11_method_49_code 150 = .ok (.iastore, 1) := by decide +kernel
theorem dM_laysFar_151 : decode prog_11_method_49_code 151 = .ok (.aload_n 0, 1) := by decide +kernel
theorem dM_laysFar_152 : decode prog_11_method_49_code 152 = .ok (.getfield 72, 3) := by decide +kernel
theorem dM_laysFar_155 : decode prog_11_method_49_code 155 = .ok (.iload_n 3, 1) := by decide +kernel
theorem dM_laysFar_156 : decode prog_11_method_49_code 156 = .ok (.aload_n 0, 1) := by decide +kernel
theorem dM_laysFar_157 : decode prog_11_method_49_code 157 = .ok (.getfield 72, 3) := by decide +kernel
theorem dM_laysFar_160 : decode prog_11_method_49_code 160 = .ok (.iload 5, 2) := by decide +kernel
theorem dM_laysFar_162 : decode prog_11_method_49_code 162 = .ok (.iaload, 1) := by decide +kernel
theorem dM_laysFar_163 : decode prog_11_method_49_code 163 = .ok (.iconst 1, 1) := by decide +kernel
theorem dM_laysFar_164 : decode prog_11_method_49_code 164 = .ok (.iadd, 1) := by decide +kernel
theorem dM_laysFar_165 : decode prog_11_method_49_code 165 = .ok (.iastore, 1) := by decide +kernel
theorem dM_laysFar_166 : decode prog_11_method_49_code 166 = .ok (.iconst 1, 1) := by decide +kernel
theorem dM_laysFar_167 : decode prog_11_method_49_code 167 = .ok (.istore_n 2, 1) := by decide +kernel
theorem dM_laysFar_168 : decode prog_11_method_49_code 168 = .ok (.iinc 4 1, 3) := by decide +kernel
theorem dM_laysFar_171 : decode prog_11_method_49_code 171 = .ok (.goto (-116), 3) := by decide +kernel
theorem dM_laysFar_174 : decode prog_11_method_49_code 174 = .ok (.iinc 3 1, 3) := by decide +kernel
theorem dM_laysFar_177 : decode prog_11_method_49_code 177 = .ok (.goto (-131), 3) := by decide +kernel
theorem dM_laysFar_180 : decode prog_11_method_49_code 180 = .ok (.goto (-142), 3) := by decide +kernel
theorem dM_laysFar_183 : decode prog_11_method_49_code 183 = .ok (.return_, 1) := by decide +kernel
set_option maxRecDepth 100000 in
set_option maxHeartbeats 4000000 in
theorem tM_laysFar_J183 {X : KC} {q : Int × KM} (hX : kOk X 2 prog_11_method_49_code 7 "KeyPathModel") (hR : kRet X none q) (σ : KM) {Θ : (Int × KM) → Prop} (hT : ∀ z, Θ (z) → z = q) : kJ X 183 [lq 10, none, none, none, none, none, none] [] σ (fM_laysFar_J183 σ) Θ := by
  exact k_vret hX hR hT dM_laysFar_183
set_option maxRecDepth 100000 in
set_option maxHeartbeats 4000000 in
theorem tM_laysFar_J180 {X : KC} {q : Int × KM} (hX : kOk X 2 prog_11_method_49_code 7 "KeyPathModel") (hR : kRet X none q) (x2 : Int) (σ : KM) {Θ : ((Int × KM) ⊕ (Int × KM)) → Prop} (hT : ∀ z, Θ (.inr (z)) → z = q) (hb0 : ∀ s : Int × KM, Θ (.inl s) → kW X 38 [lq 10, none, li s.1, none, none, none, none] [] s.2) : kJ X 180 [lq 10, none, li x2, none, none, none, none] [] σ (fM_laysFar_J180 x2 σ) Θ := by
  refine k_goto (tgt := 38) hX dM_laysFar_180 (by decide) ?_
  exact k_back (hb0 (x2, σ))
set_option maxRecDepth 100000 in
set_option maxHeartbeats 4000000 in
theorem tM_laysFar_J174 {X : KC} {q : Int × KM} (hX : kOk X 2 prog_11_method_49_code 7 "KeyPathModel") (hR : kRet X none q) (x2 x3 : Int) (σ : KM) {Θ : ((Int × Int × KM) ⊕ ((Int × KM) ⊕ (Int × KM))) → Prop} (hT : ∀ z, Θ (.inr (.inr (z))) → z = q) (hb0 : ∀ s : Int × Int × KM, Θ (.inl s) → kW X 46 [lq 10, none, li s.1, li s.2.1, none, none, none] [] s.2.2) (hb1 : ∀ s : Int × KM, Θ (.inr (.inl s)) → kW X 38 [lq 10, none, li s.1, none, none, none, none] [] s.2) : kJ X 174 [lq 10, none, li x2, li x3, none, none, none] [] σ (fM_laysFar_J174 x2 x3 σ) Θ := by
  refine k_iincL (Lf := fun y1 => [lq 10, none, li x2, li y1, none, none, none]) hX dM_laysFar_174 rfl (by decide) rfl (fun _ => rfl) (fun y1 => ?_)
  refine k_goto (tgt := 46) hX dM_laysFar_177 (by decide) ?_
  exact k_back (hb0 (x2, y1, σ))
set_option maxRecDepth 100000 in
set_option maxHeartbeats 4000000 in
theorem tM_laysFar_J168 {X : KC} {q : Int × KM} (hX : kOk X 2 prog_11_method_49_code 7 "KeyPathModel") (hR : kRet X none q) (x2 x3 x4 : Int) (σ : KM) {Θ : ((Int × Int × KM) ⊕ ((Int × Int × KM) ⊕ ((Int × KM) ⊕ (Int × KM)))) → Prop} (hT : ∀ z, Θ (.inr (.inr (.inr (z)))) → z = q) (hb0 : ∀ s : Int × Int × KM, Θ (.inl s) → kW X 55 [lq 10, none, li s.1, li x3, li s.2.1, none, none] [] s.2.2) (hb1 : ∀ s : Int × Int × KM, Θ (.inr (.inl s)) → kW X 46 [lq 10, none, li s.1, li s.2.1, none, none, none] [] s.2.2) (hb2 : ∀ s : Int × KM, Θ (.inr (.inr (.inl s))) → kW X 38 [lq 10, none, li s.1, none, none, none, none] [] s.2) : kJ X 168 [lq 10, none, li x2, li x3, li x4, none, none] [] σ (fM_laysFar_J168 x2 x3 x4 σ) Θ := by
  refine k_iincL (Lf := fun y1 => [lq 10, none, li x2, li x3, li y1, none, none]) hX dM_laysFar_168 rfl (by decide) rfl (fun _ => rfl) (fun y1 => ?_)
  refine k_goto (tgt := 55) hX dM_laysFar_171 (by decide) ?_
  exact k_back (hb0 (x2, y1, σ))
set_option maxRecDepth 100000 in
set_option maxHeartbeats 4000000 in
theorem tM_laysFar_J143 {X : KC} {q : Int × KM} (hX : kOk X 2 prog_11_method_49_code 7 "KeyPathModel") (hR : kRet X none q) (x3 x4 x5 x6 : Int) (σ : KM) {Θ : ((Int × Int × KM) ⊕ ((Int × Int × KM) ⊕ ((Int × KM) ⊕ (Int × KM)))) → Prop} (hT : ∀ z, Θ (.inr (.inr (.inr (z)))) → z = q) (hb0 : ∀ s : Int × Int × KM, Θ (.inl s) → kW X 55 [lq 10, none, li s.1, li x3, li s.2.1, none, none] [] s.2.2) (hb1 : ∀ s : Int × Int × KM, Θ (.inr (.inl s)) → kW X 46 [lq 10, none, li s.1, li s.2.1, none, none, none] [] s.2.2) (hb2 : ∀ s : Int × KM, Θ (.inr (.inr (.inl s))) → kW X 38 [lq 10, none, li s.1, none, none, none, none] [] s.2) : kJ X 143 [lq 10, none, none, li x3, li x4, li x5, li x6] [] σ (fM_laysFar_J143 x3 x4 x5 x6 σ) Θ := by
  refine k_aload_n hX dM_laysFar_143 rfl ?_
  refine gf_167 hX dM_laysFar_144 ?_
  refine k_iload_n hX dM_laysFar_147 rfl ?_
  refine k_iload hX dM_laysFar_148 rfl ?_
  refine k_iast hX (by decide) rfl dM_laysFar_150 rfl (fun τ1 => ?_)
  refine k_aload_n hX dM_laysFar_151 rfl ?_
  refine gf_168 hX dM_laysFar_152 ?_
  refine k_iload_n hX dM_laysFar_155 rfl ?_
  refine k_aload_n hX dM_laysFar_156 rfl ?_
  refine gf_168 hX dM_laysFar_157 ?_
  refine k_iload hX dM_laysFar_160 rfl ?_
  refine k_iald hX (by decide) rfl dM_laysFar_162 rfl (fun y2 => ?_)
  refine k_iconst hX dM_laysFar_163 ?_
  refine k_iadd hX dM_laysFar_164 ?_
  refine k_iast hX (by decide) rfl dM_laysFar_165 rfl (fun τ3 => ?_)
  refine k_iconst hX dM_laysFar_166 ?_
  refine k_istore_n (L' := [lq 10, none, li 1, li x3, li x4, li x5, li x6]) hX dM_laysFar_167 rfl (by decide) rfl ?_
  refine k_less [true, true, true, true, true, false, false] (L' := [lq 10, none, li 1, li x3, li x4, none, none]) rfl ?_
  exact tM_laysFar_J168 hX hR 1 x3 x4 τ3 hT hb0 hb1 hb2
set_option maxRecDepth 100000 in
set_option maxHeartbeats 4000000 in
theorem tM_laysFar_B55 {X : KC} {q : Int × KM} (hX : kOk X 2 prog_11_method_49_code 7 "KeyPathModel") (hR : kRet X none q) (x3 x2 x4 : Int) (σ : KM) {Θ : ((Int × Int × KM) ⊕ ((Int × Int × KM) ⊕ ((Int × KM) ⊕ (Int × KM)))) → Prop} (hT : ∀ z, Θ (.inr (.inr (.inr (z)))) → z = q) (hb0 : ∀ s : Int × Int × KM, Θ (.inl s) → kW X 55 [lq 10, none, li s.1, li x3, li s.2.1, none, none] [] s.2.2) (hb1 : ∀ s : Int × Int × KM, Θ (.inr (.inl s)) → kW X 46 [lq 10, none, li s.1, li s.2.1, none, none, none] [] s.2.2) (hb2 : ∀ s : Int × KM, Θ (.inr (.inr (.inl s))) → kW X 38 [lq 10, none, li s.1, none, none, none, none] [] s.2) : kJ X 55 [lq 10, none, li x2, li x3, li x4, none, none] [] σ (fM_laysFar_B55 x3 x2 x4 σ) Θ := by
  refine k_iload hX dM_laysFar_55 rfl ?_
  refine k_iconst hX dM_laysFar_57 ?_
  refine k_icmp_ge (tgt := 174) hX dM_laysFar_58 (by decide) ?_ ?_
  · refine k_exit ?_
    refine k_less [true, true, true, true, false, true, true] (L' := [lq 10, none, li x2, li x3, none, none, none]) rfl ?_
    exact tM_laysFar_J174 hX hR x2 x3 σ hT hb1 hb2
  · refine k_iload_n hX dM_laysFar_61 rfl ?_
    refine k_iload hX dM_laysFar_62 rfl ?_
    refine cl_126 hX (by decide) (Nat.le_of_ble_eq_true rfl) dM_laysFar_64 (fun r2 τ1 => ?_)
    refine k_istore (L' := [lq 10, none, li x2, li x3, li x4, li r2, none]) hX dM_laysFar_67 rfl (by decide) rfl ?_
    refine k_aload_n hX dM_laysFar_69 rfl ?_
    refine gf_167 hX dM_laysFar_70 ?_
    refine k_iload hX dM_laysFar_73 rfl ?_
    refine k_iald hX (by decide) rfl dM_laysFar_75 rfl (fun y3 => ?_)
    refine k_ldc (v := 1000000000) (w := 0) hX dM_laysFar_76 tw_1309 ?_
    refine k_icmp_ne (tgt := 84) hX dM_laysFar_78 (by decide) ?_ ?_
    · refine k_aload_n hX dM_laysFar_84 rfl ?_
      refine gf_167 hX dM_laysFar_85 ?_
      refine k_iload hX dM_laysFar_88 rfl ?_
      refine k_iald hX (by decide) rfl dM_laysFar_90 rfl (fun y4 => ?_)
      refine k_aload_n hX dM_laysFar_91 rfl ?_
      refine k_iload hX dM_laysFar_92 rfl ?_
      refine cl_127 hX (by decide) (Nat.le_of_ble_eq_true rfl) dM_laysFar_94 (fun r6 τ5 => ?_)
      refine k_iadd hX dM_laysFar_97 ?_
      refine k_istoreL (Lf := fun y7 => [lq 10, none, li x2, li x3, li x4, li r2, li y7]) hX dM_laysFar_98 rfl (by decide) (fun _ => rfl) (fun y7 => ?_)
      refine k_iload hX dM_laysFar_100 rfl ?_
      refine k_aload_n hX dM_laysFar_102 rfl ?_
      refine gf_167 hX dM_laysFar_103 ?_
      refine k_iload_n hX dM_laysFar_106 rfl ?_
      refine k_iald hX (by decide) rfl dM_laysFar_107 rfl (fun y8 => ?_)
      refine k_icmp_gt (tgt := 168) hX dM_laysFar_108 (by decide) ?_ ?_
      · refine k_less [true, true, true, true, true, false, false] (L' := [lq 10, none, li x2, li x3, li x4, none, none]) rfl ?_
        exact tM_laysFar_J168 hX hR x2 x3 x4 τ5 hT hb0 hb1 hb2
      · refine k_iload hX dM_laysFar_111 rfl ?_
        refine k_aload_n hX dM_laysFar_113 rfl ?_
        refine gf_167 hX dM_laysFar_114 ?_
        refine k_iload_n hX dM_laysFar_117 rfl ?_
        refine k_iald hX (by decide) rfl dM_laysFar_118 rfl (fun y9 => ?_)
        refine k_icmp_ne (tgt := 143) hX dM_laysFar_119 (by decide) ?_ ?_
        · refine k_less [true, true, false, true, true, true, true] (L' := [lq 10, none, none, li x3, li x4, li r2, li y7]) rfl ?_
          exact tM_laysFar_J143 hX hR x3 x4 r2 y7 τ5 hT hb0 hb1 hb2
        · refine k_aload_n hX dM_laysFar_122 rfl ?_
          refine gf_168 hX dM_laysFar_123 ?_
          refine k_iload hX dM_laysFar_126 rfl ?_
          refine k_iald hX (by decide) rfl dM_laysFar_128 rfl (fun y10 => ?_)
          refine k_iconst hX dM_laysFar_129 ?_
          refine k_iadd hX dM_laysFar_130 ?_
          refine k_aload_n hX dM_laysFar_131 rfl ?_
          refine gf_168 hX dM_laysFar_132 ?_
          refine k_iload_n hX dM_laysFar_135 rfl ?_
          refine k_iald hX (by decide) rfl dM_laysFar_136 rfl (fun y11 => ?_)
          refine k_icmp_lt (tgt := 143) hX dM_laysFar_137 (by decide) ?_ ?_
          · refine k_less [true, true, false, true, true, true, true] (L' := [lq 10, none, none, li x3, li x4, li r2, li y7]) rfl ?_
            exact tM_laysFar_J143 hX hR x3 x4 r2 y7 τ5 hT hb0 hb1 hb2
          · refine k_goto (tgt := 168) hX dM_laysFar_140 (by decide) ?_
            refine k_less [true, true, true, true, true, false, false] (L' := [lq 10, none, li x2, li x3, li x4, none, none]) rfl ?_
            exact tM_laysFar_J168 hX hR x2 x3 x4 τ5 hT hb0 hb1 hb2
    · refine k_goto (tgt := 168) hX dM_laysFar_81 (by decide) ?_
      refine k_less [true, true, true, true, true, false, true] (L' := [lq 10, none, li x2, li x3, li x4, none, none]) rfl ?_
      exact tM_laysFar_J168 hX hR x2 x3 x4 τ1 hT hb0 hb1 hb2
set_option maxRecDepth 100000 in
set_option maxHeartbeats 4000000 in
theorem tM_laysFar_L55 {X : KC} {q : Int × KM} (hX : kOk X 2 prog_11_method_49_code 7 "KeyPathModel") (hR : kRet X none q) (x3 x2 x4 : Int) (σ : KM) {Θ : ((Int × Int × KM) ⊕ ((Int × KM) ⊕ (Int × KM))) → Prop} (hT : ∀ z, Θ (.inr (.inr (z))) → z = q) (hb0 : ∀ s : Int × Int × KM, Θ (.inl s) → kW X 46 [lq 10, none, li s.1, li s.2.1, none, none, none] [] s.2.2) (hb1 : ∀ s : Int × KM, Θ (.inr (.inl s)) → kW X 38 [lq 10, none, li s.1, none, none, none, none] [] s.2) : kJ X 55 [lq 10, none, li x2, li x3, li x4, none, none] [] σ (fM_laysFar_L55 x3 x2 x4 σ) Θ :=
  k_iter (f := fun s => fM_laysFar_B55 x3 s.1 s.2.1 s.2.2) (Lf := fun s => [lq 10, none, li s.1, li x3, li s.2.1, none, none]) (mf := fun s => s.2.2) (Θ := Θ) (fun s => tM_laysFar_B55 hX hR x3 s.1 s.2.1 s.2.2 hT (fun _ h9 => h9) hb0 hb1) kF (x2, x4, σ)
set_option maxRecDepth 100000 in
set_option maxHeartbeats 4000000 in
theorem tM_laysFar_B46 {X : KC} {q : Int × KM} (hX : kOk X 2 prog_11_method_49_code 7 "KeyPathModel") (hR : kRet X none q) (x2 x3 : Int) (σ : KM) {Θ : ((Int × Int × KM) ⊕ ((Int × KM) ⊕ (Int × KM))) → Prop} (hT : ∀ z, Θ (.inr (.inr (z))) → z = q) (hb0 : ∀ s : Int × Int × KM, Θ (.inl s) → kW X 46 [lq 10, none, li s.1, li s.2.1, none, none, none] [] s.2.2) (hb1 : ∀ s : Int × KM, Θ (.inr (.inl s)) → kW X 38 [lq 10, none, li s.1, none, none, none, none] [] s.2) : kJ X 46 [lq 10, none, li x2, li x3, none, none, none] [] σ (fM_laysFar_B46 x2 x3 σ) Θ := by
  refine k_iload_n hX dM_laysFar_46 rfl ?_
  refine k_bipush hX dM_laysFar_47 (by decide) ?_
  refine k_icmp_ge (tgt := 180) hX dM_laysFar_49 (by decide) ?_ ?_
  · refine k_exit ?_
    refine k_less [true, true, true, false, true, true, true] (L' := [lq 10, none, li x2, none, none, none, none]) rfl ?_
    exact tM_laysFar_J180 hX hR x2 σ hT hb1
  · refine k_iconst hX dM_laysFar_52 ?_
    refine k_istore (L' := [lq 10, none, li x2, li x3, li 0, none, none]) hX dM_laysFar_53 rfl (by decide) rfl ?_
    exact tM_laysFar_L55 hX hR x3 x2 0 σ hT hb0 hb1
set_option maxRecDepth 100000 in
set_option maxHeartbeats 4000000 in
theorem tM_laysFar_L46 {X : KC} {q : Int × KM} (hX : kOk X 2 prog_11_method_49_code 7 "KeyPathModel") (hR : kRet X none q) (x2 x3 : Int) (σ : KM) {Θ : ((Int × KM) ⊕ (Int × KM)) → Prop} (hT : ∀ z, Θ (.inr (z)) → z = q) (hb0 : ∀ s : Int × KM, Θ (.inl s) → kW X 38 [lq 10, none, li s.1, none, none, none, none] [] s.2) : kJ X 46 [lq 10, none, li x2, li x3, none, none, none] [] σ (fM_laysFar_L46 x2 x3 σ) Θ :=
  k_iter (f := fun s => fM_laysFar_B46 s.1 s.2.1 s.2.2) (Lf := fun s => [lq 10, none, li s.1, li s.2.1, none, none, none]) (mf := fun s => s.2.2) (Θ := Θ) (fun s => tM_laysFar_B46 hX hR s.1 s.2.1 s.2.2 hT (fun _ h9 => h9) hb0) kF (x2, x3, σ)
set_option maxRecDepth 100000 in
set_option maxHeartbeats 4000000 in
theorem tM_laysFar_B38 {X : KC} {q : Int × KM} (hX : kOk X 2 prog_11_method_49_code 7 "KeyPathModel") (hR : kRet X none q) (x2 : Int) (σ : KM) {Θ : ((Int × KM) ⊕ (Int × KM)) → Prop} (hT : ∀ z, Θ (.inr (z)) → z = q) (hb0 : ∀ s : Int × KM, Θ (.inl s) → kW X 38 [lq 10, none, li s.1, none, none, none, none] [] s.2) : kJ X 38 [lq 10, none, li x2, none, none, none, none] [] σ (fM_laysFar_B38 x2 σ) Θ := by
  refine k_iload_n hX dM_laysFar_38 rfl ?_
  refine k_if_eq (tgt := 183) hX dM_laysFar_39 (by decide) ?_ ?_
  · refine k_exit ?_
    refine k_less [true, true, false, true, true, true, true] (L' := [lq 10, none, none, none, none, none, none]) rfl ?_
    exact tM_laysFar_J183 hX hR σ hT
  · refine k_iconst hX dM_laysFar_42 ?_
    refine k_istore_n (L' := [lq 10, none, li 0, none, none, none, none]) hX dM_laysFar_43 rfl (by decide) rfl ?_
    refine k_iconst hX dM_laysFar_44 ?_
    refine k_istore_n (L' := [lq 10, none, li 0, li 0, none, none, none]) hX dM_laysFar_45 rfl (by decide) rfl ?_
    exact tM_laysFar_L46 hX hR 0 0 σ hT hb0
set_option maxRecDepth 100000 in
set_option maxHeartbeats 4000000 in
theorem tM_laysFar_L38 {X : KC} {q : Int × KM} (hX : kOk X 2 prog_11_method_49_code 7 "KeyPathModel") (hR : kRet X none q) (x2 : Int) (σ : KM) {Θ : (Int × KM) → Prop} (hT : ∀ z, Θ (z) → z = q) : kJ X 38 [lq 10, none, li x2, none, none, none, none] [] σ (fM_laysFar_L38 x2 σ) Θ :=
  k_iter (f := fun s => fM_laysFar_B38 s.1 s.2) (Lf := fun s => [lq 10, none, li s.1, none, none, none, none]) (mf := fun s => s.2) (Θ := Θ) (fun s => tM_laysFar_B38 hX hR s.1 s.2 hT (fun _ h9 => h9)) kF (x2, σ)
set_option maxRecDepth 100000 in
set_option maxHeartbeats 4000000 in
theorem tM_laysFar_J22 {X : KC} {q : Int × KM} (hX : kOk X 2 prog_11_method_49_code 7 "KeyPathModel") (hR : kRet X none q) (x1 : Int) (σ : KM) {Θ : (Int × KM) → Prop} (hT : ∀ z, Θ (z) → z = q) : kJ X 22 [lq 10, li x1, none, none, none, none, none] [] σ (fM_laysFar_J22 x1 σ) Θ := by
  refine k_aload_n hX dM_laysFar_22 rfl ?_
  refine gf_167 hX dM_laysFar_23 ?_
  refine k_iload_n hX dM_laysFar_26 rfl ?_
  refine k_iconst hX dM_laysFar_27 ?_
  refine k_iast hX (by decide) rfl dM_laysFar_28 rfl (fun τ1 => ?_)
  refine k_aload_n hX dM_laysFar_29 rfl ?_
  refine gf_168 hX dM_laysFar_30 ?_
  refine k_iload_n hX dM_laysFar_33 rfl ?_
  refine k_iconst hX dM_laysFar_34 ?_
  refine k_iast hX (by decide) rfl dM_laysFar_35 rfl (fun τ2 => ?_)
  refine k_iconst hX dM_laysFar_36 ?_
  refine k_istore_n (L' := [lq 10, li x1, li 1, none, none, none, none]) hX dM_laysFar_37 rfl (by decide) rfl ?_
  refine k_less [true, false, true, true, true, true, true] (L' := [lq 10, none, li 1, none, none, none, none]) rfl ?_
  exact tM_laysFar_L38 hX hR 1 τ2 hT
set_option maxRecDepth 100000 in
set_option maxHeartbeats 4000000 in
theorem tM_laysFar_B2 {X : KC} {q : Int × KM} (hX : kOk X 2 prog_11_method_49_code 7 "KeyPathModel") (hR : kRet X none q) (x1 x2 : Int) (σ : KM) {Θ : ((Int × KM) ⊕ (Int × KM)) → Prop} (hT : ∀ z, Θ (.inr (z)) → z = q) (hb0 : ∀ s : Int × KM, Θ (.inl s) → kW X 2 [lq 10, li x1, li s.1, none, none, none, none] [] s.2) : kJ X 2 [lq 10, li x1, li x2, none, none, none, none] [] σ (fM_laysFar_B2 x1 x2 σ) Θ := by
  refine k_iload_n hX dM_laysFar_2 rfl ?_
  refine k_bipush hX dM_laysFar_3 (by decide) ?_
  refine k_icmp_ge (tgt := 22) hX dM_laysFar_5 (by decide) ?_ ?_
  · refine k_exit ?_
    refine k_less [true, true, false, true, true, true, true] (L' := [lq 10, li x1, none, none, none, none, none]) rfl ?_
    exact tM_laysFar_J22 hX hR x1 σ hT
  · refine k_aload_n hX dM_laysFar_8 rfl ?_
    refine gf_167 hX dM_laysFar_9 ?_
    refine k_iload_n hX dM_laysFar_12 rfl ?_
    refine k_ldc (v := 1000000000) (w := 0) hX dM_laysFar_13 tw_1309 ?_
    refine k_iast hX (by decide) rfl dM_laysFar_15 rfl (fun τ1 => ?_)
    refine k_iincL (Lf := fun y2 => [lq 10, li x1, li y2, none, none, none, none]) hX dM_laysFar_16 rfl (by decide) rfl (fun _ => rfl) (fun y2 => ?_)
    refine k_goto (tgt := 2) hX dM_laysFar_19 (by decide) ?_
    exact k_back (hb0 (y2, τ1))
set_option maxRecDepth 100000 in
set_option maxHeartbeats 4000000 in
theorem tM_laysFar_L2 {X : KC} {q : Int × KM} (hX : kOk X 2 prog_11_method_49_code 7 "KeyPathModel") (hR : kRet X none q) (x1 x2 : Int) (σ : KM) {Θ : (Int × KM) → Prop} (hT : ∀ z, Θ (z) → z = q) : kJ X 2 [lq 10, li x1, li x2, none, none, none, none] [] σ (fM_laysFar_L2 x1 x2 σ) Θ :=
  k_iter (f := fun s => fM_laysFar_B2 x1 s.1 s.2) (Lf := fun s => [lq 10, li x1, li s.1, none, none, none, none]) (mf := fun s => s.2) (Θ := Θ) (fun s => tM_laysFar_B2 hX hR x1 s.1 s.2 hT (fun _ h9 => h9)) kF (x2, σ)
set_option maxRecDepth 100000 in
set_option maxHeartbeats 4000000 in
theorem sM_laysFar (x1 : Int) (σ : KM) : kSem 2 (⟨"KeyPathModel", "laysFar", "(I)V"⟩ : MethodName) prog_11_method_49_code 7 none [kr 10, ki x1] σ (fM_laysFar x1 σ) := by
  refine kSem.of (L0 := [lq 10, li x1, none, none, none, none, none]) (by decide) (Nat.le_of_ble_eq_true rfl) rfl (fun X q hX hR => ?_)
  have hT : ∀ z : Int × KM, (fun z => z = q) z → z = q := fun _ h => h
  refine k_iconst hX dM_laysFar_0 ?_
  refine k_istore_n (L' := [lq 10, li x1, li 0, none, none, none, none]) hX dM_laysFar_1 rfl (by decide) rfl ?_
  exact tM_laysFar_L2 hX hR x1 0 σ hT
theorem cl_128 {X : KC} {d n : Nat} {cc : ByteArray} {pc : Nat} {L : List (Option KV)} {st : List KV} {σ : KM} {Z : Type} {Θ : Z → Prop} {G : Int → KM → Option Z} {x1 : Int} (hX : kOk X d cc n "KeyPathModel") (hdd : 2 + 1 ≤ d) (hst : k_cat st ≤ 8) (hd : decode cc pc = .ok (.invokevirtual 261, 3)) (h : ∀ r τ, kJ X (pc + 3) L (st) τ (G r τ) Θ) : kJ X pc L (ki x1 :: kr 10 :: st) σ (kCall (fM_laysFar x1 σ) G) Θ :=
  k_callV (np := 1) (av := [ki x1]) (ret := none) hX (by decide) rfl rfl rfl (sM_laysFar _ σ) ⟨⟨hdd, by decide⟩, tw_1308, tw_11, by decide +kernel⟩ rfl tw_1305 tw_1307 ts_58 hst hd h
theorem dM_laysNet_0 : decode prog_11_method_50_code 0 = .ok (.iconst 0, 1) := by decide +kernel
theorem dM_laysNet_1 : decode prog_11_method_50_code 1 = .ok (.istore_n 1, 1) := by decide +kernel
theorem dM_laysNet_2 : decode prog_11_method_50_code 2 = .ok (.iload_n 1, 1) := by decide +kernel
theorem dM_laysNet_3 : decode prog_11_method_50_code 3 = .ok (.bipush 24, 2) := by decide +kernel
theorem dM_laysNet_5 : decode prog_11_method_50_code 5 = .ok (.if_icmp .ge 45, 3) := by decide +kernel
theorem dM_laysNet_8 : decode prog_11_method_50_code 8 = .ok (.aload_n 0, 1) := by decide +kernel
theorem dM_laysNet_9 : decode prog_11_method_50_code 9 = .ok (.iload_n 1, 1) := by decide +kernel
theorem dM_laysNet_10 : decode prog_11_method_50_code 10 = .ok (.invokevirtual 261, 3) := by decide +kernel
theorem dM_laysNet_13 : decode prog_11_method_50_code 13 = .ok (.iconst 0, 1) := by decide +kernel
theorem dM_laysNet_14 : decode prog_11_method_50_code 14 = .ok (.istore_n 2, 1) := by decide +kernel
theorem dM_laysNet_15 : decode prog_11_method_50_code 15 = .ok (.iload_n 2, 1) := by decide +kernel
theorem dM_laysNet_16 : decode prog_11_method_50_code 16 = .ok (.bipush 24, 2) := by decide +kernel
theorem dM_laysNet_18 : decode prog_11_method_50_code 18 = .ok (.if_icmp .ge 26, 3) := by decide +kernel
theorem dM_laysNet_21 : decode prog_11_method_50_code 21 = .ok (.aload_n 0, 1) := by decide +kernel
theorem dM_laysNet_22 : decode prog_11_method_50_code 22 = .ok (.getfield 75, 3) := by decide +kernel
theorem dM_laysNet_25 : decode prog_11_method_50_code 25 = .ok (.bipush 24, 2) := by decide +kernel
theorem dM_laysNet_27 : decode prog_11_method_50_code 27 = .ok (.iload_n 2, 1) := by decide +kernel
theorem dM_laysNet_28 : decode prog_11_method_50_code 28 = .ok (.imul, 1) := by decide +kernel
theorem dM_laysNet_29 : decode prog_11_method_50_code 29 = .ok (.iload_n 1, 1) := by decide +kernel
theorem dM_laysNet_30 : decode prog_11_method_50_code 30 = .ok (.iadd, 1) := by decide +kernel
theorem dM_laysNet_31 : decode prog_11_method_50_code 31 = .ok (.aload_n 0, 1) := by decide +kernel
theorem dM_laysNet_32 : decode prog_11_method_50_code 32 = .ok (.getfield 69, 3) := by decide +kernel
theorem dM_laysNet_35 : decode prog_11_method_50_code 35 = .ok (.iload_n 2, 1) := by decide +kernel
theorem dM_laysNet_36 : decode prog_11_method_50_code 36 = .ok (.iaload, 1) := by decide +kernel
theorem dM_laysNet_37 : decode prog_11_method_50_code 37 = .ok (.iastore, 1) := by decide +kernel
theorem dM_laysNet_38 : decode prog_11_method_50_code 38 = .ok (.iinc 2 1, 3) := by decide +kernel
theorem dM_laysNet_41 : decode prog_11_method_50_code 41 = .ok (.goto (-26), 3) := by decide +kernel
theorem dM_laysNet_44 : decode prog_11_method_50_code 44 = .ok (.iinc 1 1, 3) := by decide +kernel
theorem dM_laysNet_47 : decode prog_11_method_50_code 47 = .ok (.goto (-45), 3) := by decide +kernel
theorem dM_laysNet_50 : decode prog_11_method_50_code 50 = .ok (.return_, 1) := by decide +kernel
set_option maxRecDepth 100000 in
set_option maxHeartbeats 4000000 in
theorem tM_laysNet_J50 {X : KC} {q : Int × KM} (hX : kOk X 3 prog_11_method_50_code 3 "KeyPathModel") (hR : kRet X none q) (σ : KM) {Θ : (Int × KM) → Prop} (hT : ∀ z, Θ (z) → z = q) : kJ X 50 [lq 10, none, none] [] σ (fM_laysNet_J50 σ) Θ := by
  exact k_vret hX hR hT dM_laysNet_50
set_option maxRecDepth 100000 in
set_option maxHeartbeats 4000000 in
theorem tM_laysNet_J44 {X : KC} {q : Int × KM} (hX : kOk X 3 prog_11_method_50_code 3 "KeyPathModel") (hR : kRet X none q) (x1 : Int) (σ : KM) {Θ : ((Int × KM) ⊕ (Int × KM)) → Prop} (hT : ∀ z, Θ (.inr (z)) → z = q) (hb0 : ∀ s : Int × KM, Θ (.inl s) → kW X 2 [lq 10, li s.1, none] [] s.2) : kJ X 44 [lq 10, li x1, none] [] σ (fM_laysNet_J44 x1 σ) Θ := by
  refine k_iincL (Lf := fun y1 => [lq 10, li y1, none]) hX dM_laysNet_44 rfl (by decide) rfl (fun _ => rfl) (fun y1 => ?_)
  refine k_goto (tgt := 2) hX dM_laysNet_47 (by decide) ?_
  exact k_back (hb0 (y1, σ))
set_option maxRecDepth 100000 in
set_option maxHeartbeats 4000000 in
theorem tM_laysNet_B15 {X : KC} {q : Int × KM} (hX : kOk X 3 prog_11_method_50_code 3 "KeyPathModel") (hR : kRet X none q) (x1 x2 : Int) (σ : KM) {Θ : ((Int × KM) ⊕ ((Int × KM) ⊕ (Int × KM))) → Prop} (hT : ∀ z, Θ (.inr (.inr (z))) → z = q) (hb0 : ∀ s : Int × KM, Θ (.inl s) → kW X 15 [lq 10, li x1, li s.1] [] s.2) (hb1 : ∀ s : Int × KM, Θ (.inr (.inl s)) → kW X 2 [lq 10, li s.1, none] [] s.2) : kJ X 15 [lq 10, li x1, li x2] [] σ (fM_laysNet_B15 x1 x2 σ) Θ := by
  refine k_iload_n hX dM_laysNet_15 rfl ?_
  refine k_bipush hX dM_laysNet_16 (by decide) ?_
  refine k_icmp_ge (tgt := 44) hX dM_laysNet_18 (by decide) ?_ ?_
  · refine k_exit ?_
    refine k_less [true, true, false] (L' := [lq 10, li x1, none]) rfl ?_
    exact tM_laysNet_J44 hX hR x1 σ hT hb1
  · refine k_aload_n hX dM_laysNet_21 rfl ?_
    refine gf_172 hX dM_laysNet_22 ?_
    refine k_bipush hX dM_laysNet_25 (by decide) ?_
    refine k_iload_n hX dM_laysNet_27 rfl ?_
    refine k_imul hX dM_laysNet_28 ?_
    refine k_iload_n hX dM_laysNet_29 rfl ?_
    refine k_iadd hX dM_laysNet_30 ?_
    refine k_aload_n hX dM_laysNet_31 rfl ?_
    refine gf_167 hX dM_laysNet_32 ?_
    refine k_iload_n hX dM_laysNet_35 rfl ?_
    refine k_iald hX (by decide) rfl dM_laysNet_36 rfl (fun y1 => ?_)
    refine k_iast hX (by decide) rfl dM_laysNet_37 rfl (fun τ2 => ?_)
    refine k_iincL (Lf := fun y3 => [lq 10, li x1, li y3]) hX dM_laysNet_38 rfl (by decide) rfl (fun _ => rfl) (fun y3 => ?_)
    refine k_goto (tgt := 15) hX dM_laysNet_41 (by decide) ?_
    exact k_back (hb0 (y3, τ2))
set_option maxRecDepth 100000 in
set_option maxHeartbeats 4000000 in
theorem tM_laysNet_L15 {X : KC} {q : Int × KM} (hX : kOk X 3 prog_11_method_50_code 3 "KeyPathModel") (hR : kRet X none q) (x1 x2 : Int) (σ : KM) {Θ : ((Int × KM) ⊕ (Int × KM)) → Prop} (hT : ∀ z, Θ (.inr (z)) → z = q) (hb0 : ∀ s : Int × KM, Θ (.inl s) → kW X 2 [lq 10, li s.1, none] [] s.2) : kJ X 15 [lq 10, li x1, li x2] [] σ (fM_laysNet_L15 x1 x2 σ) Θ :=
  k_iter (f := fun s => fM_laysNet_B15 x1 s.1 s.2) (Lf := fun s => [lq 10, li x1, li s.1]) (mf := fun s => s.2) (Θ := Θ) (fun s => tM_laysNet_B15 hX hR x1 s.1 s.2 hT (fun _ h9 => h9) hb0) kF (x2, σ)
set_option maxRecDepth 100000 in
set_option maxHeartbeats 4000000 in
theorem tM_laysNet_B2 {X : KC} {q : Int × KM} (hX : kOk X 3 prog_11_method_50_code 3 "KeyPathModel") (hR : kRet X none q) (x1 : Int) (σ : KM) {Θ : ((Int × KM) ⊕ (Int × KM)) → Prop} (hT : ∀ z, Θ (.inr (z)) → z = q) (hb0 : ∀ s : Int × KM, Θ (.inl s) → kW X 2 [lq 10, li s.1, none] [] s.2) : kJ X 2 [lq 10, li x1, none] [] σ (fM_laysNet_B2 x1 σ) Θ := by
  refine k_iload_n hX dM_laysNet_2 rfl ?_
  refine k_bipush hX dM_laysNet_3 (by decide) ?_
  refine k_icmp_ge (tgt := 50) hX dM_laysNet_5 (by decide) ?_ ?_
  · refine k_exit ?_
    refine k_less [true, false, true] (L' := [lq 10, none, none]) rfl ?_
    exact tM_laysNet_J50 hX hR σ hT
  · refine k_aload_n hX dM_laysNet_8 rfl ?_
    refine k_iload_n hX dM_laysNet_9 rfl ?_
    refine cl_128 hX (by decide) (Nat.le_of_ble_eq_true rfl) dM_laysNet_10 (fun _ τ1 => ?_)
    refine k_iconst hX dM_laysNet_13 ?_
    refine k_istore_n (L' := [lq 10, li x1, li 0]) hX dM_laysNet_14 rfl (by decide) rfl ?_
    exact tM_laysNet_L15 hX hR x1 0 τ1 hT hb0
set_option maxRecDepth 100000 in
set_option maxHeartbeats 4000000 in
theorem tM_laysNet_L2 {X : KC} {q : Int × KM} (hX : kOk X 3 prog_11_method_50_code 3 "KeyPathModel") (hR : kRet X none q) (x1 : Int) (σ : KM) {Θ : (Int × KM) → Prop} (hT : ∀ z, Θ (z) → z = q) : kJ X 2 [lq 10, li x1, none] [] σ (fM_laysNet_L2 x1 σ) Θ :=
  k_iter (f := fun s => fM_laysNet_B2 s.1 s.2) (Lf := fun s => [lq 10, li s.1, none]) (mf := fun s => s.2) (Θ := Θ) (fun s => tM_laysNet_B2 hX hR s.1 s.2 hT (fun _ h9 => h9)) kF (x1, σ)
set_option maxRecDepth 100000 in
set_option maxHeartbeats 4000000 in
theorem sM_laysNet (σ : KM) : kSem 3 (⟨"KeyPathModel", "laysNet", "()V"⟩ : MethodName) prog_11_method_50_code 3 none [kr 10] σ (fM_laysNet σ) := by
  refine kSem.of (L0 := [lq 10, none, none]) (by decide) (Nat.le_of_ble_eq_true rfl) rfl (fun X q hX hR => ?_)
  have hT : ∀ z : Int × KM, (fun z => z = q) z → z = q := fun _ h => h
  refine k_iconst hX dM_laysNet_0 ?_
  refine k_istore_n (L' := [lq 10, li 0, none]) hX dM_laysNet_1 rfl (by decide) rfl ?_
  exact tM_laysNet_L2 hX hR 0 σ hT
theorem cl_129 {X : KC} {d n : Nat} {cc : ByteArray} {pc : Nat} {L : List (Option KV)} {st : List KV} {σ : KM} {Z : Type} {Θ : Z → Prop} {G : Int → KM → Option Z} (hX : kOk X d cc n "KeyPathModel") (hdd : 3 + 1 ≤ d) (hst : k_cat st ≤ 8) (hd : decode cc pc = .ok (.invokevirtual 264, 3)) (h : ∀ r τ, kJ X (pc + 3) L (st) τ (G r τ) Θ) : kJ X pc L (kr 10 :: st) σ (kCall (fM_laysNet σ) G) Θ :=
  k_callV (np := 0) (av := []) (ret := none) hX (by decide) rfl rfl rfl (sM_laysNet σ) ⟨⟨hdd, by decide⟩, tw_1336, tw_11, by decide +kernel⟩ rfl tw_1333 tw_1335 ts_62 hst hd h
theorem dM_matched_0 : decode prog_11_method_36_code 0 = .ok (.iconst 0, 1) := by decide +kernel
theorem dM_matched_1 : decode prog_11_method_36_code 1 = .ok (.istore_n 2, 1) := by decide +kernel
theorem dM_matched_2 : decode prog_11_method_36_code 2 = .ok (.iconst 0, 1) := by decide +kernel
theorem dM_matched_3 : decode prog_11_method_36_code 3 = .ok (.istore_n 3, 1) := by decide +kernel
theorem dM_matched_4 : decode prog_11_method_36_code 4 = .ok (.iload_n 3, 1) := by decide +kernel
theorem dM_matched_5 : decode prog_11_method_36_code 5 = .ok (.bipush 12, 2) := by decide +kernel
theorem dM_matched_7 : decode prog_11_method_36_code 7 = .ok (.if_icmp .ge 44, 3) := by decide +kernel
theorem dM_matched_10 : decode prog_11_method_36_code 10 = .ok (.iload_n 2, 1) := by decide +kernel
theorem dM_matched_11 : decode prog_11_method_36_code 11 = .ok (.aload_n 0, 1) := by decide +kernel
theorem dM_matched_12 : decode prog_11_method_36_code 12 = .ok (.getfield 66, 3) := by decide +kernel
theorem dM_matched_15 : decode prog_11_method_36_code 15 = .ok (.iload_n 3, 1) := by decide +kernel
theorem dM_matched_16 : decode prog_11_method_36_code 16 = .ok (.iaload, 1) := by decide +kernel
theorem dM_matched_17 : decode prog_11_method_36_code 17 = .ok (.aload_n 0, 1) := by decide +kernel
theorem dM_matched_18 : decode prog_11_method_36_code 18 = .ok (.getfield 53, 3) := by decide +kernel
theorem dM_matched_21 : decode prog_11_method_36_code 21 = .ok (.iload_n 1, 1) := by decide +kernel
theorem dM_matched_22 : decode prog_11_method_36_code 22 = .ok (.bipush 12, 2) := by decide +kernel
theorem dM_matched_24 : decode prog_11_method_36_code 24 = .ok (.idiv, 1) := by decide +kernel
theorem dM_matched_25 : decode prog_11_method_36_code 25 = .ok (.bipush 12, 2) := by decide +kernel
theorem dM_matched_27 : decode prog_11_method_36_code 27 = .ok (.imul, 1) := by decide +kernel
theorem dM_matched_28 : decode prog_11_method_36_code 28 = .ok (.iload_n 3, 1) := by decide +kernel
theorem dM_matched_29 : decode prog_11_method_36_code 29 = .ok (.iload_n 1, 1) := by decide +kernel
theorem dM_matched_30 : decode prog_11_method_36_code 30 = .ok (.bipush 12, 2) := by decide +kernel
theorem dM_matched_32 : decode prog_11_method_36_code 32 = .ok (.irem, 1) := by decide +kernel
theorem dM_matched_33 : decode prog_11_method_36_code 33 = .ok (.isub, 1) := by decide +kernel
theorem dM_matched_34 : decode prog_11_method_36_code 34 = .ok (.bipush 12, 2) := by decide +kernel
theorem dM_matched_36 : decode prog_11_method_36_code 36 = .ok (.iadd, 1) := by decide +kernel
theorem dM_matched_37 : decode prog_11_method_36_code 37 = .ok (.bipush 12, 2) := by decide +kernel
theorem dM_matched_39 : decode prog_11_method_36_code 39 = .ok (.irem, 1) := by decide +kernel
theorem dM_matched_40 : decode prog_11_method_36_code 40 = .ok (.iadd, 1) := by decide +kernel
theorem dM_matched_41 : decode prog_11_method_36_code 41 = .ok (.iaload, 1) := by decide +kernel
theorem dM_matched_42 : decode prog_11_method_36_code 42 = .ok (.imul, 1) := by decide +kernel
theorem dM_matched_43 : decode prog_11_method_36_code 43 = .ok (.iadd, 1) := by decide +kernel
theorem dM_matched_44 : decode prog_11_method_36_code 44 = .ok (.istore_n 2, 1) := by decide +kernel
theorem dM_matched_45 : decode prog_11_method_36_code 45 = .ok (.iinc 3 1, 3) := by decide +kernel
theorem dM_matched_48 : decode prog_11_method_36_code 48 = .ok (.goto (-44), 3) := by decide +kernel
theorem dM_matched_51 : decode prog_11_method_36_code 51 = .ok (.iload_n 2, 1) := by decide +kernel
theorem dM_matched_52 : decode prog_11_method_36_code 52 = .ok (.ireturn, 1) := by decide +kernel
set_option maxRecDepth 100000 in
set_option maxHeartbeats 4000000 in
theorem tM_matched_J51 {X : KC} {q : Int × KM} (hX : kOk X 1 prog_11_method_36_code 4 "KeyPathModel") (hR : kRet X (some .int) q) (x2 : Int) (σ : KM) {Θ : (Int × KM) → Prop} (hT : ∀ z, Θ (z) → z = q) : kJ X 51 [lq 10, none, li x2, none] [] σ (fM_matched_J51 x2 σ) Θ := by
  refine k_iload_n hX dM_matched_51 rfl ?_
  exact k_iret hX hR hT dM_matched_52
set_option maxRecDepth 100000 in
set_option maxHeartbeats 4000000 in
theorem tM_matched_B4 {X : KC} {q : Int × KM} (hX : kOk X 1 prog_11_method_36_code 4 "KeyPathModel") (hR : kRet X (some .int) q) (x1 x2 x3 : Int) (σ : KM) {Θ : ((Int × Int × KM) ⊕ (Int × KM)) → Prop} (hT : ∀ z, Θ (.inr (z)) → z = q) (hb0 : ∀ s : Int × Int × KM, Θ (.inl s) → kW X 4 [lq 10, li x1, li s.1, li s.2.1] [] s.2.2) : kJ X 4 [lq 10, li x1, li x2, li x3] [] σ (fM_matched_B4 x1 x2 x3 σ) Θ := by
  refine k_iload_n hX dM_matched_4 rfl ?_
  refine k_bipush hX dM_matched_5 (by decide) ?_
  refine k_icmp_ge (tgt := 51) hX dM_matched_7 (by decide) ?_ ?_
  · refine k_exit ?_
    refine k_less [true, false, true, false] (L' := [lq 10, none, li x2, none]) rfl ?_
    exact tM_matched_J51 hX hR x2 σ hT
  · refine k_iload_n hX dM_matched_10 rfl ?_
    refine k_aload_n hX dM_matched_11 rfl ?_
    refine gf_164 hX dM_matched_12 ?_
    refine k_iload_n hX dM_matched_15 rfl ?_
    refine k_iald hX (by decide) rfl dM_matched_16 rfl (fun y1 => ?_)
    refine k_aload_n hX dM_matched_17 rfl ?_
    refine gf_178 hX dM_matched_18 ?_
    refine k_iload_n hX dM_matched_21 rfl ?_
    refine k_bipush hX dM_matched_22 (by decide) ?_
    refine k_idiv hX dM_matched_24 (fun y2 => ?_)
    refine k_bipush hX dM_matched_25 (by decide) ?_
    refine k_imul hX dM_matched_27 ?_
    refine k_iload_n hX dM_matched_28 rfl ?_
    refine k_iload_n hX dM_matched_29 rfl ?_
    refine k_bipush hX dM_matched_30 (by decide) ?_
    refine k_irem hX dM_matched_32 (fun y3 => ?_)
    refine k_isub hX dM_matched_33 ?_
    refine k_bipush hX dM_matched_34 (by decide) ?_
    refine k_iadd hX dM_matched_36 ?_
    refine k_bipush hX dM_matched_37 (by decide) ?_
    refine k_irem hX dM_matched_39 (fun y4 => ?_)
    refine k_iadd hX dM_matched_40 ?_
    refine k_iald hX (by decide) rfl dM_matched_41 rfl (fun y5 => ?_)
    refine k_imul hX dM_matched_42 ?_
    refine k_iadd hX dM_matched_43 ?_
    refine k_istoreL_n (Lf := fun y6 => [lq 10, li x1, li y6, li x3]) hX dM_matched_44 rfl (by decide) (fun _ => rfl) (fun y6 => ?_)
    refine k_iincL (Lf := fun y7 => [lq 10, li x1, li y6, li y7]) hX dM_matched_45 rfl (by decide) rfl (fun _ => rfl) (fun y7 => ?_)
    refine k_goto (tgt := 4) hX dM_matched_48 (by decide) ?_
    exact k_back (hb0 (y6, y7, σ))
set_option maxRecDepth 100000 in
set_option maxHeartbeats 4000000 in
theorem tM_matched_L4 {X : KC} {q : Int × KM} (hX : kOk X 1 prog_11_method_36_code 4 "KeyPathModel") (hR : kRet X (some .int) q) (x1 x2 x3 : Int) (σ : KM) {Θ : (Int × KM) → Prop} (hT : ∀ z, Θ (z) → z = q) : kJ X 4 [lq 10, li x1, li x2, li x3] [] σ (fM_matched_L4 x1 x2 x3 σ) Θ :=
  k_iter (f := fun s => fM_matched_B4 x1 s.1 s.2.1 s.2.2) (Lf := fun s => [lq 10, li x1, li s.1, li s.2.1]) (mf := fun s => s.2.2) (Θ := Θ) (fun s => tM_matched_B4 hX hR x1 s.1 s.2.1 s.2.2 hT (fun _ h9 => h9)) kF (x2, x3, σ)
set_option maxRecDepth 100000 in
set_option maxHeartbeats 4000000 in
theorem sM_matched (x1 : Int) (σ : KM) : kSem 1 (⟨"KeyPathModel", "matched", "(I)I"⟩ : MethodName) prog_11_method_36_code 4 (some .int) [kr 10, ki x1] σ (fM_matched x1 σ) := by
  refine kSem.of (L0 := [lq 10, li x1, none, none]) (by decide) (Nat.le_of_ble_eq_true rfl) rfl (fun X q hX hR => ?_)
  have hT : ∀ z : Int × KM, (fun z => z = q) z → z = q := fun _ h => h
  refine k_iconst hX dM_matched_0 ?_
  refine k_istore_n (L' := [lq 10, li x1, li 0, none]) hX dM_matched_1 rfl (by decide) rfl ?_
  refine k_iconst hX dM_matched_2 ?_
  refine k_istore_n (L' := [lq 10, li x1, li 0, li 0]) hX dM_matched_3 rfl (by decide) rfl ?_
  exact tM_matched_L4 hX hR x1 0 0 σ hT
theorem cl_130 {X : KC} {d n : Nat} {cc : ByteArray} {pc : Nat} {L : List (Option KV)} {st : List KV} {σ : KM} {Z : Type} {Θ : Z → Prop} {G : Int → KM → Option Z} {x1 : Int} (hX : kOk X d cc n "KeyPathModel") (hdd : 1 + 1 ≤ d) (hst : k_cat st ≤ 8) (hd : decode cc pc = .ok (.invokevirtual 239, 3)) (h : ∀ r τ, kJ X (pc + 3) L (ki r :: st) τ (G r τ) Θ) : kJ X pc L (ki x1 :: kr 10 :: st) σ (kCall (fM_matched x1 σ) G) Θ :=
  k_callV (np := 1) (av := [ki x1]) (ret := (some .int)) hX (by decide) rfl rfl rfl (sM_matched _ σ) ⟨⟨hdd, by decide⟩, tw_1266, tw_11, by decide +kernel⟩ rfl tw_1263 tw_1265 ts_54 hst hd h
theorem dM_fitted_0 : decode prog_11_method_39_code 0 = .ok (.aload_n 0, 1) := by decide +kernel
theorem dM_fitted_1 : decode prog_11_method_39_code 1 = .ok (.getfield 223, 3) := by decide +kernel
theorem dM_fitted_4 : decode prog_11_method_39_code 4 = .ok (.ifCond .ne 7, 3) := by decide +kernel
theorem dM_fitted_7 : decode prog_11_method_39_code 7 = .ok (.iconst 0, 1) := by decide +kernel
theorem dM_fitted_8 : decode prog_11_method_39_code 8 = .ok (.goto 16, 3) := by decide +kernel
theorem dM_fitted_11 : decode prog_11_method_39_code 11 = .ok (.bipush 100, 2) := by decide +kernel
theorem dM_fitted_13 : decode prog_11_method_39_code 13 = .ok (.aload_n 0, 1) := by decide +kernel
theorem dM_fitted_14 : decode prog_11_method_39_code 14 = .ok (.iload_n 1, 1) := by decide +kernel
theorem dM_fitted_15 : decode prog_11_method_39_code 15 = .ok (.invokevirtual 239, 3) := by decide +kernel
theorem dM_fitted_18 : decode prog_11_method_39_code 18 = .ok (.imul, 1) := by decide +kernel
theorem dM_fitted_19 : decode prog_11_method_39_code 19 = .ok (.aload_n 0, 1) := by decide +kernel
theorem dM_fitted_20 : decode prog_11_method_39_code 20 = .ok (.getfield 223, 3) := by decide +kernel
theorem dM_fitted_23 : decode prog_11_method_39_code 23 = .ok (.idiv, 1) := by decide +kernel
theorem dM_fitted_24 : decode prog_11_method_39_code 24 = .ok (.ireturn, 1) := by decide +kernel
set_option maxRecDepth 100000 in
set_option maxHeartbeats 4000000 in
theorem tM_fitted_J24 {X : KC} {q : Int × KM} (hX : kOk X 2 prog_11_method_39_code 2 "KeyPathModel") (hR : kRet X (some .int) q) (t0 : Int) (σ : KM) {Θ : (Int × KM) → Prop} (hT : ∀ z, Θ (z) → z = q) : kJ X 24 [lq 10, none] [ki t0] σ (fM_fitted_J24 t0 σ) Θ := by
  exact k_iret hX hR hT dM_fitted_24
set_option maxRecDepth 100000 in
set_option maxHeartbeats 4000000 in
theorem sM_fitted (x1 : Int) (σ : KM) : kSem 2 (⟨"KeyPathModel", "fitted", "(I)I"⟩ : MethodName) prog_11_method_39_code 2 (some .int) [kr 10, ki x1] σ (fM_fitted x1 σ) := by
  refine kSem.of (L0 := [lq 10, li x1]) (by decide) (Nat.le_of_ble_eq_true rfl) rfl (fun X q hX hR => ?_)
  have hT : ∀ z : Int × KM, (fun z => z = q) z → z = q := fun _ h => h
  refine k_aload_n hX dM_fitted_0 rfl ?_
  refine gf_166 hX dM_fitted_1 ?_
  refine k_if_ne (tgt := 11) hX dM_fitted_4 (by decide) ?_ ?_
  · refine k_bipush hX dM_fitted_11 (by decide) ?_
    refine k_aload_n hX dM_fitted_13 rfl ?_
    refine k_iload_n hX dM_fitted_14 rfl ?_
    refine cl_130 hX (by decide) (Nat.le_of_ble_eq_true rfl) dM_fitted_15 (fun r2 τ1 => ?_)
    refine k_imul hX dM_fitted_18 ?_
    refine k_aload_n hX dM_fitted_19 rfl ?_
    refine gf_166 hX dM_fitted_20 ?_
    refine k_idiv hX dM_fitted_23 (fun y3 => ?_)
    refine k_less [true, false] (L' := [lq 10, none]) rfl ?_
    exact tM_fitted_J24 hX hR y3 τ1 hT
  · refine k_iconst hX dM_fitted_7 ?_
    refine k_goto (tgt := 24) hX dM_fitted_8 (by decide) ?_
    refine k_less [true, false] (L' := [lq 10, none]) rfl ?_
    exact tM_fitted_J24 hX hR 0 σ hT
theorem cl_131 {X : KC} {d n : Nat} {cc : ByteArray} {pc : Nat} {L : List (Option KV)} {st : List KV} {σ : KM} {Z : Type} {Θ : Z → Prop} {G : Int → KM → Option Z} {x1 : Int} (hX : kOk X d cc n "KeyPathModel") (hdd : 2 + 1 ≤ d) (hst : k_cat st ≤ 8) (hd : decode cc pc = .ok (.invokevirtual 242, 3)) (h : ∀ r τ, kJ X (pc + 3) L (ki r :: st) τ (G r τ) Θ) : kJ X pc L (ki x1 :: kr 10 :: st) σ (kCall (fM_fitted x1 σ) G) Θ :=
  k_callV (np := 1) (av := [ki x1]) (ret := (some .int)) hX (by decide) rfl rfl rfl (sM_fitted _ σ) ⟨⟨hdd, by decide⟩, tw_1277, tw_11, by decide +kernel⟩ rfl tw_1274 tw_1276 ts_55 hst hd h
theorem dM_laysOwn_0 : decode prog_11_method_53_code 0 = .ok (.aload_n 0, 1) := by decide +kernel
theorem dM_laysOwn_1 : decode prog_11_method_53_code 1 = .ok (.invokevirtual 264, 3) := by decide +kernel
theorem dM_laysOwn_4 : decode prog_11_method_53_code 4 = .ok (.aload_n 0, 1) := by decide +kernel
theorem dM_laysOwn_5 : decode prog_11_method_53_code 5 = .ok (.aload_n 0, 1) := by decide +kernel
theorem dM_laysOwn_6 : decode prog_11_method_53_code 6 = .ok (.invokevirtual 202, 3) := by decide +kernel
theorem dM_laysOwn_9 : decode prog_11_method_53_code 9 = .ok (.putfield 267, 3) := by decide +kernel
theorem dM_laysOwn_12 : decode prog_11_method_53_code 12 = .ok (.iconst 0, 1) := by decide +kernel
theorem dM_laysOwn_13 : decode prog_11_method_53_code 13 = .ok (.istore_n 1, 1) := by decide +kernel
theorem dM_laysOwn_14 : decode prog_11_method_53_code 14 = .ok (.iload_n 1, 1) := by decide +kernel
theorem dM_laysOwn_15 : decode prog_11_method_53_code 15 = .ok (.aload_n 0, 1) := by decide +kernel
theorem dM_laysOwn_16 : decode prog_11_method_53_code 16 = .ok (.getfield 267, 3) := by decide +kernel
theorem dM_laysOwn_19 : decode prog_11_method_53_code 19 = .ok (.if_icmp .ge 124, 3) := by decide +kernel
theorem dM_laysOwn_22 : decode prog_11_method_53_code 22 = .ok (.aload_n 0, 1) := by decide +kernel
theorem dM_laysOwn_23 : decode prog_11_method_53_code 23 = .ok (.iload_n 1, 1) := by decide +kernel
theorem dM_laysOwn_24 : decode prog_11_method_53_code 24 = .ok (.invokevirtual 232, 3) := by decide +kernel
theorem dM_laysOwn_27 : decode prog_11_method_53_code 27 = .ok (.aload_n 0, 1) := by decide +kernel
theorem dM_laysOwn_28 : decode prog_11_method_53_code 28 = .ok (.getfield 93, 3) := by decide +kernel
theorem dM_laysOwn_31 : decode prog_11_method_53_code 31 = .ok (.iload_n 1, 1) := by decide +kernel
theorem dM_laysOwn_32 : decode prog_11_method_53_code 32 = .ok (.aload_n 0, 1) := by decide +kernel
theorem dM_laysOwn_33 : decode prog_11_method_53_code 33 = .ok (.getfield 223, 3) := by decide +kernel
theorem dM_laysOwn_36 : decode prog_11_method_53_code 36 = .ok (.ifCond .ne 7, 3) := by decide +kernel
theorem dM_laysOwn_39 : decode prog_11_method_53_code 39 = .ok (.iconst 1, 1) := by decide +kernel
theorem dM_laysOwn_40 : decode prog_11_method_53_code 40 = .ok (.goto 4, 3) := by decide +kernel
theorem dM_laysOwn_43 : decode prog_11_method_53_code 43 = .ok (.iconst 0, 1) := by decide +kernel
theorem dM_laysOwn_44 : decode prog_11_method_53_code 44 = .ok (.bastore, 1) := by decide +kernel
theorem dM_laysOwn_45 : decode prog_11_method_53_code 45 = .ok (.iconst 0, 1) := by decide +kernel
theorem dM_laysOwn_46 : decode prog_11_method_53_code 46 = .ok (.istore_n 2, 1) := by decide +kernel
theorem dM_laysOwn_47 : decode prog_11_method_53_code 47 = .ok (.iconst 0, 1) := by decide +kernel
theorem dM_laysOwn_48 : decode prog_11_method_53_code 48 = .ok (.istore_n 3, 1) := by decide +kernel
theorem dM_laysOwn_49 : decode prog_11_method_53_code 49 = .ok (.iload_n 3, 1) := by decide +kernel
theorem dM_laysOwn_50 : decode prog_11_method_53_code 50 = .ok (.bipush 24, 2) := by decide +kernel
theorem dM_laysOwn_52 : decode prog_11_method_53_code 52 = .ok (.if_icmp .ge 28, 3) := by decide +kernel
theorem dM_laysOwn_55 : decode prog_11_method_53_code 55 = .ok (.aload_n 0, 1) := by decide +kernel
theorem dM_laysOwn_56 : decode prog_11_method_53_code 56 = .ok (.iload_n 3, 1) := by decide +kernel
theorem dM_laysOwn_57 : decode prog_11_method_53_code 57 = .ok (.invokevirtual 242, 3) := by decide +kernel
theorem dM_laysOwn_60 : decode prog_11_method_53_code 60 = .ok (.iload_n 2, 1) := by decide +kernel
theorem dM_laysOwn_61 : decode prog_11_method_53_code 61 = .ok (.if_icmp .le 11, 3) := by decide +kernel
theorem dM_laysOwn_64 : decode prog_11_method_53_code 64 = .ok (.aload_n 0, 1) := by decide +kernel
theorem dM_laysOwn_65 : decode prog_11_method_53_code 65 = .ok (.iload_n 3, 1) := by decide +kernel
theorem dM_laysOwn_66 : decode prog_11_method_53_code 66 = .ok (.invokevirtual 242, 3) := by decide +kernel
theorem dM_laysOwn_69 : decode prog_11_method_53_code 69 = .ok (.goto 4, 3) := by decide +kernel
theorem dM_laysOwn_72 : decode prog_11_method_53_code 72 = .ok (.iload_n 2, 1) := by decide +kernel
theorem dM_laysOwn_73 : decode prog_11_method_53_code 73 = .ok (.istore_n 2, 1) := by decide +kernel
theorem dM_laysOwn_74 : decode prog_11_method_53_code 74 = .ok (.iinc 3 1, 3) := by decide +kernel
theorem dM_laysOwn_77 : decode prog_11_method_53_code 77 = .ok (.goto (-28), 3) := by decide +kernel
theorem dM_laysOwn_80 : decode prog_11_method_53_code 80 = .ok (.iconst 0, 1) := by decide +kernel
theorem dM_laysOwn_81 : decode prog_11_method_53_code 81 = .ok (.istore_n 3, 1) := by decide +kernel
theorem dM_laysOwn_82 : decode prog_11_method_53_code 82 = .ok (.iload_n 3, 1) := by decide +kernel
theorem dM_laysOwn_83 : decode prog_11_method_53_code 83 = .ok (.bipush 24, 2) := by decide +kernel
theorem dM_laysOwn_85 : decode prog_11_method_53_code 85 = .ok (.if_icmp .ge 52, 3) := by decide +kernel
theorem dM_laysOwn_88 : decode prog_11_method_53_code 88 = .ok (.aload_n 0, 1) := by decide +kernel
theorem dM_laysOwn_89 : decode prog_11_method_53_code 89 = .ok (.getfield 78, 3) := by decide +kernel
theorem dM_laysOwn_92 : decode prog_11_method_53_code 92 = .ok (.bipush 24, 2) := by decide +kernel
theorem dM_laysOwn_94 : decode prog_11_method_53_code 94 = .ok (.iload_n 1, 1) := by decide +kernel
theorem dM_laysOwn_95 : decode prog_11_method_53_code 95 = .ok (.imul, 1) := by decide +kernel
theorem dM_laysOwn_96 : decode prog_11_method_53_code 96 = .ok (.iload_n 3, 1) := by decide +kernel
theorem dM_laysOwn_97 : decode prog_11_method_53_code 97 = .ok (.iadd, 1) := by decide +kernel
theorem dM_laysOwn_98 : decode prog_11_method_53_code 98 = .ok (.aload_n 0, 1) := by decide +kernel
theorem dM_laysOwn_99 : decode prog_11_method_53_code 99 = .ok (.getfield 56, 3) := by decide +kernel
theorem dM_laysOwn_102 : decode prog_11_method_53_code 102 = .ok (.iload_n 1, 1) := by decide +kernel
theorem dM_laysOwn_103 : decode prog_11_method_53_code 103 = .ok (.iaload, 1) := by decide +kernel
theorem dM_laysOwn_104 : decode prog_11_method_53_code 104 = .ok (.iconst (-1), 1) := by decide +kernel
theorem dM_laysOwn_105 : decode prog_11_method_53_code 105 = .ok (.if_icmp .eq 18, 3) := by decide +kernel
theorem dM_laysOwn_108 : decode prog_11_method_53_code 108 = .ok (.aload_n 0, 1) := by decide +kernel
theorem dM_laysOwn_109 : decode prog_11_method_53_code 109 = .ok (.getfield 56, 3) := by decide +kernel
theorem dM_laysOwn_112 : decode prog_11_method_53_code 112 = .ok (.iload_n 1, 1) := by decide +kernel
theorem dM_laysOwn_113 : decode prog_11_method_53_code 113 = .ok (.iaload, 1) := by decide +kernel
theorem dM_laysOwn_114 : decode prog_11_method_53_code 114 = .ok (.iload_n 3, 1) := by decide +kernel
theorem dM_laysOwn_115 : decode prog_11_method_53_code 115 = .ok (.if_icmp .eq 8, 3) := by decide +kernel
theorem dM_laysOwn_118 : decode prog_11_method_53_code 118 = .ok (.ldc 254, 2) := by decide +kernel
theorem dM_laysOwn_120 : decode prog_11_method_53_code 120 = .ok (.goto 10, 3) := by decide +kernel
theorem dM_laysOwn_123 : decode prog_11_method_53_code 123 = .ok (.iload_n 2, 1) := by decide +kernel
theorem dM_laysOwn_124 : decode prog_11_method_53_code 124 = .ok (.aload_n 0, 1) := by decide +kernel
theorem dM_laysOwn_125 : decode prog_11_method_53_code 125 = .ok (.iload_n 3, 1) := by decide +kernel
theorem dM_laysOwn_126 : decode prog_11_method_53_code 126 = .ok (.invokevirtual 242, 3) := by decide +kernel
theorem dM_laysOwn_129 : decode prog_11_method_53_code 129 = .ok (.isub, 1) := by decide +kernel
theorem dM_laysOwn_130 : decode prog_11_method_53_code 130 = .ok (.iastore, 1) := by decide +kernel
theorem dM_laysOwn_131 : decode prog_11_method_53_code 131 = .ok (.iinc 3 1, 3) := by decide +kernel
theorem dM_laysOwn_134 : decode prog_11_method_53_code 134 = .ok (.goto (-52), 3) := by decide +kernel
theorem dM_laysOwn_137 : decode prog_11_method_53_code 137 = .ok (.iinc 1 1, 3) := by decide +kernel
theorem dM_laysOwn_140 : decode prog_11_method_53_code 140 = .ok (.goto (-126), 3) := by decide +kernel
theorem dM_laysOwn_143 : decode prog_11_method_53_code 143 = .ok (.return_, 1) := by decide +kernel
set_option maxRecDepth 100000 in
set_option maxHeartbeats 4000000 in
theorem tM_laysOwn_J143 {X : KC} {q : Int × KM} (hX : kOk X 4 prog_11_method_53_code 4 "KeyPathModel") (hR : kRet X none q) (σ : KM) {Θ : (Int × KM) → Prop} (hT : ∀ z, Θ (z) → z = q) : kJ X 143 [lq 10, none, none, none] [] σ (fM_laysOwn_J143 σ) Θ := by
  exact k_vret hX hR hT dM_laysOwn_143
set_option maxRecDepth 100000 in
set_option maxHeartbeats 4000000 in
theorem tM_laysOwn_J137 {X : KC} {q : Int × KM} (hX : kOk X 4 prog_11_method_53_code 4 "KeyPathModel") (hR : kRet X none q) (x1 : Int) (σ : KM) {Θ : ((Int × KM) ⊕ (Int × KM)) → Prop} (hT : ∀ z, Θ (.inr (z)) → z = q) (hb0 : ∀ s : Int × KM, Θ (.inl s) → kW X 14 [lq 10, li s.1, none, none] [] s.2) : kJ X 137 [lq 10, li x1, none, none] [] σ (fM_laysOwn_J137 x1 σ) Θ := by
  refine k_iincL (Lf := fun y1 => [lq 10, li y1, none, none]) hX dM_laysOwn_137 rfl (by decide) rfl (fun _ => rfl) (fun y1 => ?_)
  refine k_goto (tgt := 14) hX dM_laysOwn_140 (by decide) ?_
  exact k_back (hb0 (y1, σ))
set_option maxRecDepth 100000 in
set_option maxHeartbeats 4000000 in
theorem tM_laysOwn_J130 {X : KC} {q : Int × KM} (hX : kOk X 4 prog_11_method_53_code 4 "KeyPathModel") (hR : kRet X none q) (x1 x2 x3 t0 t1 : Int) (σ : KM) {Θ : ((Int × KM) ⊕ ((Int × KM) ⊕ (Int × KM))) → Prop} (hT : ∀ z, Θ (.inr (.inr (z))) → z = q) (hb0 : ∀ s : Int × KM, Θ (.inl s) → kW X 82 [lq 10, li x1, li x2, li s.1] [] s.2) (hb1 : ∀ s : Int × KM, Θ (.inr (.inl s)) → kW X 14 [lq 10, li s.1, none, none] [] s.2) : kJ X 130 [lq 10, li x1, li x2, li x3] [ki t0, ki t1, kr 59] σ (fM_laysOwn_J130 x1 x2 x3 t0 t1 σ) Θ := by
  refine k_iast hX (by decide) rfl dM_laysOwn_130 rfl (fun τ1 => ?_)
  refine k_iincL (Lf := fun y2 => [lq 10, li x1, li x2, li y2]) hX dM_laysOwn_131 rfl (by decide) rfl (fun _ => rfl) (fun y2 => ?_)
  refine k_goto (tgt := 82) hX dM_laysOwn_134 (by decide) ?_
  exact k_back (hb0 (y2, τ1))
set_option maxRecDepth 100000 in
set_option maxHeartbeats 4000000 in
theorem tM_laysOwn_J123 {X : KC} {q : Int × KM} (hX : kOk X 4 prog_11_method_53_code 4 "KeyPathModel") (hR : kRet X none q) (x1 x2 x3 t0 : Int) (σ : KM) {Θ : ((Int × KM) ⊕ ((Int × KM) ⊕ (Int × KM))) → Prop} (hT : ∀ z, Θ (.inr (.inr (z))) → z = q) (hb0 : ∀ s : Int × KM, Θ (.inl s) → kW X 82 [lq 10, li x1, li x2, li s.1] [] s.2) (hb1 : ∀ s : Int × KM, Θ (.inr (.inl s)) → kW X 14 [lq 10, li s.1, none, none] [] s.2) : kJ X 123 [lq 10, li x1, li x2, li x3] [ki t0, kr 59] σ (fM_laysOwn_J123 x1 x2 x3 t0 σ) Θ := by
  refine k_iload_n hX dM_laysOwn_123 rfl ?_
  refine k_aload_n hX dM_laysOwn_124 rfl ?_
  refine k_iload_n hX dM_laysOwn_125 rfl ?_
  refine cl_131 hX (by decide) (Nat.le_of_ble_eq_true rfl) dM_laysOwn_126 (fun r2 τ1 => ?_)
  refine k_isub hX dM_laysOwn_129 ?_
  exact tM_laysOwn_J130 hX hR x1 x2 x3 (x2 - r2) t0 τ1 hT hb0 hb1
set_option maxRecDepth 100000 in
set_option maxHeartbeats 4000000 in
theorem tM_laysOwn_B82 {X : KC} {q : Int × KM} (hX : kOk X 4 prog_11_method_53_code 4 "KeyPathModel") (hR : kRet X none q) (x1 x2 x3 : Int) (σ : KM) {Θ : ((Int × KM) ⊕ ((Int × KM) ⊕ (Int × KM))) → Prop} (hT : ∀ z, Θ (.inr (.inr (z))) → z = q) (hb0 : ∀ s : Int × KM, Θ (.inl s) → kW X 82 [lq 10, li x1, li x2, li s.1] [] s.2) (hb1 : ∀ s : Int × KM, Θ (.inr (.inl s)) → kW X 14 [lq 10, li s.1, none, none] [] s.2) : kJ X 82 [lq 10, li x1, li x2, li x3] [] σ (fM_laysOwn_B82 x1 x2 x3 σ) Θ := by
  refine k_iload_n hX dM_laysOwn_82 rfl ?_
  refine k_bipush hX dM_laysOwn_83 (by decide) ?_
  refine k_icmp_ge (tgt := 137) hX dM_laysOwn_85 (by decide) ?_ ?_
  · refine k_exit ?_
    refine k_less [true, true, false, false] (L' := [lq 10, li x1, none, none]) rfl ?_
    exact tM_laysOwn_J137 hX hR x1 σ hT hb1
  · refine k_aload_n hX dM_laysOwn_88 rfl ?_
    refine gf_176 hX dM_laysOwn_89 ?_
    refine k_bipush hX dM_laysOwn_92 (by decide) ?_
    refine k_iload_n hX dM_laysOwn_94 rfl ?_
    refine k_imul hX dM_laysOwn_95 ?_
    refine k_iload_n hX dM_laysOwn_96 rfl ?_
    refine k_iadd hX dM_laysOwn_97 ?_
    refine k_aload_n hX dM_laysOwn_98 rfl ?_
    refine gf_177 hX dM_laysOwn_99 ?_
    refine k_iload_n hX dM_laysOwn_102 rfl ?_
    refine k_iald hX (by decide) rfl dM_laysOwn_103 rfl (fun y1 => ?_)
    refine k_iconst hX dM_laysOwn_104 ?_
    refine k_icmp_eq (tgt := 123) hX dM_laysOwn_105 (by decide) ?_ ?_
    · exact tM_laysOwn_J123 hX hR x1 x2 x3 ((24 * x1) + x3) σ hT hb0 hb1
    · refine k_aload_n hX dM_laysOwn_108 rfl ?_
      refine gf_177 hX dM_laysOwn_109 ?_
      refine k_iload_n hX dM_laysOwn_112 rfl ?_
      refine k_iald hX (by decide) rfl dM_laysOwn_113 rfl (fun y2 => ?_)
      refine k_iload_n hX dM_laysOwn_114 rfl ?_
      refine k_icmp_eq (tgt := 123) hX dM_laysOwn_115 (by decide) ?_ ?_
      · exact tM_laysOwn_J123 hX hR x1 x2 x3 ((24 * x1) + x3) σ hT hb0 hb1
      · refine k_ldc (v := 1000000000) (w := 0) hX dM_laysOwn_118 tw_1309 ?_
        refine k_goto (tgt := 130) hX dM_laysOwn_120 (by decide) ?_
        exact tM_laysOwn_J130 hX hR x1 x2 x3 1000000000 ((24 * x1) + x3) σ hT hb0 hb1
set_option maxRecDepth 100000 in
set_option maxHeartbeats 4000000 in
theorem tM_laysOwn_L82 {X : KC} {q : Int × KM} (hX : kOk X 4 prog_11_method_53_code 4 "KeyPathModel") (hR : kRet X none q) (x1 x2 x3 : Int) (σ : KM) {Θ : ((Int × KM) ⊕ (Int × KM)) → Prop} (hT : ∀ z, Θ (.inr (z)) → z = q) (hb0 : ∀ s : Int × KM, Θ (.inl s) → kW X 14 [lq 10, li s.1, none, none] [] s.2) : kJ X 82 [lq 10, li x1, li x2, li x3] [] σ (fM_laysOwn_L82 x1 x2 x3 σ) Θ :=
  k_iter (f := fun s => fM_laysOwn_B82 x1 x2 s.1 s.2) (Lf := fun s => [lq 10, li x1, li x2, li s.1]) (mf := fun s => s.2) (Θ := Θ) (fun s => tM_laysOwn_B82 hX hR x1 x2 s.1 s.2 hT (fun _ h9 => h9) hb0) kF (x3, σ)
set_option maxRecDepth 100000 in
set_option maxHeartbeats 4000000 in
theorem tM_laysOwn_J80 {X : KC} {q : Int × KM} (hX : kOk X 4 prog_11_method_53_code 4 "KeyPathModel") (hR : kRet X none q) (x1 x2 : Int) (σ : KM) {Θ : ((Int × KM) ⊕ (Int × KM)) → Prop} (hT : ∀ z, Θ (.inr (z)) → z = q) (hb0 : ∀ s : Int × KM, Θ (.inl s) → kW X 14 [lq 10, li s.1, none, none] [] s.2) : kJ X 80 [lq 10, li x1, li x2, none] [] σ (fM_laysOwn_J80 x1 x2 σ) Θ := by
  refine k_iconst hX dM_laysOwn_80 ?_
  refine k_istore_n (L' := [lq 10, li x1, li x2, li 0]) hX dM_laysOwn_81 rfl (by decide) rfl ?_
  exact tM_laysOwn_L82 hX hR x1 x2 0 σ hT hb0
set_option maxRecDepth 100000 in
set_option maxHeartbeats 4000000 in
theorem tM_laysOwn_J73 {X : KC} {q : Int × KM} (hX : kOk X 4 prog_11_method_53_code 4 "KeyPathModel") (hR : kRet X none q) (x1 x3 t0 : Int) (σ : KM) {Θ : ((Int × Int × KM) ⊕ ((Int × KM) ⊕ (Int × KM))) → Prop} (hT : ∀ z, Θ (.inr (.inr (z))) → z = q) (hb0 : ∀ s : Int × Int × KM, Θ (.inl s) → kW X 49 [lq 10, li x1, li s.1, li s.2.1] [] s.2.2) (hb1 : ∀ s : Int × KM, Θ (.inr (.inl s)) → kW X 14 [lq 10, li s.1, none, none] [] s.2) : kJ X 73 [lq 10, li x1, none, li x3] [ki t0] σ (fM_laysOwn_J73 x1 x3 t0 σ) Θ := by
  refine k_istore_n (L' := [lq 10, li x1, li t0, li x3]) hX dM_laysOwn_73 rfl (by decide) rfl ?_
  refine k_iincL (Lf := fun y1 => [lq 10, li x1, li t0, li y1]) hX dM_laysOwn_74 rfl (by decide) rfl (fun _ => rfl) (fun y1 => ?_)
  refine k_goto (tgt := 49) hX dM_laysOwn_77 (by decide) ?_
  exact k_back (hb0 (t0, y1, σ))
set_option maxRecDepth 100000 in
set_option maxHeartbeats 4000000 in
theorem tM_laysOwn_B49 {X : KC} {q : Int × KM} (hX : kOk X 4 prog_11_method_53_code 4 "KeyPathModel") (hR : kRet X none q) (x1 x2 x3 : Int) (σ : KM) {Θ : ((Int × Int × KM) ⊕ ((Int × KM) ⊕ (Int × KM))) → Prop} (hT : ∀ z, Θ (.inr (.inr (z))) → z = q) (hb0 : ∀ s : Int × Int × KM, Θ (.inl s) → kW X 49 [lq 10, li x1, li s.1, li s.2.1] [] s.2.2) (hb1 : ∀ s : Int × KM, Θ (.inr (.inl s)) → kW X 14 [lq 10, li s.1, none, none] [] s.2) : kJ X 49 [lq 10, li x1, li x2, li x3] [] σ (fM_laysOwn_B49 x1 x2 x3 σ) Θ := by
  refine k_iload_n hX dM_laysOwn_49 rfl ?_
  refine k_bipush hX dM_laysOwn_50 (by decide) ?_
  refine k_icmp_ge (tgt := 80) hX dM_laysOwn_52 (by decide) ?_ ?_
  · refine k_exit ?_
    refine k_less [true, true, true, false] (L' := [lq 10, li x1, li x2, none]) rfl ?_
    exact tM_laysOwn_J80 hX hR x1 x2 σ hT hb1
  · refine k_aload_n hX dM_laysOwn_55 rfl ?_
    refine k_iload_n hX dM_laysOwn_56 rfl ?_
    refine cl_131 hX (by decide) (Nat.le_of_ble_eq_true rfl) dM_laysOwn_57 (fun r2 τ1 => ?_)
    refine k_iload_n hX dM_laysOwn_60 rfl ?_
    refine k_icmp_le (tgt := 72) hX dM_laysOwn_61 (by decide) ?_ ?_
    · refine k_iload_n hX dM_laysOwn_72 rfl ?_
      refine k_less [true, true, false, true] (L' := [lq 10, li x1, none, li x3]) rfl ?_
      exact tM_laysOwn_J73 hX hR x1 x3 x2 τ1 hT hb0 hb1
    · refine k_aload_n hX dM_laysOwn_64 rfl ?_
      refine k_iload_n hX dM_laysOwn_65 rfl ?_
      refine cl_131 hX (by decide) (Nat.le_of_ble_eq_true rfl) dM_laysOwn_66 (fun r4 τ3 => ?_)
      refine k_goto (tgt := 73) hX dM_laysOwn_69 (by decide) ?_
      refine k_less [true, true, false, true] (L' := [lq 10, li x1, none, li x3]) rfl ?_
      exact tM_laysOwn_J73 hX hR x1 x3 r4 τ3 hT hb0 hb1
set_option maxRecDepth 100000 in
set_option maxHeartbeats 4000000 in
theorem tM_laysOwn_L49 {X : KC} {q : Int × KM} (hX : kOk X 4 prog_11_method_53_code 4 "KeyPathModel") (hR : kRet X none q) (x1 x2 x3 : Int) (σ : KM) {Θ : ((Int × KM) ⊕ (Int × KM)) → Prop} (hT : ∀ z, Θ (.inr (z)) → z = q) (hb0 : ∀ s : Int × KM, Θ (.inl s) → kW X 14 [lq 10, li s.1, none, none] [] s.2) : kJ X 49 [lq 10, li x1, li x2, li x3] [] σ (fM_laysOwn_L49 x1 x2 x3 σ) Θ :=
  k_iter (f := fun s => fM_laysOwn_B49 x1 s.1 s.2.1 s.2.2) (Lf := fun s => [lq 10, li x1, li s.1, li s.2.1]) (mf := fun s => s.2.2) (Θ := Θ) (fun s => tM_laysOwn_B49 hX hR x1 s.1 s.2.1 s.2.2 hT (fun _ h9 => h9) hb0) kF (x2, x3, σ)
set_option maxRecDepth 100000 in
set_option maxHeartbeats 4000000 in
theorem tM_laysOwn_J44 {X : KC} {q : Int × KM} (hX : kOk X 4 prog_11_method_53_code 4 "KeyPathModel") (hR : kRet X none q) (x1 t0 t1 : Int) (σ : KM) {Θ : ((Int × KM) ⊕ (Int × KM)) → Prop} (hT : ∀ z, Θ (.inr (z)) → z = q) (hb0 : ∀ s : Int × KM, Θ (.inl s) → kW X 14 [lq 10, li s.1, none, none] [] s.2) : kJ X 44 [lq 10, li x1, none, none] [ki t0, ki t1, kr 64] σ (fM_laysOwn_J44 x1 t0 t1 σ) Θ := by
  refine k_zast hX (by decide) rfl dM_laysOwn_44 rfl (fun τ1 => ?_)
  refine k_iconst hX dM_laysOwn_45 ?_
  refine k_istore_n (L' := [lq 10, li x1, li 0, none]) hX dM_laysOwn_46 rfl (by decide) rfl ?_
  refine k_iconst hX dM_laysOwn_47 ?_
  refine k_istore_n (L' := [lq 10, li x1, li 0, li 0]) hX dM_laysOwn_48 rfl (by decide) rfl ?_
  exact tM_laysOwn_L49 hX hR x1 0 0 τ1 hT hb0
set_option maxRecDepth 100000 in
set_option maxHeartbeats 4000000 in
theorem tM_laysOwn_B14 {X : KC} {q : Int × KM} (hX : kOk X 4 prog_11_method_53_code 4 "KeyPathModel") (hR : kRet X none q) (x1 : Int) (σ : KM) {Θ : ((Int × KM) ⊕ (Int × KM)) → Prop} (hT : ∀ z, Θ (.inr (z)) → z = q) (hb0 : ∀ s : Int × KM, Θ (.inl s) → kW X 14 [lq 10, li s.1, none, none] [] s.2) : kJ X 14 [lq 10, li x1, none, none] [] σ (fM_laysOwn_B14 x1 σ) Θ := by
  refine k_iload_n hX dM_laysOwn_14 rfl ?_
  refine k_aload_n hX dM_laysOwn_15 rfl ?_
  refine gf_174 hX dM_laysOwn_16 ?_
  refine k_icmp_ge (tgt := 143) hX dM_laysOwn_19 (by decide) ?_ ?_
  · refine k_exit ?_
    refine k_less [true, false, true, true] (L' := [lq 10, none, none, none]) rfl ?_
    exact tM_laysOwn_J143 hX hR σ hT
  · refine k_aload_n hX dM_laysOwn_22 rfl ?_
    refine k_iload_n hX dM_laysOwn_23 rfl ?_
    refine cl_123 hX (by decide) (Nat.le_of_ble_eq_true rfl) dM_laysOwn_24 (fun _ τ1 => ?_)
    refine k_aload_n hX dM_laysOwn_27 rfl ?_
    refine gf_175 hX dM_laysOwn_28 ?_
    refine k_iload_n hX dM_laysOwn_31 rfl ?_
    refine k_aload_n hX dM_laysOwn_32 rfl ?_
    refine gf_166 hX dM_laysOwn_33 ?_
    refine k_if_ne (tgt := 43) hX dM_laysOwn_36 (by decide) ?_ ?_
    · refine k_iconst hX dM_laysOwn_43 ?_
      exact tM_laysOwn_J44 hX hR x1 0 x1 τ1 hT hb0
    · refine k_iconst hX dM_laysOwn_39 ?_
      refine k_goto (tgt := 44) hX dM_laysOwn_40 (by decide) ?_
      exact tM_laysOwn_J44 hX hR x1 1 x1 τ1 hT hb0
set_option maxRecDepth 100000 in
set_option maxHeartbeats 4000000 in
theorem tM_laysOwn_L14 {X : KC} {q : Int × KM} (hX : kOk X 4 prog_11_method_53_code 4 "KeyPathModel") (hR : kRet X none q) (x1 : Int) (σ : KM) {Θ : (Int × KM) → Prop} (hT : ∀ z, Θ (z) → z = q) : kJ X 14 [lq 10, li x1, none, none] [] σ (fM_laysOwn_L14 x1 σ) Θ :=
  k_iter (f := fun s => fM_laysOwn_B14 s.1 s.2) (Lf := fun s => [lq 10, li s.1, none, none]) (mf := fun s => s.2) (Θ := Θ) (fun s => tM_laysOwn_B14 hX hR s.1 s.2 hT (fun _ h9 => h9)) kF (x1, σ)
set_option maxRecDepth 100000 in
set_option maxHeartbeats 4000000 in
theorem sM_laysOwn (σ : KM) : kSem 4 (⟨"KeyPathModel", "laysOwn", "()V"⟩ : MethodName) prog_11_method_53_code 4 none [kr 10] σ (fM_laysOwn σ) := by
  refine kSem.of (L0 := [lq 10, none, none, none]) (by decide) (Nat.le_of_ble_eq_true rfl) rfl (fun X q hX hR => ?_)
  have hT : ∀ z : Int × KM, (fun z => z = q) z → z = q := fun _ h => h
  refine k_aload_n hX dM_laysOwn_0 rfl ?_
  refine cl_129 hX (by decide) (Nat.le_of_ble_eq_true rfl) dM_laysOwn_1 (fun _ τ1 => ?_)
  refine k_aload_n hX dM_laysOwn_4 rfl ?_
  refine k_aload_n hX dM_laysOwn_5 rfl ?_
  refine cl_119 hX (by decide) (Nat.le_of_ble_eq_true rfl) dM_laysOwn_6 (fun r3 τ2 => ?_)
  refine gp_173 hX dM_laysOwn_9 (fun τ4 => ?_)
  refine k_iconst hX dM_laysOwn_12 ?_
  refine k_istore_n (L' := [lq 10, li 0, none, none]) hX dM_laysOwn_13 rfl (by decide) rfl ?_
  exact tM_laysOwn_L14 hX hR 0 τ4 hT
theorem cl_132 {X : KC} {d n : Nat} {cc : ByteArray} {pc : Nat} {L : List (Option KV)} {st : List KV} {σ : KM} {Z : Type} {Θ : Z → Prop} {G : Int → KM → Option Z} (hX : kOk X d cc n "KeyPathModel") (hdd : 4 + 1 ≤ d) (hst : k_cat st ≤ 8) (hd : decode cc pc = .ok (.invokevirtual 281, 3)) (h : ∀ r τ, kJ X (pc + 3) L (st) τ (G r τ) Θ) : kJ X pc L (kr 10 :: st) σ (kCall (fM_laysOwn σ) G) Θ :=
  k_callV (np := 0) (av := []) (ret := none) hX (by decide) rfl rfl rfl (sM_laysOwn σ) ⟨⟨hdd, by decide⟩, tw_1332, tw_11, by decide +kernel⟩ rfl tw_1329 tw_1331 ts_61 hst hd h
theorem dM_moves_0 : decode prog_11_method_54_code 0 = .ok (.aload_n 0, 1) := by decide +kernel
theorem dM_moves_1 : decode prog_11_method_54_code 1 = .ok (.getfield 93, 3) := by decide +kernel
theorem dM_moves_4 : decode prog_11_method_54_code 4 = .ok (.iload_n 3, 1) := by decide +kernel
theorem dM_moves_5 : decode prog_11_method_54_code 5 = .ok (.baload, 1) := by decide +kernel
theorem dM_moves_6 : decode prog_11_method_54_code 6 = .ok (.ifCond .eq 13, 3) := by decide +kernel
theorem dM_moves_9 : decode prog_11_method_54_code 9 = .ok (.iload_n 1, 1) := by decide +kernel
theorem dM_moves_10 : decode prog_11_method_54_code 10 = .ok (.iload_n 2, 1) := by decide +kernel
theorem dM_moves_11 : decode prog_11_method_54_code 11 = .ok (.if_icmp .eq 8, 3) := by decide +kernel
theorem dM_moves_14 : decode prog_11_method_54_code 14 = .ok (.ldc 254, 2) := by decide +kernel
theorem dM_moves_16 : decode prog_11_method_54_code 16 = .ok (.goto 17, 3) := by decide +kernel
theorem dM_moves_19 : decode prog_11_method_54_code 19 = .ok (.aload_n 0, 1) := by decide +kernel
theorem dM_moves_20 : decode prog_11_method_54_code 20 = .ok (.getfield 75, 3) := by decide +kernel
theorem dM_moves_23 : decode prog_11_method_54_code 23 = .ok (.bipush 24, 2) := by decide +kernel
theorem dM_moves_25 : decode prog_11_method_54_code 25 = .ok (.iload_n 1, 1) := by decide +kernel
theorem dM_moves_26 : decode prog_11_method_54_code 26 = .ok (.imul, 1) := by decide +kernel
theorem dM_moves_27 : decode prog_11_method_54_code 27 = .ok (.iload_n 2, 1) := by decide +kernel
theorem dM_moves_28 : decode prog_11_method_54_code 28 = .ok (.iadd, 1) := by decide +kernel
theorem dM_moves_29 : decode prog_11_method_54_code 29 = .ok (.iaload, 1) := by decide +kernel
theorem dM_moves_30 : decode prog_11_method_54_code 30 = .ok (.iload 4, 2) := by decide +kernel
theorem dM_moves_32 : decode prog_11_method_54_code 32 = .ok (.imul, 1) := by decide +kernel
theorem dM_moves_33 : decode prog_11_method_54_code 33 = .ok (.ireturn, 1) := by decide +kernel
set_option maxRecDepth 100000 in
set_option maxHeartbeats 4000000 in
theorem tM_moves_J33 {X : KC} {q : Int × KM} (hX : kOk X 1 prog_11_method_54_code 5 "KeyPathModel") (hR : kRet X (some .int) q) (t0 : Int) (σ : KM) {Θ : (Int × KM) → Prop} (hT : ∀ z, Θ (z) → z = q) : kJ X 33 [lq 10, none, none, none, none] [ki t0] σ (fM_moves_J33 t0 σ) Θ := by
  exact k_iret hX hR hT dM_moves_33
set_option maxRecDepth 100000 in
set_option maxHeartbeats 4000000 in
theorem tM_moves_J19 {X : KC} {q : Int × KM} (hX : kOk X 1 prog_11_method_54_code 5 "KeyPathModel") (hR : kRet X (some .int) q) (x1 x2 x4 : Int) (σ : KM) {Θ : (Int × KM) → Prop} (hT : ∀ z, Θ (z) → z = q) : kJ X 19 [lq 10, li x1, li x2, none, li x4] [] σ (fM_moves_J19 x1 x2 x4 σ) Θ := by
  refine k_aload_n hX dM_moves_19 rfl ?_
  refine gf_172 hX dM_moves_20 ?_
  refine k_bipush hX dM_moves_23 (by decide) ?_
  refine k_iload_n hX dM_moves_25 rfl ?_
  refine k_imul hX dM_moves_26 ?_
  refine k_iload_n hX dM_moves_27 rfl ?_
  refine k_iadd hX dM_moves_28 ?_
  refine k_iald hX (by decide) rfl dM_moves_29 rfl (fun y1 => ?_)
  refine k_iload hX dM_moves_30 rfl ?_
  refine k_imul hX dM_moves_32 ?_
  refine k_less [true, false, false, true, false] (L' := [lq 10, none, none, none, none]) rfl ?_
  exact tM_moves_J33 hX hR (y1 * x4) σ hT
set_option maxRecDepth 100000 in
set_option maxHeartbeats 4000000 in
theorem sM_moves (x1 x2 x3 x4 : Int) (σ : KM) : kSem 1 (⟨"KeyPathModel", "moves", "(IIII)I"⟩ : MethodName) prog_11_method_54_code 5 (some .int) [kr 10, ki x1, ki x2, ki x3, ki x4] σ (fM_moves x1 x2 x3 x4 σ) := by
  refine kSem.of (L0 := [lq 10, li x1, li x2, li x3, li x4]) (by decide) (Nat.le_of_ble_eq_true rfl) rfl (fun X q hX hR => ?_)
  have hT : ∀ z : Int × KM, (fun z => z = q) z → z = q := fun _ h => h
  refine k_aload_n hX dM_moves_0 rfl ?_
  refine gf_175 hX dM_moves_1 ?_
  refine k_iload_n hX dM_moves_4 rfl ?_
  refine k_zald hX (by decide) rfl dM_moves_5 rfl (fun y1 => ?_)
  refine k_if_eq (tgt := 19) hX dM_moves_6 (by decide) ?_ ?_
  · refine k_less [true, true, true, false, true] (L' := [lq 10, li x1, li x2, none, li x4]) rfl ?_
    exact tM_moves_J19 hX hR x1 x2 x4 σ hT
  · refine k_iload_n hX dM_moves_9 rfl ?_
    refine k_iload_n hX dM_moves_10 rfl ?_
    refine k_icmp_eq (tgt := 19) hX dM_moves_11 (by decide) ?_ ?_
    · refine k_less [true, true, true, false, true] (L' := [lq 10, li x1, li x2, none, li x4]) rfl ?_
      exact tM_moves_J19 hX hR x1 x2 x4 σ hT
    · refine k_ldc (v := 1000000000) (w := 0) hX dM_moves_14 tw_1309 ?_
      refine k_goto (tgt := 33) hX dM_moves_16 (by decide) ?_
      refine k_less [true, false, false, false, false] (L' := [lq 10, none, none, none, none]) rfl ?_
      exact tM_moves_J33 hX hR 1000000000 σ hT
theorem cl_133 {X : KC} {d n : Nat} {cc : ByteArray} {pc : Nat} {L : List (Option KV)} {st : List KV} {σ : KM} {Z : Type} {Θ : Z → Prop} {G : Int → KM → Option Z} {x1 x2 x3 x4 : Int} (hX : kOk X d cc n "KeyPathModel") (hdd : 1 + 1 ≤ d) (hst : k_cat st ≤ 8) (hd : decode cc pc = .ok (.invokevirtual 270, 3)) (h : ∀ r τ, kJ X (pc + 3) L (ki r :: st) τ (G r τ) Θ) : kJ X pc L (ki x4 :: ki x3 :: ki x2 :: ki x1 :: kr 10 :: st) σ (kCall (fM_moves x1 x2 x3 x4 σ) G) Θ :=
  k_callV (np := 4) (av := [ki x1, ki x2, ki x3, ki x4]) (ret := (some .int)) hX (by decide) rfl rfl rfl (sM_moves _ _ _ _ σ) ⟨⟨hdd, by decide⟩, tw_1344, tw_11, by decide +kernel⟩ rfl tw_1341 tw_1343 ts_64 hst hd h
theorem dM_added_0 : decode prog_11_method_55_code 0 = .ok (.iload_n 0, 1) := by decide +kernel
theorem dM_added_1 : decode prog_11_method_55_code 1 = .ok (.ldc 254, 2) := by decide +kernel
theorem dM_added_3 : decode prog_11_method_55_code 3 = .ok (.if_icmp .ge 9, 3) := by decide +kernel
theorem dM_added_6 : decode prog_11_method_55_code 6 = .ok (.iload_n 1, 1) := by decide +kernel
theorem dM_added_7 : decode prog_11_method_55_code 7 = .ok (.ldc 254, 2) := by decide +kernel
theorem dM_added_9 : decode prog_11_method_55_code 9 = .ok (.if_icmp .lt 8, 3) := by decide +kernel
theorem dM_added_12 : decode prog_11_method_55_code 12 = .ok (.ldc 254, 2) := by decide +kernel
theorem dM_added_14 : decode prog_11_method_55_code 14 = .ok (.goto 6, 3) := by decide +kernel
theorem dM_added_17 : decode prog_11_method_55_code 17 = .ok (.iload_n 0, 1) := by decide +kernel
theorem dM_added_18 : decode prog_11_method_55_code 18 = .ok (.iload_n 1, 1) := by decide +kernel
theorem dM_added_19 : decode prog_11_method_55_code 19 = .ok (.iadd, 1) := by decide +kernel
theorem dM_added_20 : decode prog_11_method_55_code 20 = .ok (.ireturn, 1) := by decide +kernel
set_option maxRecDepth 100000 in
set_option maxHeartbeats 4000000 in
theorem tM_added_J20 {X : KC} {q : Int × KM} (hX : kOk X 1 prog_11_method_55_code 2 "KeyPathModel") (hR : kRet X (some .int) q) (t0 : Int) (σ : KM) {Θ : (Int × KM) → Prop} (hT : ∀ z, Θ (z) → z = q) : kJ X 20 [none, none] [ki t0] σ (fM_added_J20 t0 σ) Θ := by
  exact k_iret hX hR hT dM_added_20
set_option maxRecDepth 100000 in
set_option maxHeartbeats 4000000 in
theorem tM_added_J12 {X : KC} {q : Int × KM} (hX : kOk X 1 prog_11_method_55_code 2 "KeyPathModel") (hR : kRet X (some .int) q) (σ : KM) {Θ : (Int × KM) → Prop} (hT : ∀ z, Θ (z) → z = q) : kJ X 12 [none, none] [] σ (fM_added_J12 σ) Θ := by
  refine k_ldc (v := 1000000000) (w := 0) hX dM_added_12 tw_1309 ?_
  refine k_goto (tgt := 20) hX dM_added_14 (by decide) ?_
  exact tM_added_J20 hX hR 1000000000 σ hT
set_option maxRecDepth 100000 in
set_option maxHeartbeats 4000000 in
theorem sM_added (x0 x1 : Int) (σ : KM) : kSem 1 (⟨"KeyPathModel", "added", "(II)I"⟩ : MethodName) prog_11_method_55_code 2 (some .int) [ki x0, ki x1] σ (fM_added x0 x1 σ) := by
  refine kSem.of (L0 := [li x0, li x1]) (by decide) (Nat.le_of_ble_eq_true rfl) rfl (fun X q hX hR => ?_)
  have hT : ∀ z : Int × KM, (fun z => z = q) z → z = q := fun _ h => h
  refine k_iload_n hX dM_added_0 rfl ?_
  refine k_ldc (v := 1000000000) (w := 0) hX dM_added_1 tw_1309 ?_
  refine k_icmp_ge (tgt := 12) hX dM_added_3 (by decide) ?_ ?_
  · refine k_less [false, false] (L' := [none, none]) rfl ?_
    exact tM_added_J12 hX hR σ hT
  · refine k_iload_n hX dM_added_6 rfl ?_
    refine k_ldc (v := 1000000000) (w := 0) hX dM_added_7 tw_1309 ?_
    refine k_icmp_lt (tgt := 17) hX dM_added_9 (by decide) ?_ ?_
    · refine k_iload_n hX dM_added_17 rfl ?_
      refine k_iload_n hX dM_added_18 rfl ?_
      refine k_iadd hX dM_added_19 ?_
      refine k_less [false, false] (L' := [none, none]) rfl ?_
      exact tM_added_J20 hX hR (x0 + x1) σ hT
    · refine k_less [false, false] (L' := [none, none]) rfl ?_
      exact tM_added_J12 hX hR σ hT
theorem cl_134 {X : KC} {d n : Nat} {cc : ByteArray} {pc : Nat} {L : List (Option KV)} {st : List KV} {σ : KM} {Z : Type} {Θ : Z → Prop} {G : Int → KM → Option Z} {x0 x1 : Int} (hX : kOk X d cc n "KeyPathModel") (hdd : 1 + 1 ≤ d) (hst : k_cat st ≤ 8) (hd : decode cc pc = .ok (.invokestatic 274, 3)) (h : ∀ r τ, kJ X (pc + 3) L (ki r :: st) τ (G r τ) Θ) : kJ X pc L (ki x1 :: ki x0 :: st) σ (kCall (fM_added x0 x1 σ) G) Θ :=
  k_callS (np := 2) (av := [ki x0, ki x1]) (ret := (some .int)) hX (sM_added _ _ σ) ⟨⟨hdd, by decide⟩, tw_1347, tw_11, by decide +kernel⟩ rfl tw_1345 tw_1346 hst hd h
theorem dM_laysPath_0 : decode prog_11_method_56_code 0 = .ok (.aload_n 0, 1) := by decide +kernel
theorem dM_laysPath_1 : decode prog_11_method_56_code 1 = .ok (.getfield 267, 3) := by decide +kernel
theorem dM_laysPath_4 : decode prog_11_method_56_code 4 = .ok (.iconst 1, 1) := by decide +kernel
theorem dM_laysPath_5 : decode prog_11_method_56_code 5 = .ok (.isub, 1) := by decide +kernel
theorem dM_laysPath_6 : decode prog_11_method_56_code 6 = .ok (.istore_n 2, 1) := by decide +kernel
theorem dM_laysPath_7 : decode prog_11_method_56_code 7 = .ok (.iload_n 2, 1) := by decide +kernel
theorem dM_laysPath_8 : decode prog_11_method_56_code 8 = .ok (.ifCond .lt 232, 3) := by decide +kernel
theorem dM_laysPath_11 : decode prog_11_method_56_code 11 = .ok (.iconst 0, 1) := by decide +kernel
theorem dM_laysPath_12 : decode prog_11_method_56_code 12 = .ok (.istore_n 3, 1) := by decide +kernel
theorem dM_laysPath_13 : decode prog_11_method_56_code 13 = .ok (.iload_n 3, 1) := by decide +kernel
theorem dM_laysPath_14 : decode prog_11_method_56_code 14 = .ok (.bipush 24, 2) := by decide +kernel
theorem dM_laysPath_16 : decode prog_11_method_56_code 16 = .ok (.if_icmp .ge 218, 3) := by decide +kernel
theorem dM_laysPath_19 : decode prog_11_method_56_code 19 = .ok (.bipush 24, 2) := by decide +kernel
theorem dM_laysPath_21 : decode prog_11_method_56_code 21 = .ok (.iload_n 2, 1) := by decide +kernel
theorem dM_laysPath_22 : decode prog_11_method_56_code 22 = .ok (.imul, 1) := by decide +kernel
theorem dM_laysPath_23 : decode prog_11_method_56_code 23 = .ok (.iload_n 3, 1) := by decide +kernel
theorem dM_laysPath_24 : decode prog_11_method_56_code 24 = .ok (.iadd, 1) := by decide +kernel
theorem dM_laysPath_25 : decode prog_11_method_56_code 25 = .ok (.istore 4, 2) := by decide +kernel
theorem dM_laysPath_27 : decode prog_11_method_56_code 27 = .ok (.iload_n 2, 1) := by decide +kernel
theorem dM_laysPath_28 : decode prog_11_method_56_code 28 = .ok (.aload_n 0, 1) := by decide +kernel
theorem dM_laysPath_29 : decode prog_11_method_56_code 29 = .ok (.getfield 267, 3) := by decide +kernel
theorem dM_laysPath_32 : decode prog_11_method_56_code 32 = .ok (.iconst 1, 1) := by decide +kernel
theorem dM_laysPath_33 : decode prog_11_method_56_code 33 = .ok (.isub, 1) := by decide +kernel
theorem dM_laysPath_34 : decode prog_11_method_56_code 34 = .ok (.if_icmp .ne 7, 3) := by decide +kernel
theorem dM_laysPath_37 : decode prog_11_method_56_code 37 = .ok (.iconst 0, 1) := by decide +kernel
theorem dM_laysPath_38 : decode prog_11_method_56_code 38 = .ok (.goto 5, 3) := by decide +kernel
theorem dM_laysPath_41 : decode prog_11_method_56_code 41 = .ok (.ldc 254, 2) := by decide +kernel
theorem dM_laysPath_43 : decode prog_11_method_56_code 43 = .ok (.istore 5, 2) := by decide +kernel
theorem dM_laysPath_45 : decode prog_11_method_56_code 45 = .ok (.iload_n 2, 1) := by decide +kernel
theorem dM_laysPath_46 : decode prog_11_method_56_code 46 = .ok (.aload_n 0, 1) := by decide +kernel
theorem dM_laysPath_47 : decode prog_11_method_56_code 47 = .ok (.getfield 267, 3) := by decide +kernel
theorem dM_laysPath_50 : decode prog_11_method_56_code 50 = .ok (.iconst 1, 1) := by decide +kernel
theorem dM_laysPath_51 : decode prog_11_method_56_code 51 = .ok (.isub, 1) := by decide +kernel
theorem dM_laysPath_52 : decode prog_11_method_56_code 52 = .ok (.if_icmp .ne 7, 3) := by decide +kernel
theorem dM_laysPath_55 : decode prog_11_method_56_code 55 = .ok (.iconst 1, 1) := by decide +kernel
theorem dM_laysPath_56 : decode prog_11_method_56_code 56 = .ok (.goto 4, 3) := by decide +kernel
theorem dM_laysPath_59 : decode prog_11_method_56_code 59 = .ok (.iconst 0, 1) := by decide +kernel
theorem dM_laysPath_60 : decode prog_11_method_56_code 60 = .ok (.istore 6, 2) := by decide +kernel
theorem dM_laysPath_62 : decode prog_11_method_56_code 62 = .ok (.iconst 0, 1) := by decide +kernel
theorem dM_laysPath_63 : decode prog_11_method_56_code 63 = .ok (.istore 7, 2) := by decide +kernel
theorem dM_laysPath_65 : decode prog_11_method_56_code 65 = .ok (.iload 7, 2) := by decide +kernel
theorem dM_laysPath_67 : decode prog_11_method_56_code 67 = .ok (.bipush 24, 2) := by decide +kernel
theorem dM_laysPath_69 : decode prog_11_method_56_code 69 = .ok (.if_icmp .ge 131, 3) := by decide +kernel
theorem dM_laysPath_72 : decode prog_11_method_56_code 72 = .ok (.iload_n 2, 1) := by decide +kernel
theorem dM_laysPath_73 : decode prog_11_method_56_code 73 = .ok (.iconst 1, 1) := by decide +kernel
theorem dM_laysPath_74 : decode prog_11_method_56_code 74 = .ok (.iadd, 1) := by decide +kernel
theorem dM_laysPath_75 : decode prog_11_method_56_code 75 = .ok (.aload_n 0, 1) := by decide +kernel
theorem dM_laysPath_76 : decode prog_11_method_56_code 76 = .ok (.getfield 267, 3) := by decide +kernel
theorem dM_laysPath_79 : decode prog_11_method_56_code 79 = .ok (.if_icmp .ge 121, 3) := by decide +kernel
theorem dM_laysPath_82 : decode prog_11_method_56_code 82 = .ok (.aload_n 0, 1) := by decide +kernel
theorem dM_laysPath_83 : decode prog_11_method_56_code 83 = .ok (.iload_n 3, 1) := by decide +kernel
theorem dM_laysPath_84 : decode prog_11_method_56_code 84 = .ok (.iload 7, 2) := by decide +kernel
theorem dM_laysPath_86 : decode prog_11_method_56_code 86 = .ok (.iload_n 2, 1) := by decide +kernel
theorem dM_laysPath_87 : decode prog_11_method_56_code 87 = .ok (.iconst 1, 1) := by decide +kernel
theorem dM_laysPath_88 : decode prog_11_method_56_code 88 = .ok (.iadd, 1) := by decide +kernel
theorem dM_laysPath_89 : decode prog_11_method_56_code 89 = .ok (.iload_n 1, 1) := by decide +kernel
theorem dM_laysPath_90 : decode prog_11_method_56_code 90 = .ok (.invokevirtual 270, 3) := by decide +kernel
theorem dM_laysPath_93 : decode prog_11_method_56_code 93 = .ok (.aload_n 0, 1) := by decide +kernel
theorem dM_laysPath_94 : decode prog_11_method_56_code 94 = .ok (.getfield 84, 3) := by decide +kernel
theorem dM_laysPath_97 : decode prog_11_method_56_code 97 = .ok (.bipush 24, 2) := by decide +kernel
theorem dM_laysPath_99 : decode prog_11_method_56_code 99 = .ok (.iload_n 2, 1) := by decide +kernel
theorem dM_laysPath_100 : decode prog_11_method_56_code 100 = .ok (.iconst 1, 1) := by decide +kernel
theorem dM_laysPath_101 : decode prog_11_method_56_code 101 = .ok (.iadd, 1) := by decide +kernel
theorem dM_laysPath_102 : decode prog_11_method_56_code 102 = .ok (.imul, 1) := by decide +kernel
theorem dM_laysPath_103 : decode prog_11_method_56_code 103 = .ok (.iload 7, 2) := by decide +kernel
theorem dM_laysPath_105 : decode prog_11_method_56_code 105 = .ok (.iadd, 1) := by decide +kernel
theorem dM_laysPath_106 : decode prog_11_method_56_code 106 = .ok (.iaload, 1) := by decide +kernel
theorem dM_laysPath_107 : decode prog_11_method_56_code 107 = .ok (.invokestatic 274, 3) := by decide +kernel
theorem dM_laysPath_110 : decode prog_11_method_56_code 110 = .ok (.istore 8, 2) := by decide +kernel
theorem dM_laysPath_112 : decode prog_11_method_56_code 112 = .ok (.iload 8, 2) := by decide +kernel
theorem dM_laysPath_114 : decode prog_11_method_56_code 114 = .ok (.ldc 254, 2) := by decide +kernel
theorem dM_laysPath_116 : decode prog_11_method_56_code 116 = .ok (.if_icmp .ge 78, 3) := by decide +kernel
theorem dM_laysPath_119 : decode prog_11_method_56_code 119 = .ok (.iload 8, 2) := by decide +kernel
theorem dM_laysPath_121 : decode prog_11_method_56_code 121 = .ok (.iload 5, 2) := by decide +kernel
theorem dM_laysPath_123 : decode prog_11_method_56_code 123 = .ok (.if_icmp .le 6, 3) := by decide +kernel
theorem dM_laysPath_126 : decode prog_11_method_56_code 126 = .ok (.goto 68, 3) := by decide +kernel
theorem dM_laysPath_129 : decode prog_11_method_56_code 129 = .ok (.iload 8, 2) := by decide +kernel
theorem dM_laysPath_131 : decode prog_11_method_56_code 131 = .ok (.iload 5, 2) := by decide +kernel
theorem dM_laysPath_133 : decode prog_11_method_56_code 133 = .ok (.if_icmp .ge 20, 3) := by decide +kernel
theorem dM_laysPath_136 : decode prog_11_method_56_code 136 = .ok (.aload_n 0, 1) := by decide +kernel
theorem dM_laysPath_137 : decode prog_11_method_56_code 137 = .ok (.getfield 87, 3) := by decide +kernel
theorem dM_laysPath_140 : decode prog_11_method_56_code 140 = .ok (.bipush 24, 2) := by decide +kernel
theorem dM_laysPath_142 : decode prog_11_method_56_code 142 = .ok (.iload_n 2, 1) := by decide +kernel
theorem dM_laysPath_143 : decode prog_11_method_56_code 143 = .ok (.iconst 1, 1) := by decide +kernel
theorem dM_laysPath_144 : decode prog_11_method_56_code 144 = .ok (.iadd, 1) := by decide +kernel
theorem dM_laysPath_145 : decode prog_11_method_56_code 145 = .ok (.imul, 1) := by decide +kernel
theorem dM_laysPath_146 : decode prog_11_method_56_code 146 = .ok (.iload 7, 2) := by decide +kernel
theorem dM_laysPath_148 : decode prog_11_method_56_code 148 = .ok (.iadd, 1) := by decide +kernel
theorem dM_laysPath_149 : decode prog_11_method_56_code 149 = .ok (.iaload, 1) := by decide +kernel
theorem dM_laysPath_150 : decode prog_11_method_56_code 150 = .ok (.goto 20, 3) := by decide +kernel
theorem dM_laysPath_153 : decode prog_11_method_56_code 153 = .ok (.iload 6, 2) := by decide +kernel
theorem dM_laysPath_155 : decode prog_11_method_56_code 155 = .ok (.aload_n 0, 1) := by decide +kernel
theorem dM_laysPath_156 : decode prog_11_method_56_code 156 = .ok (.getfield 87, 3) := by decide +kernel
theorem dM_laysPath_159 : decode prog_11_method_56_code 159 = .ok (.bipush 24, 2) := by decide +kernel
theorem dM_laysPath_161 : decode prog_11_method_56_code 161 = .ok (.iload_n 2, 1) := by decide +kernel
theorem dM_laysPath_162 : decode prog_11_method_56_code 162 = .ok (.iconst 1, 1) := by decide +kernel
theorem dM_laysPath_163 : decode prog_11_method_56_code 163 = .ok (.iadd, 1) := by decide +kernel
theorem dM_laysPath_164 : decode prog_11_method_56_code 164 = .ok (.imul, 1) := by decide +kernel
theorem dM_laysPath_165 : decode prog_11_method_56_code 165 = .ok (.iload 7, 2) := by decide +kernel
theorem dM_laysPath_167 : decode prog_11_method_56_code 167 = .ok (.iadd, 1) := by decide +kernel
theorem dM_laysPath_168 : decode prog_11_method_56_code 168 = .ok (.iaload, 1) := by decide +kernel
theorem dM_laysPath_169 : decode prog_11_method_56_code 169 = .ok (.iadd, 1) := by decide +kernel
theorem dM_laysPath_170 : decode prog_11_method_56_code 170 = .ok (.istore 6, 2) := by decide +kernel
theorem dM_laysPath_172 : decode prog_11_method_56_code 172 = .ok (.iload 6, 2) := by decide +kernel
theorem dM_laysPath_174 : decode prog_11_method_56_code 174 = .ok (.ldc_w 277, 3) := by decide +kernel
theorem dM_laysPath_177 : decode prog_11_method_56_code 177 = .ok (.if_icmp .le 9, 3) := by decide +kernel
theorem dM_laysPath_180 : decode prog_11_method_56_code 180 = .ok (.ldc_w 277, 3) := by decide +kernel
theorem dM_laysPath_183 : decode prog_11_method_56_code 183 = .ok (.goto 5, 3) := by decide +kernel
theorem dM_laysPath_186 : decode prog_11_method_56_code 186 = .ok (.iload 6, 2) := by decide +kernel
theorem dM_laysPath_188 : decode prog_11_method_56_code 188 = .ok (.istore 6, 2) := by decide +kernel
theorem dM_laysPath_190 : decode prog_11_method_56_code 190 = .ok (.iload 8, 2) := by decide +kernel
theorem dM_laysPath_192 : decode prog_11_method_56_code 192 = .ok (.istore 5, 2) := by decide +kernel
theorem dM_laysPath_194 : decode prog_11_method_56_code 194 = .ok (.iinc 7 1, 3) := by decide +kernel
theorem dM_laysPath_197 : decode prog_11_method_56_code 197 = .ok (.goto (-132), 3) := by decide +kernel
theorem dM_laysPath_200 : decode prog_11_method_56_code 200 = .ok (.aload_n 0, 1) := by decide +kernel
theorem dM_laysPath_201 : decode prog_11_method_56_code 201 = .ok (.getfield 84, 3) := by decide +kernel
theorem dM_laysPath_204 : decode prog_11_method_56_code 204 = .ok (.iload 4, 2) := by decide +kernel
theorem dM_laysPath_206 : decode prog_11_method_56_code 206 = .ok (.aload_n 0, 1) := by decide +kernel
theorem dM_laysPath_207 : decode prog_11_method_56_code 207 = .ok (.getfield 78, 3) := by decide +kernel
theorem dM_laysPath_210 : decode prog_11_method_56_code 210 = .ok (.iload 4, 2) := by decide +kernel
theorem dM_laysPath_212 : decode prog_11_method_56_code 212 = .ok (.iaload, 1) := by decide +kernel
theorem dM_laysPath_213 : decode prog_11_method_56_code 213 = .ok (.iload 5, 2) := by decide +kernel
theorem dM_laysPath_215 : decode prog_11_method_56_code 215 = .ok (.invokestatic 274, 3) := by decide +kernel
theorem dM_laysPath_218 : decode prog_11_method_56_code 218 = .ok (.iastore, 1) := by decide +kernel
theorem dM_laysPath_219 : decode prog_11_method_56_code 219 = .ok (.aload_n 0, 1) := by decide +kernel
theorem dM_laysPath_220 : decode prog_11_method_56_code 220 = .ok (.getfield 87, 3) := by decide +kernel
theorem dM_laysPath_223 : decode prog_11_method_56_code 223 = .ok (.iload 4, 2) := by decide +kernel
theorem dM_laysPath_225 : decode prog_11_method_56_code 225 = .ok (.iload 6, 2) := by decide +kernel
theorem dM_laysPath_227 : decode prog_11_method_56_code 227 = .ok (.iastore, 1) := by decide +kernel
theorem dM_laysPath_228 : decode prog_11_method_56_code 228 = .ok (.iinc 3 1, 3) := by decide +kernel
theorem dM_laysPath_231 : decode prog_11_method_56_code 231 = .ok (.goto (-218), 3) := by decide +kernel
theorem dM_laysPath_234 : decode prog_11_method_56_code 234 = .ok (.iinc 2 (-1), 3) := by decide +kernel
theorem dM_laysPath_237 : decode prog_11_method_56_code 237 = .ok (.goto (-230), 3) := by decide +kernel
theorem dM_laysPath_240 : decode prog_11_method_56_code 240 = .ok (.aload_n 0, 1) := by decide +kernel
theorem dM_laysPath_241 : decode prog_11_method_56_code 241 = .ok (.aload_n 0, 1) := by decide +kernel
theorem dM_laysPath_242 : decode prog_11_method_56_code 242 = .ok (.getfield 267, 3) := by decide +kernel
theorem dM_laysPath_245 : decode prog_11_method_56_code 245 = .ok (.ifCond .ne 7, 3) := by decide +kernel
theorem dM_laysPath_248 : decode prog_11_method_56_code 248 = .ok (.iconst 0, 1) := by decide +kernel
theorem dM_laysPath_249 : decode prog_11_method_56_code 249 = .ok (.goto 5, 3) := by decide +kernel
theorem dM_laysPath_252 : decode prog_11_method_56_code 252 = .ok (.ldc 254, 2) := by decide +kernel
theorem dM_laysPath_254 : decode prog_11_method_56_code 254 = .ok (.putfield 278, 3) := by decide +kernel
theorem dM_laysPath_257 : decode prog_11_method_56_code 257 = .ok (.iconst 0, 1) := by decide +kernel
theorem dM_laysPath_258 : decode prog_11_method_56_code 258 = .ok (.istore_n 2, 1) := by decide +kernel
theorem dM_laysPath_259 : decode prog_11_method_56_code 259 = .ok (.iload_n 2, 1) := by decide +kernel
theorem dM_laysPath_260 : decode prog_11_method_56_code 260 = .ok (.bipush 24, 2) := by decide +kernel
theorem dM_laysPath_262 : decode prog_11_method_56_code 262 = .ok (.if_icmp .ge 46, 3) := by decide +kernel
theorem dM_laysPath_265 : decode prog_11_method_56_code 265 = .ok (.aload_n 0, 1) := by decide +kernel
theorem dM_laysPath_266 : decode prog_11_method_56_code 266 = .ok (.getfield 267, 3) := by decide +kernel
theorem dM_laysPath_269 : decode prog_11_method_56_code 269 = .ok (.ifCond .le 39, 3) := by decide +kernel
theorem dM_laysPath_272 : decode prog_11_method_56_code 272 = .ok (.aload_n 0, 1) := by decide +kernel
theorem dM_laysPath_273 : decode prog_11_method_56_code 273 = .ok (.aload_n 0, 1) := by decide +kernel
theorem dM_laysPath_274 : decode prog_11_method_56_code 274 = .ok (.getfield 84, 3) := by decide +kernel
theorem dM_laysPath_277 : decode prog_11_method_56_code 277 = .ok (.iload_n 2, 1) := by decide +kernel
theorem dM_laysPath_278 : decode prog_11_method_56_code 278 = .ok (.iaload, 1) := by decide +kernel
theorem dM_laysPath_279 : decode prog_11_method_56_code 279 = .ok (.aload_n 0, 1) := by decide +kernel
theorem dM_laysPath_280 : decode prog_11_method_56_code 280 = .ok (.getfield 278, 3) := by decide +kernel
theorem dM_laysPath_283 : decode prog_11_method_56_code 283 = .ok (.if_icmp .ge 12, 3) := by decide +kernel
theorem dM_laysPath_286 : decode prog_11_method_56_code 286 = .ok (.aload_n 0, 1) := by decide +kernel
theorem dM_laysPath_287 : decode prog_11_method_56_code 287 = .ok (.getfield 84, 3) := by decide +kernel
theorem dM_laysPath_290 : decode prog_11_method_56_code 290 = .ok (.iload_n 2, 1) := by decide +kernel
theorem dM_laysPath_291 : decode prog_11_method_56_code 291 = .ok (.iaload, 1) := by decide +kernel
theorem dM_laysPath_292 : decode prog_11_method_56_code 292 = .ok (.goto 7, 3) := by decide +kernel
theorem dM_laysPath_295 : decode prog_11_method_56_code 295 = .ok (.aload_n 0, 1) := by decide +kernel
theorem dM_laysPath_296 : decode prog_11_method_56_code 296 = .ok (.getfield 278, 3) := by decide +kernel
theorem dM_laysPath_299 : decode prog_11_method_56_code 299 = .ok (.putfield 278, 3) := by decide +kernel
theorem dM_laysPath_302 : decode prog_11_method_56_code 302 = .ok (.iinc 2 1, 3) := by decide +kernel
theorem dM_laysPath_305 : decode prog_11_method_56_code 305 = .ok (.goto (-46), 3) := by decide +kernel
theorem dM_laysPath_308 : decode prog_11_method_56_code 308 = .ok (.aload_n 0, 1) := by decide +kernel
theorem dM_laysPath_309 : decode prog_11_method_56_code 309 = .ok (.getfield 278, 3) := by decide +kernel
theorem dM_laysPath_312 : decode prog_11_method_56_code 312 = .ok (.ldc 254, 2) := by decide +kernel
theorem dM_laysPath_314 : decode prog_11_method_56_code 314 = .ok (.if_icmp .lt 5, 3) := by decide +kernel
theorem dM_laysPath_317 : decode prog_11_method_56_code 317 = .ok (.iconst 0, 1) := by decide +kernel
theorem dM_laysPath_318 : decode prog_11_method_56_code 318 = .ok (.ireturn, 1) := by decide +kernel
theorem dM_laysPath_319 : decode prog_11_method_56_code 319 = .ok (.aload_n 0, 1) := by decide +kernel
theorem dM_laysPath_320 : decode prog_11_method_56_code 320 = .ok (.getfield 278, 3) := by decide +kernel
theorem dM_laysPath_323 : decode prog_11_method_56_code 323 = .ok (.istore_n 2, 1) := by decide +kernel
theorem dM_laysPath_324 : decode prog_11_method_56_code 324 = .ok (.iconst 0, 1) := by decide +kernel
theorem dM_laysPath_325 : decode prog_11_method_56_code 325 = .ok (.istore_n 3, 1) := by decide +kernel
theorem dM_laysPath_326 : decode prog_11_method_56_code 326 = .ok (.iload_n 3, 1) := by decide +kernel
theorem dM_laysPath_327 : decode prog_11_method_56_code 327 = .ok (.aload_n 0, 1) := by decide +kernel
theorem dM_laysPath_328 : decode prog_11_method_56_code 328 = .ok (.getfield 267, 3) := by decide +kernel
theorem dM_laysPath_331 : decode prog_11_method_56_code 331 = .ok (.if_icmp .ge 95, 3) := by decide +kernel
theorem dM_laysPath_334 : decode prog_11_method_56_code 334 = .ok (.iconst 0, 1) := by decide +kernel
theorem dM_laysPath_335 : decode prog_11_method_56_code 335 = .ok (.istore 4, 2) := by decide +kernel
theorem dM_laysPath_337 : decode prog_11_method_56_code 337 = .ok (.iload_n 3, 1) := by decide +kernel
theorem dM_laysPath_338 : decode prog_11_method_56_code 338 = .ok (.ifCond .ne 7, 3) := by decide +kernel
theorem dM_laysPath_341 : decode prog_11_method_56_code 341 = .ok (.iconst 0, 1) := by decide +kernel
theorem dM_laysPath_342 : decode prog_11_method_56_code 342 = .ok (.goto 19, 3) := by decide +kernel
theorem dM_laysPath_345 : decode prog_11_method_56_code 345 = .ok (.aload_n 0, 1) := by decide +kernel
theorem dM_laysPath_346 : decode prog_11_method_56_code 346 = .ok (.aload_n 0, 1) := by decide +kernel
theorem dM_laysPath_347 : decode prog_11_method_56_code 347 = .ok (.getfield 90, 3) := by decide +kernel
theorem dM_laysPath_350 : decode prog_11_method_56_code 350 = .ok (.iload_n 3, 1) := by decide +kernel
theorem dM_laysPath_351 : decode prog_11_method_56_code 351 = .ok (.iconst 1, 1) := by decide +kernel
theorem dM_laysPath_352 : decode prog_11_method_56_code 352 = .ok (.isub, 1) := by decide +kernel
theorem dM_laysPath_353 : decode prog_11_method_56_code 353 = .ok (.iaload, 1) := by decide +kernel
theorem dM_laysPath_354 : decode prog_11_method_56_code 354 = .ok (.iload 4, 2) := by decide +kernel
theorem dM_laysPath_356 : decode prog_11_method_56_code 356 = .ok (.iload_n 3, 1) := by decide +kernel
theorem dM_laysPath_357 : decode prog_11_method_56_code 357 = .ok (.iload_n 1, 1) := by decide +kernel
theorem dM_laysPath_358 : decode prog_11_method_56_code 358 = .ok (.invokevirtual 270, 3) := by decide +kernel
theorem dM_laysPath_361 : decode prog_11_method_56_code 361 = .ok (.aload_n 0, 1) := by decide +kernel
theorem dM_laysPath_362 : decode prog_11_method_56_code 362 = .ok (.getfield 84, 3) := by decide +kernel
theorem dM_laysPath_365 : decode prog_11_method_56_code 365 = .ok (.bipush 24, 2) := by decide +kernel
theorem dM_laysPath_367 : decode prog_11_method_56_code 367 = .ok (.iload_n 3, 1) := by decide +kernel
theorem dM_laysPath_368 : decode prog_11_method_56_code 368 = .ok (.imul, 1) := by decide +kernel
theorem dM_laysPath_369 : decode prog_11_method_56_code 369 = .ok (.iload 4, 2) := by decide +kernel
theorem dM_laysPath_371 : decode prog_11_method_56_code 371 = .ok (.iadd, 1) := by decide +kernel
theorem dM_laysPath_372 : decode prog_11_method_56_code 372 = .ok (.iaload, 1) := by decide +kernel
theorem dM_laysPath_373 : decode prog_11_method_56_code 373 = .ok (.invokestatic 274, 3) := by decide +kernel
theorem dM_laysPath_376 : decode prog_11_method_56_code 376 = .ok (.iload_n 2, 1) := by decide +kernel
theorem dM_laysPath_377 : decode prog_11_method_56_code 377 = .ok (.if_icmp .eq 9, 3) := by decide +kernel
theorem dM_laysPath_380 : decode prog_11_method_56_code 380 = .ok (.iinc 4 1, 3) := by decide +kernel
theorem dM_laysPath_383 : decode prog_11_method_56_code 383 = .ok (.goto (-46), 3) := by decide +kernel
theorem dM_laysPath_386 : decode prog_11_method_56_code 386 = .ok (.aload_n 0, 1) := by decide +kernel
theorem dM_laysPath_387 : decode prog_11_method_56_code 387 = .ok (.getfield 90, 3) := by decide +kernel
theorem dM_laysPath_390 : decode prog_11_method_56_code 390 = .ok (.iload_n 3, 1) := by decide +kernel
theorem dM_laysPath_391 : decode prog_11_method_56_code 391 = .ok (.iload 4, 2) := by decide +kernel
theorem dM_laysPath_393 : decode prog_11_method_56_code 393 = .ok (.iastore, 1) := by decide +kernel
theorem dM_laysPath_394 : decode prog_11_method_56_code 394 = .ok (.aload_n 0, 1) := by decide +kernel
theorem dM_laysPath_395 : decode prog_11_method_56_code 395 = .ok (.getfield 84, 3) := by decide +kernel
theorem dM_laysPath_398 : decode prog_11_method_56_code 398 = .ok (.bipush 24, 2) := by decide +kernel
theorem dM_laysPath_400 : decode prog_11_method_56_code 400 = .ok (.iload_n 3, 1) := by decide +kernel
theorem dM_laysPath_401 : decode prog_11_method_56_code 401 = .ok (.imul, 1) := by decide +kernel
theorem dM_laysPath_402 : decode prog_11_method_56_code 402 = .ok (.iload 4, 2) := by decide +kernel
theorem dM_laysPath_404 : decode prog_11_method_56_code 404 = .ok (.iadd, 1) := by decide +kernel
theorem dM_laysPath_405 : decode prog_11_method_56_code 405 = .ok (.iaload, 1) := by decide +kernel
theorem dM_laysPath_406 : decode prog_11_method_56_code 406 = .ok (.aload_n 0, 1) := by decide +kernel
theorem dM_laysPath_407 : decode prog_11_method_56_code 407 = .ok (.getfield 78, 3) := by decide +kernel
theorem dM_laysPath_410 : decode prog_11_method_56_code 410 = .ok (.bipush 24, 2) := by decide +kernel
theorem dM_laysPath_412 : decode prog_11_method_56_code 412 = .ok (.iload_n 3, 1) := by decide +kernel
theorem dM_laysPath_413 : decode prog_11_method_56_code 413 = .ok (.imul, 1) := by decide +kernel
theorem dM_laysPath_414 : decode prog_11_method_56_code 414 = .ok (.iload 4, 2) := by decide +kernel
theorem dM_laysPath_416 : decode prog_11_method_56_code 416 = .ok (.iadd, 1) := by decide +kernel
theorem dM_laysPath_417 : decode prog_11_method_56_code 417 = .ok (.iaload, 1) := by decide +kernel
theorem dM_laysPath_418 : decode prog_11_method_56_code 418 = .ok (.isub, 1) := by decide +kernel
theorem dM_laysPath_419 : decode prog_11_method_56_code 419 = .ok (.istore_n 2, 1) := by decide +kernel
theorem dM_laysPath_420 : decode prog_11_method_56_code 420 = .ok (.iinc 3 1, 3) := by decide +kernel
theorem dM_laysPath_423 : decode prog_11_method_56_code 423 = .ok (.goto (-97), 3) := by decide +kernel
theorem dM_laysPath_426 : decode prog_11_method_56_code 426 = .ok (.iconst 1, 1) := by decide +kernel
theorem dM_laysPath_427 : decode prog_11_method_56_code 427 = .ok (.ireturn, 1) := by decide +kernel
set_option maxRecDepth 100000 in
set_option maxHeartbeats 4000000 in
theorem tM_laysPath_J426 {X : KC} {q : Int × KM} (hX : kOk X 2 prog_11_method_56_code 9 "KeyPathModel") (hR : kRet X (some .boolean) q) (σ : KM) {Θ : (Int × KM) → Prop} (hT : ∀ z, Θ (z) → z = q) : kJ X 426 [lq 10, none, none, none, none, none, none, none, none] [] σ (fM_laysPath_J426 σ) Θ := by
  refine k_iconst hX dM_laysPath_426 ?_
  exact k_zret hX hR hT dM_laysPath_427
set_option maxRecDepth 100000 in
set_option maxHeartbeats 4000000 in
theorem tM_laysPath_J386 {X : KC} {q : Int × KM} (hX : kOk X 2 prog_11_method_56_code 9 "KeyPathModel") (hR : kRet X (some .boolean) q) (x1 x3 x4 : Int) (σ : KM) {Θ : ((Int × Int × KM) ⊕ (Int × KM)) → Prop} (hT : ∀ z, Θ (.inr (z)) → z = q) (hb0 : ∀ s : Int × Int × KM, Θ (.inl s) → kW X 326 [lq 10, li x1, li s.1, li s.2.1, none, none, none, none, none] [] s.2.2) : kJ X 386 [lq 10, li x1, none, li x3, li x4, none, none, none, none] [] σ (fM_laysPath_J386 x1 x3 x4 σ) Θ := by
  refine k_aload_n hX dM_laysPath_386 rfl ?_
  refine gf_182 hX dM_laysPath_387 ?_
  refine k_iload_n hX dM_laysPath_390 rfl ?_
  refine k_iload hX dM_laysPath_391 rfl ?_
  refine k_iast hX (by decide) rfl dM_laysPath_393 rfl (fun τ1 => ?_)
  refine k_aload_n hX dM_laysPath_394 rfl ?_
  refine gf_183 hX dM_laysPath_395 ?_
  refine k_bipush hX dM_laysPath_398 (by decide) ?_
  refine k_iload_n hX dM_laysPath_400 rfl ?_
  refine k_imul hX dM_laysPath_401 ?_
  refine k_iload hX dM_laysPath_402 rfl ?_
  refine k_iadd hX dM_laysPath_404 ?_
  refine k_iald hX (by decide) rfl dM_laysPath_405 rfl (fun y2 => ?_)
  refine k_aload_n hX dM_laysPath_406 rfl ?_
  refine gf_176 hX dM_laysPath_407 ?_
  refine k_bipush hX dM_laysPath_410 (by decide) ?_
  refine k_iload_n hX dM_laysPath_412 rfl ?_
  refine k_imul hX dM_laysPath_413 ?_
  refine k_iload hX dM_laysPath_414 rfl ?_
  refine k_iadd hX dM_laysPath_416 ?_
  refine k_iald hX (by decide) rfl dM_laysPath_417 rfl (fun y3 => ?_)
  refine k_isub hX dM_laysPath_418 ?_
  refine k_istoreL_n (Lf := fun y4 => [lq 10, li x1, li y4, li x3, li x4, none, none, none, none]) hX dM_laysPath_419 rfl (by decide) (fun _ => rfl) (fun y4 => ?_)
  refine k_iincL (Lf := fun y5 => [lq 10, li x1, li y4, li y5, li x4, none, none, none, none]) hX dM_laysPath_420 rfl (by decide) rfl (fun _ => rfl) (fun y5 => ?_)
  refine k_goto (tgt := 326) hX dM_laysPath_423 (by decide) ?_
  refine k_less [true, true, true, true, false, true, true, true, true] (L' := [lq 10, li x1, li y4, li y5, none, none, none, none, none]) rfl ?_
  exact k_back (hb0 (y4, y5, τ1))
set_option maxRecDepth 100000 in
set_option maxHeartbeats 4000000 in
theorem tM_laysPath_J361 {X : KC} {q : Int × KM} (hX : kOk X 2 prog_11_method_56_code 9 "KeyPathModel") (hR : kRet X (some .boolean) q) (x1 x2 x3 x4 t0 : Int) (σ : KM) {Θ : ((Int × KM) ⊕ ((Int × Int × KM) ⊕ (Int × KM))) → Prop} (hT : ∀ z, Θ (.inr (.inr (z))) → z = q) (hb0 : ∀ s : Int × KM, Θ (.inl s) → kW X 337 [lq 10, li x1, li x2, li x3, li s.1, none, none, none, none] [] s.2) (hb1 : ∀ s : Int × Int × KM, Θ (.inr (.inl s)) → kW X 326 [lq 10, li x1, li s.1, li s.2.1, none, none, none, none, none] [] s.2.2) : kJ X 361 [lq 10, li x1, li x2, li x3, li x4, none, none, none, none] [ki t0] σ (fM_laysPath_J361 x1 x2 x3 x4 t0 σ) Θ := by
  refine k_aload_n hX dM_laysPath_361 rfl ?_
  refine gf_183 hX dM_laysPath_362 ?_
  refine k_bipush hX dM_laysPath_365 (by decide) ?_
  refine k_iload_n hX dM_laysPath_367 rfl ?_
  refine k_imul hX dM_laysPath_368 ?_
  refine k_iload hX dM_laysPath_369 rfl ?_
  refine k_iadd hX dM_laysPath_371 ?_
  refine k_iald hX (by decide) rfl dM_laysPath_372 rfl (fun y1 => ?_)
  refine cl_134 hX (by decide) (Nat.le_of_ble_eq_true rfl) dM_laysPath_373 (fun r3 τ2 => ?_)
  refine k_iload_n hX dM_laysPath_376 rfl ?_
  refine k_icmp_eq (tgt := 386) hX dM_laysPath_377 (by decide) ?_ ?_
  · refine k_exit ?_
    refine k_less [true, true, false, true, true, true, true, true, true] (L' := [lq 10, li x1, none, li x3, li x4, none, none, none, none]) rfl ?_
    exact tM_laysPath_J386 hX hR x1 x3 x4 τ2 hT hb1
  · refine k_iincL (Lf := fun y4 => [lq 10, li x1, li x2, li x3, li y4, none, none, none, none]) hX dM_laysPath_380 rfl (by decide) rfl (fun _ => rfl) (fun y4 => ?_)
    refine k_goto (tgt := 337) hX dM_laysPath_383 (by decide) ?_
    exact k_back (hb0 (y4, τ2))
set_option maxRecDepth 100000 in
set_option maxHeartbeats 4000000 in
theorem tM_laysPath_B337 {X : KC} {q : Int × KM} (hX : kOk X 2 prog_11_method_56_code 9 "KeyPathModel") (hR : kRet X (some .boolean) q) (x1 x2 x3 x4 : Int) (σ : KM) {Θ : ((Int × KM) ⊕ ((Int × Int × KM) ⊕ (Int × KM))) → Prop} (hT : ∀ z, Θ (.inr (.inr (z))) → z = q) (hb0 : ∀ s : Int × KM, Θ (.inl s) → kW X 337 [lq 10, li x1, li x2, li x3, li s.1, none, none, none, none] [] s.2) (hb1 : ∀ s : Int × Int × KM, Θ (.inr (.inl s)) → kW X 326 [lq 10, li x1, li s.1, li s.2.1, none, none, none, none, none] [] s.2.2) : kJ X 337 [lq 10, li x1, li x2, li x3, li x4, none, none, none, none] [] σ (fM_laysPath_B337 x1 x2 x3 x4 σ) Θ := by
  refine k_iload_n hX dM_laysPath_337 rfl ?_
  refine k_if_ne (tgt := 345) hX dM_laysPath_338 (by decide) ?_ ?_
  · refine k_aload_n hX dM_laysPath_345 rfl ?_
    refine k_aload_n hX dM_laysPath_346 rfl ?_
    refine gf_182 hX dM_laysPath_347 ?_
    refine k_iload_n hX dM_laysPath_350 rfl ?_
    refine k_iconst hX dM_laysPath_351 ?_
    refine k_isub hX dM_laysPath_352 ?_
    refine k_iald hX (by decide) rfl dM_laysPath_353 rfl (fun y1 => ?_)
    refine k_iload hX dM_laysPath_354 rfl ?_
    refine k_iload_n hX dM_laysPath_356 rfl ?_
    refine k_iload_n hX dM_laysPath_357 rfl ?_
    refine cl_133 hX (by decide) (Nat.le_of_ble_eq_true rfl) dM_laysPath_358 (fun r3 τ2 => ?_)
    exact tM_laysPath_J361 hX hR x1 x2 x3 x4 r3 τ2 hT hb0 hb1
  · refine k_iconst hX dM_laysPath_341 ?_
    refine k_goto (tgt := 361) hX dM_laysPath_342 (by decide) ?_
    exact tM_laysPath_J361 hX hR x1 x2 x3 x4 0 σ hT hb0 hb1
set_option maxRecDepth 100000 in
set_option maxHeartbeats 4000000 in
theorem tM_laysPath_L337 {X : KC} {q : Int × KM} (hX : kOk X 2 prog_11_method_56_code 9 "KeyPathModel") (hR : kRet X (some .boolean) q) (x1 x2 x3 x4 : Int) (σ : KM) {Θ : ((Int × Int × KM) ⊕ (Int × KM)) → Prop} (hT : ∀ z, Θ (.inr (z)) → z = q) (hb0 : ∀ s : Int × Int × KM, Θ (.inl s) → kW X 326 [lq 10, li x1, li s.1, li s.2.1, none, none, none, none, none] [] s.2.2) : kJ X 337 [lq 10, li x1, li x2, li x3, li x4, none, none, none, none] [] σ (fM_laysPath_L337 x1 x2 x3 x4 σ) Θ :=
  k_iter (f := fun s => fM_laysPath_B337 x1 x2 x3 s.1 s.2) (Lf := fun s => [lq 10, li x1, li x2, li x3, li s.1, none, none, none, none]) (mf := fun s => s.2) (Θ := Θ) (fun s => tM_laysPath_B337 hX hR x1 x2 x3 s.1 s.2 hT (fun _ h9 => h9) hb0) kF (x4, σ)
set_option maxRecDepth 100000 in
set_option maxHeartbeats 4000000 in
theorem tM_laysPath_B326 {X : KC} {q : Int × KM} (hX : kOk X 2 prog_11_method_56_code 9 "KeyPathModel") (hR : kRet X (some .boolean) q) (x1 x2 x3 : Int) (σ : KM) {Θ : ((Int × Int × KM) ⊕ (Int × KM)) → Prop} (hT : ∀ z, Θ (.inr (z)) → z = q) (hb0 : ∀ s : Int × Int × KM, Θ (.inl s) → kW X 326 [lq 10, li x1, li s.1, li s.2.1, none, none, none, none, none] [] s.2.2) : kJ X 326 [lq 10, li x1, li x2, li x3, none, none, none, none, none] [] σ (fM_laysPath_B326 x1 x2 x3 σ) Θ := by
  refine k_iload_n hX dM_laysPath_326 rfl ?_
  refine k_aload_n hX dM_laysPath_327 rfl ?_
  refine gf_174 hX dM_laysPath_328 ?_
  refine k_icmp_ge (tgt := 426) hX dM_laysPath_331 (by decide) ?_ ?_
  · refine k_exit ?_
    refine k_less [true, false, false, false, true, true, true, true, true] (L' := [lq 10, none, none, none, none, none, none, none, none]) rfl ?_
    exact tM_laysPath_J426 hX hR σ hT
  · refine k_iconst hX dM_laysPath_334 ?_
    refine k_istore (L' := [lq 10, li x1, li x2, li x3, li 0, none, none, none, none]) hX dM_laysPath_335 rfl (by decide) rfl ?_
    exact tM_laysPath_L337 hX hR x1 x2 x3 0 σ hT hb0
set_option maxRecDepth 100000 in
set_option maxHeartbeats 4000000 in
theorem tM_laysPath_L326 {X : KC} {q : Int × KM} (hX : kOk X 2 prog_11_method_56_code 9 "KeyPathModel") (hR : kRet X (some .boolean) q) (x1 x2 x3 : Int) (σ : KM) {Θ : (Int × KM) → Prop} (hT : ∀ z, Θ (z) → z = q) : kJ X 326 [lq 10, li x1, li x2, li x3, none, none, none, none, none] [] σ (fM_laysPath_L326 x1 x2 x3 σ) Θ :=
  k_iter (f := fun s => fM_laysPath_B326 x1 s.1 s.2.1 s.2.2) (Lf := fun s => [lq 10, li x1, li s.1, li s.2.1, none, none, none, none, none]) (mf := fun s => s.2.2) (Θ := Θ) (fun s => tM_laysPath_B326 hX hR x1 s.1 s.2.1 s.2.2 hT (fun _ h9 => h9)) kF (x2, x3, σ)
set_option maxRecDepth 100000 in
set_option maxHeartbeats 4000000 in
theorem tM_laysPath_J308 {X : KC} {q : Int × KM} (hX : kOk X 2 prog_11_method_56_code 9 "KeyPathModel") (hR : kRet X (some .boolean) q) (x1 : Int) (σ : KM) {Θ : (Int × KM) → Prop} (hT : ∀ z, Θ (z) → z = q) : kJ X 308 [lq 10, li x1, none, none, none, none, none, none, none] [] σ (fM_laysPath_J308 x1 σ) Θ := by
  refine k_aload_n hX dM_laysPath_308 rfl ?_
  refine gf_181 hX dM_laysPath_309 ?_
  refine k_ldc (v := 1000000000) (w := 0) hX dM_laysPath_312 tw_1309 ?_
  refine k_icmp_lt (tgt := 319) hX dM_laysPath_314 (by decide) ?_ ?_
  · refine k_aload_n hX dM_laysPath_319 rfl ?_
    refine gf_181 hX dM_laysPath_320 ?_
    refine k_istoreL_n (Lf := fun y1 => [lq 10, li x1, li y1, none, none, none, none, none, none]) hX dM_laysPath_323 rfl (by decide) (fun _ => rfl) (fun y1 => ?_)
    refine k_iconst hX dM_laysPath_324 ?_
    refine k_istore_n (L' := [lq 10, li x1, li y1, li 0, none, none, none, none, none]) hX dM_laysPath_325 rfl (by decide) rfl ?_
    exact tM_laysPath_L326 hX hR x1 y1 0 σ hT
  · refine k_iconst hX dM_laysPath_317 ?_
    exact k_zret hX hR hT dM_laysPath_318
set_option maxRecDepth 100000 in
set_option maxHeartbeats 4000000 in
theorem tM_laysPath_J299 {X : KC} {q : Int × KM} (hX : kOk X 2 prog_11_method_56_code 9 "KeyPathModel") (hR : kRet X (some .boolean) q) (x1 x2 t0 : Int) (σ : KM) {Θ : ((Int × KM) ⊕ (Int × KM)) → Prop} (hT : ∀ z, Θ (.inr (z)) → z = q) (hb0 : ∀ s : Int × KM, Θ (.inl s) → kW X 259 [lq 10, li x1, li s.1, none, none, none, none, none, none] [] s.2) : kJ X 299 [lq 10, li x1, li x2, none, none, none, none, none, none] [ki t0, kr 10] σ (fM_laysPath_J299 x1 x2 t0 σ) Θ := by
  refine gp_180 hX dM_laysPath_299 (fun τ1 => ?_)
  refine k_iincL (Lf := fun y2 => [lq 10, li x1, li y2, none, none, none, none, none, none]) hX dM_laysPath_302 rfl (by decide) rfl (fun _ => rfl) (fun y2 => ?_)
  refine k_goto (tgt := 259) hX dM_laysPath_305 (by decide) ?_
  exact k_back (hb0 (y2, τ1))
set_option maxRecDepth 100000 in
set_option maxHeartbeats 4000000 in
theorem tM_laysPath_B259 {X : KC} {q : Int × KM} (hX : kOk X 2 prog_11_method_56_code 9 "KeyPathModel") (hR : kRet X (some .boolean) q) (x1 x2 : Int) (σ : KM) {Θ : ((Int × KM) ⊕ (Int × KM)) → Prop} (hT : ∀ z, Θ (.inr (z)) → z = q) (hb0 : ∀ s : Int × KM, Θ (.inl s) → kW X 259 [lq 10, li x1, li s.1, none, none, none, none, none, none] [] s.2) : kJ X 259 [lq 10, li x1, li x2, none, none, none, none, none, none] [] σ (fM_laysPath_B259 x1 x2 σ) Θ := by
  refine k_iload_n hX dM_laysPath_259 rfl ?_
  refine k_bipush hX dM_laysPath_260 (by decide) ?_
  refine k_icmp_ge (tgt := 308) hX dM_laysPath_262 (by decide) ?_ ?_
  · refine k_exit ?_
    refine k_less [true, true, false, true, true, true, true, true, true] (L' := [lq 10, li x1, none, none, none, none, none, none, none]) rfl ?_
    exact tM_laysPath_J308 hX hR x1 σ hT
  · refine k_aload_n hX dM_laysPath_265 rfl ?_
    refine gf_174 hX dM_laysPath_266 ?_
    refine k_if_le (tgt := 308) hX dM_laysPath_269 (by decide) ?_ ?_
    · refine k_exit ?_
      refine k_less [true, true, false, true, true, true, true, true, true] (L' := [lq 10, li x1, none, none, none, none, none, none, none]) rfl ?_
      exact tM_laysPath_J308 hX hR x1 σ hT
    · refine k_aload_n hX dM_laysPath_272 rfl ?_
      refine k_aload_n hX dM_laysPath_273 rfl ?_
      refine gf_183 hX dM_laysPath_274 ?_
      refine k_iload_n hX dM_laysPath_277 rfl ?_
      refine k_iald hX (by decide) rfl dM_laysPath_278 rfl (fun y1 => ?_)
      refine k_aload_n hX dM_laysPath_279 rfl ?_
      refine gf_181 hX dM_laysPath_280 ?_
      refine k_icmp_ge (tgt := 295) hX dM_laysPath_283 (by decide) ?_ ?_
      · refine k_aload_n hX dM_laysPath_295 rfl ?_
        refine gf_181 hX dM_laysPath_296 ?_
        exact tM_laysPath_J299 hX hR x1 x2 (σ 10 38) σ hT hb0
      · refine k_aload_n hX dM_laysPath_286 rfl ?_
        refine gf_183 hX dM_laysPath_287 ?_
        refine k_iload_n hX dM_laysPath_290 rfl ?_
        refine k_iald hX (by decide) rfl dM_laysPath_291 rfl (fun y2 => ?_)
        refine k_goto (tgt := 299) hX dM_laysPath_292 (by decide) ?_
        exact tM_laysPath_J299 hX hR x1 x2 y2 σ hT hb0
set_option maxRecDepth 100000 in
set_option maxHeartbeats 4000000 in
theorem tM_laysPath_L259 {X : KC} {q : Int × KM} (hX : kOk X 2 prog_11_method_56_code 9 "KeyPathModel") (hR : kRet X (some .boolean) q) (x1 x2 : Int) (σ : KM) {Θ : (Int × KM) → Prop} (hT : ∀ z, Θ (z) → z = q) : kJ X 259 [lq 10, li x1, li x2, none, none, none, none, none, none] [] σ (fM_laysPath_L259 x1 x2 σ) Θ :=
  k_iter (f := fun s => fM_laysPath_B259 x1 s.1 s.2) (Lf := fun s => [lq 10, li x1, li s.1, none, none, none, none, none, none]) (mf := fun s => s.2) (Θ := Θ) (fun s => tM_laysPath_B259 hX hR x1 s.1 s.2 hT (fun _ h9 => h9)) kF (x2, σ)
set_option maxRecDepth 100000 in
set_option maxHeartbeats 4000000 in
theorem tM_laysPath_J254 {X : KC} {q : Int × KM} (hX : kOk X 2 prog_11_method_56_code 9 "KeyPathModel") (hR : kRet X (some .boolean) q) (x1 t0 : Int) (σ : KM) {Θ : (Int × KM) → Prop} (hT : ∀ z, Θ (z) → z = q) : kJ X 254 [lq 10, li x1, none, none, none, none, none, none, none] [ki t0, kr 10] σ (fM_laysPath_J254 x1 t0 σ) Θ := by
  refine gp_180 hX dM_laysPath_254 (fun τ1 => ?_)
  refine k_iconst hX dM_laysPath_257 ?_
  refine k_istore_n (L' := [lq 10, li x1, li 0, none, none, none, none, none, none]) hX dM_laysPath_258 rfl (by decide) rfl ?_
  exact tM_laysPath_L259 hX hR x1 0 τ1 hT
set_option maxRecDepth 100000 in
set_option maxHeartbeats 4000000 in
theorem tM_laysPath_J240 {X : KC} {q : Int × KM} (hX : kOk X 2 prog_11_method_56_code 9 "KeyPathModel") (hR : kRet X (some .boolean) q) (x1 : Int) (σ : KM) {Θ : (Int × KM) → Prop} (hT : ∀ z, Θ (z) → z = q) : kJ X 240 [lq 10, li x1, none, none, none, none, none, none, none] [] σ (fM_laysPath_J240 x1 σ) Θ := by
  refine k_aload_n hX dM_laysPath_240 rfl ?_
  refine k_aload_n hX dM_laysPath_241 rfl ?_
  refine gf_174 hX dM_laysPath_242 ?_
  refine k_if_ne (tgt := 252) hX dM_laysPath_245 (by decide) ?_ ?_
  · refine k_ldc (v := 1000000000) (w := 0) hX dM_laysPath_252 tw_1309 ?_
    exact tM_laysPath_J254 hX hR x1 1000000000 σ hT
  · refine k_iconst hX dM_laysPath_248 ?_
    refine k_goto (tgt := 254) hX dM_laysPath_249 (by decide) ?_
    exact tM_laysPath_J254 hX hR x1 0 σ hT
set_option maxRecDepth 100000 in
set_option maxHeartbeats 4000000 in
theorem tM_laysPath_J234 {X : KC} {q : Int × KM} (hX : kOk X 2 prog_11_method_56_code 9 "KeyPathModel") (hR : kRet X (some .boolean) q) (x1 x2 : Int) (σ : KM) {Θ : ((Int × KM) ⊕ (Int × KM)) → Prop} (hT : ∀ z, Θ (.inr (z)) → z = q) (hb0 : ∀ s : Int × KM, Θ (.inl s) → kW X 7 [lq 10, li x1, li s.1, none, none, none, none, none, none] [] s.2) : kJ X 234 [lq 10, li x1, li x2, none, none, none, none, none, none] [] σ (fM_laysPath_J234 x1 x2 σ) Θ := by
  refine k_iincL (Lf := fun y1 => [lq 10, li x1, li y1, none, none, none, none, none, none]) hX dM_laysPath_234 rfl (by decide) rfl (fun _ => rfl) (fun y1 => ?_)
  refine k_goto (tgt := 7) hX dM_laysPath_237 (by decide) ?_
  exact k_back (hb0 (y1, σ))
set_option maxRecDepth 100000 in
set_option maxHeartbeats 4000000 in
theorem tM_laysPath_J200 {X : KC} {q : Int × KM} (hX : kOk X 2 prog_11_method_56_code 9 "KeyPathModel") (hR : kRet X (some .boolean) q) (x1 x2 x3 x4 x5 x6 : Int) (σ : KM) {Θ : ((Int × KM) ⊕ ((Int × KM) ⊕ (Int × KM))) → Prop} (hT : ∀ z, Θ (.inr (.inr (z))) → z = q) (hb0 : ∀ s : Int × KM, Θ (.inl s) → kW X 13 [lq 10, li x1, li x2, li s.1, none, none, none, none, none] [] s.2) (hb1 : ∀ s : Int × KM, Θ (.inr (.inl s)) → kW X 7 [lq 10, li x1, li s.1, none, none, none, none, none, none] [] s.2) : kJ X 200 [lq 10, li x1, li x2, li x3, li x4, li x5, li x6, none, none] [] σ (fM_laysPath_J200 x1 x2 x3 x4 x5 x6 σ) Θ := by
  refine k_aload_n hX dM_laysPath_200 rfl ?_
  refine gf_183 hX dM_laysPath_201 ?_
  refine k_iload hX dM_laysPath_204 rfl ?_
  refine k_aload_n hX dM_laysPath_206 rfl ?_
  refine gf_176 hX dM_laysPath_207 ?_
  refine k_iload hX dM_laysPath_210 rfl ?_
  refine k_iald hX (by decide) rfl dM_laysPath_212 rfl (fun y1 => ?_)
  refine k_iload hX dM_laysPath_213 rfl ?_
  refine cl_134 hX (by decide) (Nat.le_of_ble_eq_true rfl) dM_laysPath_215 (fun r3 τ2 => ?_)
  refine k_iast hX (by decide) rfl dM_laysPath_218 rfl (fun τ4 => ?_)
  refine k_aload_n hX dM_laysPath_219 rfl ?_
  refine gf_184 hX dM_laysPath_220 ?_
  refine k_iload hX dM_laysPath_223 rfl ?_
  refine k_iload hX dM_laysPath_225 rfl ?_
  refine k_iast hX (by decide) rfl dM_laysPath_227 rfl (fun τ5 => ?_)
  refine k_iincL (Lf := fun y6 => [lq 10, li x1, li x2, li y6, li x4, li x5, li x6, none, none]) hX dM_laysPath_228 rfl (by decide) rfl (fun _ => rfl) (fun y6 => ?_)
  refine k_goto (tgt := 13) hX dM_laysPath_231 (by decide) ?_
  refine k_less [true, true, true, true, false, false, false, true, true] (L' := [lq 10, li x1, li x2, li y6, none, none, none, none, none]) rfl ?_
  exact k_back (hb0 (y6, τ5))
set_option maxRecDepth 100000 in
set_option maxHeartbeats 4000000 in
theorem tM_laysPath_J194 {X : KC} {q : Int × KM} (hX : kOk X 2 prog_11_method_56_code 9 "KeyPathModel") (hR : kRet X (some .boolean) q) (x1 x2 x3 x4 x5 x6 x7 : Int) (σ : KM) {Θ : ((Int × Int × Int × KM) ⊕ ((Int × KM) ⊕ ((Int × KM) ⊕ (Int × KM)))) → Prop} (hT : ∀ z, Θ (.inr (.inr (.inr (z)))) → z = q) (hb0 : ∀ s : Int × Int × Int × KM, Θ (.inl s) → kW X 65 [lq 10, li x1, li x2, li x3, li x4, li s.1, li s.2.1, li s.2.2.1, none] [] s.2.2.2) (hb1 : ∀ s : Int × KM, Θ (.inr (.inl s)) → kW X 13 [lq 10, li x1, li x2, li s.1, none, none, none, none, none] [] s.2) (hb2 : ∀ s : Int × KM, Θ (.inr (.inr (.inl s))) → kW X 7 [lq 10, li x1, li s.1, none, none, none, none, none, none] [] s.2) : kJ X 194 [lq 10, li x1, li x2, li x3, li x4, li x5, li x6, li x7, none] [] σ (fM_laysPath_J194 x1 x2 x3 x4 x5 x6 x7 σ) Θ := by
  refine k_iincL (Lf := fun y1 => [lq 10, li x1, li x2, li x3, li x4, li x5, li x6, li y1, none]) hX dM_laysPath_194 rfl (by decide) rfl (fun _ => rfl) (fun y1 => ?_)
  refine k_goto (tgt := 65) hX dM_laysPath_197 (by decide) ?_
  exact k_back (hb0 (x5, x6, y1, σ))
set_option maxRecDepth 100000 in
set_option maxHeartbeats 4000000 in
theorem tM_laysPath_J188 {X : KC} {q : Int × KM} (hX : kOk X 2 prog_11_method_56_code 9 "KeyPathModel") (hR : kRet X (some .boolean) q) (x1 x2 x3 x4 x7 x8 t0 : Int) (σ : KM) {Θ : ((Int × Int × Int × KM) ⊕ ((Int × KM) ⊕ ((Int × KM) ⊕ (Int × KM)))) → Prop} (hT : ∀ z, Θ (.inr (.inr (.inr (z)))) → z = q) (hb0 : ∀ s : Int × Int × Int × KM, Θ (.inl s) → kW X 65 [lq 10, li x1, li x2, li x3, li x4, li s.1, li s.2.1, li s.2.2.1, none] [] s.2.2.2) (hb1 : ∀ s : Int × KM, Θ (.inr (.inl s)) → kW X 13 [lq 10, li x1, li x2, li s.1, none, none, none, none, none] [] s.2) (hb2 : ∀ s : Int × KM, Θ (.inr (.inr (.inl s))) → kW X 7 [lq 10, li x1, li s.1, none, none, none, none, none, none] [] s.2) : kJ X 188 [lq 10, li x1, li x2, li x3, li x4, none, none, li x7, li x8] [ki t0] σ (fM_laysPath_J188 x1 x2 x3 x4 x7 x8 t0 σ) Θ := by
  refine k_istore (L' := [lq 10, li x1, li x2, li x3, li x4, none, li t0, li x7, li x8]) hX dM_laysPath_188 rfl (by decide) rfl ?_
  refine k_iload hX dM_laysPath_190 rfl ?_
  refine k_istore (L' := [lq 10, li x1, li x2, li x3, li x4, li x8, li t0, li x7, li x8]) hX dM_laysPath_192 rfl (by decide) rfl ?_
  refine k_less [true, true, true, true, true, true, true, true, false] (L' := [lq 10, li x1, li x2, li x3, li x4, li x8, li t0, li x7, none]) rfl ?_
  exact tM_laysPath_J194 hX hR x1 x2 x3 x4 x8 t0 x7 σ hT hb0 hb1 hb2
set_option maxRecDepth 100000 in
set_option maxHeartbeats 4000000 in
theorem tM_laysPath_J170 {X : KC} {q : Int × KM} (hX : kOk X 2 prog_11_method_56_code 9 "KeyPathModel") (hR : kRet X (some .boolean) q) (x1 x2 x3 x4 x7 x8 t0 : Int) (σ : KM) {Θ : ((Int × Int × Int × KM) ⊕ ((Int × KM) ⊕ ((Int × KM) ⊕ (Int × KM)))) → Prop} (hT : ∀ z, Θ (.inr (.inr (.inr (z)))) → z = q) (hb0 : ∀ s : Int × Int × Int × KM, Θ (.inl s) → kW X 65 [lq 10, li x1, li x2, li x3, li x4, li s.1, li s.2.1, li s.2.2.1, none] [] s.2.2.2) (hb1 : ∀ s : Int × KM, Θ (.inr (.inl s)) → kW X 13 [lq 10, li x1, li x2, li s.1, none, none, none, none, none] [] s.2) (hb2 : ∀ s : Int × KM, Θ (.inr (.inr (.inl s))) → kW X 7 [lq 10, li x1, li s.1, none, none, none, none, none, none] [] s.2) : kJ X 170 [lq 10, li x1, li x2, li x3, li x4, none, none, li x7, li x8] [ki t0] σ (fM_laysPath_J170 x1 x2 x3 x4 x7 x8 t0 σ) Θ := by
  refine k_istore (L' := [lq 10, li x1, li x2, li x3, li x4, none, li t0, li x7, li x8]) hX dM_laysPath_170 rfl (by decide) rfl ?_
  refine k_iload hX dM_laysPath_172 rfl ?_
  refine k_ldcw (v := 1000000) (w := 0) hX dM_laysPath_174 tw_1348 ?_
  refine k_icmp_le (tgt := 186) hX dM_laysPath_177 (by decide) ?_ ?_
  · refine k_iload hX dM_laysPath_186 rfl ?_
    refine k_less [true, true, true, true, true, true, false, true, true] (L' := [lq 10, li x1, li x2, li x3, li x4, none, none, li x7, li x8]) rfl ?_
    exact tM_laysPath_J188 hX hR x1 x2 x3 x4 x7 x8 t0 σ hT hb0 hb1 hb2
  · refine k_ldcw (v := 1000000) (w := 0) hX dM_laysPath_180 tw_1348 ?_
    refine k_goto (tgt := 188) hX dM_laysPath_183 (by decide) ?_
    refine k_less [true, true, true, true, true, true, false, true, true] (L' := [lq 10, li x1, li x2, li x3, li x4, none, none, li x7, li x8]) rfl ?_
    exact tM_laysPath_J188 hX hR x1 x2 x3 x4 x7 x8 1000000 σ hT hb0 hb1 hb2
set_option maxRecDepth 100000 in
set_option maxHeartbeats 4000000 in
theorem tM_laysPath_B65 {X : KC} {q : Int × KM} (hX : kOk X 2 prog_11_method_56_code 9 "KeyPathModel") (hR : kRet X (some .boolean) q) (x1 x2 x3 x4 x5 x6 x7 : Int) (σ : KM) {Θ : ((Int × Int × Int × KM) ⊕ ((Int × KM) ⊕ ((Int × KM) ⊕ (Int × KM)))) → Prop} (hT : ∀ z, Θ (.inr (.inr (.inr (z)))) → z = q) (hb0 : ∀ s : Int × Int × Int × KM, Θ (.inl s) → kW X 65 [lq 10, li x1, li x2, li x3, li x4, li s.1, li s.2.1, li s.2.2.1, none] [] s.2.2.2) (hb1 : ∀ s : Int × KM, Θ (.inr (.inl s)) → kW X 13 [lq 10, li x1, li x2, li s.1, none, none, none, none, none] [] s.2) (hb2 : ∀ s : Int × KM, Θ (.inr (.inr (.inl s))) → kW X 7 [lq 10, li x1, li s.1, none, none, none, none, none, none] [] s.2) : kJ X 65 [lq 10, li x1, li x2, li x3, li x4, li x5, li x6, li x7, none] [] σ (fM_laysPath_B65 x1 x2 x3 x4 x5 x6 x7 σ) Θ := by
  refine k_iload hX dM_laysPath_65 rfl ?_
  refine k_bipush hX dM_laysPath_67 (by decide) ?_
  refine k_icmp_ge (tgt := 200) hX dM_laysPath_69 (by decide) ?_ ?_
  · refine k_exit ?_
    refine k_less [true, true, true, true, true, true, true, false, true] (L' := [lq 10, li x1, li x2, li x3, li x4, li x5, li x6, none, none]) rfl ?_
    exact tM_laysPath_J200 hX hR x1 x2 x3 x4 x5 x6 σ hT hb1 hb2
  · refine k_iload_n hX dM_laysPath_72 rfl ?_
    refine k_iconst hX dM_laysPath_73 ?_
    refine k_iadd hX dM_laysPath_74 ?_
    refine k_aload_n hX dM_laysPath_75 rfl ?_
    refine gf_174 hX dM_laysPath_76 ?_
    refine k_icmp_ge (tgt := 200) hX dM_laysPath_79 (by decide) ?_ ?_
    · refine k_exit ?_
      refine k_less [true, true, true, true, true, true, true, false, true] (L' := [lq 10, li x1, li x2, li x3, li x4, li x5, li x6, none, none]) rfl ?_
      exact tM_laysPath_J200 hX hR x1 x2 x3 x4 x5 x6 σ hT hb1 hb2
    · refine k_aload_n hX dM_laysPath_82 rfl ?_
      refine k_iload_n hX dM_laysPath_83 rfl ?_
      refine k_iload hX dM_laysPath_84 rfl ?_
      refine k_iload_n hX dM_laysPath_86 rfl ?_
      refine k_iconst hX dM_laysPath_87 ?_
      refine k_iadd hX dM_laysPath_88 ?_
      refine k_iload_n hX dM_laysPath_89 rfl ?_
      refine cl_133 hX (by decide) (Nat.le_of_ble_eq_true rfl) dM_laysPath_90 (fun r2 τ1 => ?_)
      refine k_aload_n hX dM_laysPath_93 rfl ?_
      refine gf_183 hX dM_laysPath_94 ?_
      refine k_bipush hX dM_laysPath_97 (by decide) ?_
      refine k_iload_n hX dM_laysPath_99 rfl ?_
      refine k_iconst hX dM_laysPath_100 ?_
      refine k_iadd hX dM_laysPath_101 ?_
      refine k_imul hX dM_laysPath_102 ?_
      refine k_iload hX dM_laysPath_103 rfl ?_
      refine k_iadd hX dM_laysPath_105 ?_
      refine k_iald hX (by decide) rfl dM_laysPath_106 rfl (fun y3 => ?_)
      refine cl_134 hX (by decide) (Nat.le_of_ble_eq_true rfl) dM_laysPath_107 (fun r5 τ4 => ?_)
      refine k_istore (L' := [lq 10, li x1, li x2, li x3, li x4, li x5, li x6, li x7, li r5]) hX dM_laysPath_110 rfl (by decide) rfl ?_
      refine k_iload hX dM_laysPath_112 rfl ?_
      refine k_ldc (v := 1000000000) (w := 0) hX dM_laysPath_114 tw_1309 ?_
      refine k_icmp_ge (tgt := 194) hX dM_laysPath_116 (by decide) ?_ ?_
      · refine k_less [true, true, true, true, true, true, true, true, false] (L' := [lq 10, li x1, li x2, li x3, li x4, li x5, li x6, li x7, none]) rfl ?_
        exact tM_laysPath_J194 hX hR x1 x2 x3 x4 x5 x6 x7 τ4 hT hb0 hb1 hb2
      · refine k_iload hX dM_laysPath_119 rfl ?_
        refine k_iload hX dM_laysPath_121 rfl ?_
        refine k_icmp_le (tgt := 129) hX dM_laysPath_123 (by decide) ?_ ?_
        · refine k_iload hX dM_laysPath_129 rfl ?_
          refine k_iload hX dM_laysPath_131 rfl ?_
          refine k_icmp_ge (tgt := 153) hX dM_laysPath_133 (by decide) ?_ ?_
          · refine k_iload hX dM_laysPath_153 rfl ?_
            refine k_aload_n hX dM_laysPath_155 rfl ?_
            refine gf_184 hX dM_laysPath_156 ?_
            refine k_bipush hX dM_laysPath_159 (by decide) ?_
            refine k_iload_n hX dM_laysPath_161 rfl ?_
            refine k_iconst hX dM_laysPath_162 ?_
            refine k_iadd hX dM_laysPath_163 ?_
            refine k_imul hX dM_laysPath_164 ?_
            refine k_iload hX dM_laysPath_165 rfl ?_
            refine k_iadd hX dM_laysPath_167 ?_
            refine k_iald hX (by decide) rfl dM_laysPath_168 rfl (fun y6 => ?_)
            refine k_iadd hX dM_laysPath_169 ?_
            refine k_less [true, true, true, true, true, false, false, true, true] (L' := [lq 10, li x1, li x2, li x3, li x4, none, none, li x7, li r5]) rfl ?_
            exact tM_laysPath_J170 hX hR x1 x2 x3 x4 x7 r5 (x6 + y6) τ4 hT hb0 hb1 hb2
          · refine k_aload_n hX dM_laysPath_136 rfl ?_
            refine gf_184 hX dM_laysPath_137 ?_
            refine k_bipush hX dM_laysPath_140 (by decide) ?_
            refine k_iload_n hX dM_laysPath_142 rfl ?_
            refine k_iconst hX dM_laysPath_143 ?_
            refine k_iadd hX dM_laysPath_144 ?_
            refine k_imul hX dM_laysPath_145 ?_
            refine k_iload hX dM_laysPath_146 rfl ?_
            refine k_iadd hX dM_laysPath_148 ?_
            refine k_iald hX (by decide) rfl dM_laysPath_149 rfl (fun y7 => ?_)
            refine k_goto (tgt := 170) hX dM_laysPath_150 (by decide) ?_
            refine k_less [true, true, true, true, true, false, false, true, true] (L' := [lq 10, li x1, li x2, li x3, li x4, none, none, li x7, li r5]) rfl ?_
            exact tM_laysPath_J170 hX hR x1 x2 x3 x4 x7 r5 y7 τ4 hT hb0 hb1 hb2
        · refine k_goto (tgt := 194) hX dM_laysPath_126 (by decide) ?_
          refine k_less [true, true, true, true, true, true, true, true, false] (L' := [lq 10, li x1, li x2, li x3, li x4, li x5, li x6, li x7, none]) rfl ?_
          exact tM_laysPath_J194 hX hR x1 x2 x3 x4 x5 x6 x7 τ4 hT hb0 hb1 hb2
set_option maxRecDepth 100000 in
set_option maxHeartbeats 4000000 in
theorem tM_laysPath_L65 {X : KC} {q : Int × KM} (hX : kOk X 2 prog_11_method_56_code 9 "KeyPathModel") (hR : kRet X (some .boolean) q) (x1 x2 x3 x4 x5 x6 x7 : Int) (σ : KM) {Θ : ((Int × KM) ⊕ ((Int × KM) ⊕ (Int × KM))) → Prop} (hT : ∀ z, Θ (.inr (.inr (z))) → z = q) (hb0 : ∀ s : Int × KM, Θ (.inl s) → kW X 13 [lq 10, li x1, li x2, li s.1, none, none, none, none, none] [] s.2) (hb1 : ∀ s : Int × KM, Θ (.inr (.inl s)) → kW X 7 [lq 10, li x1, li s.1, none, none, none, none, none, none] [] s.2) : kJ X 65 [lq 10, li x1, li x2, li x3, li x4, li x5, li x6, li x7, none] [] σ (fM_laysPath_L65 x1 x2 x3 x4 x5 x6 x7 σ) Θ :=
  k_iter (f := fun s => fM_laysPath_B65 x1 x2 x3 x4 s.1 s.2.1 s.2.2.1 s.2.2.2) (Lf := fun s => [lq 10, li x1, li x2, li x3, li x4, li s.1, li s.2.1, li s.2.2.1, none]) (mf := fun s => s.2.2.2) (Θ := Θ) (fun s => tM_laysPath_B65 hX hR x1 x2 x3 x4 s.1 s.2.1 s.2.2.1 s.2.2.2 hT (fun _ h9 => h9) hb0 hb1) kF (x5, x6, x7, σ)
set_option maxRecDepth 100000 in
set_option maxHeartbeats 4000000 in
theorem tM_laysPath_J60 {X : KC} {q : Int × KM} (hX : kOk X 2 prog_11_method_56_code 9 "KeyPathModel") (hR : kRet X (some .boolean) q) (x1 x2 x3 x4 x5 t0 : Int) (σ : KM) {Θ : ((Int × KM) ⊕ ((Int × KM) ⊕ (Int × KM))) → Prop} (hT : ∀ z, Θ (.inr (.inr (z))) → z = q) (hb0 : ∀ s : Int × KM, Θ (.inl s) → kW X 13 [lq 10, li x1, li x2, li s.1, none, none, none, none, none] [] s.2) (hb1 : ∀ s : Int × KM, Θ (.inr (.inl s)) → kW X 7 [lq 10, li x1, li s.1, none, none, none, none, none, none] [] s.2) : kJ X 60 [lq 10, li x1, li x2, li x3, li x4, li x5, none, none, none] [ki t0] σ (fM_laysPath_J60 x1 x2 x3 x4 x5 t0 σ) Θ := by
  refine k_istore (L' := [lq 10, li x1, li x2, li x3, li x4, li x5, li t0, none, none]) hX dM_laysPath_60 rfl (by decide) rfl ?_
  refine k_iconst hX dM_laysPath_62 ?_
  refine k_istore (L' := [lq 10, li x1, li x2, li x3, li x4, li x5, li t0, li 0, none]) hX dM_laysPath_63 rfl (by decide) rfl ?_
  exact tM_laysPath_L65 hX hR x1 x2 x3 x4 x5 t0 0 σ hT hb0 hb1
set_option maxRecDepth 100000 in
set_option maxHeartbeats 4000000 in
theorem tM_laysPath_J43 {X : KC} {q : Int × KM} (hX : kOk X 2 prog_11_method_56_code 9 "KeyPathModel") (hR : kRet X (some .boolean) q) (x1 x2 x3 x4 t0 : Int) (σ : KM) {Θ : ((Int × KM) ⊕ ((Int × KM) ⊕ (Int × KM))) → Prop} (hT : ∀ z, Θ (.inr (.inr (z))) → z = q) (hb0 : ∀ s : Int × KM, Θ (.inl s) → kW X 13 [lq 10, li x1, li x2, li s.1, none, none, none, none, none] [] s.2) (hb1 : ∀ s : Int × KM, Θ (.inr (.inl s)) → kW X 7 [lq 10, li x1, li s.1, none, none, none, none, none, none] [] s.2) : kJ X 43 [lq 10, li x1, li x2, li x3, li x4, none, none, none, none] [ki t0] σ (fM_laysPath_J43 x1 x2 x3 x4 t0 σ) Θ := by
  refine k_istore (L' := [lq 10, li x1, li x2, li x3, li x4, li t0, none, none, none]) hX dM_laysPath_43 rfl (by decide) rfl ?_
  refine k_iload_n hX dM_laysPath_45 rfl ?_
  refine k_aload_n hX dM_laysPath_46 rfl ?_
  refine gf_174 hX dM_laysPath_47 ?_
  refine k_iconst hX dM_laysPath_50 ?_
  refine k_isub hX dM_laysPath_51 ?_
  refine k_icmp_ne (tgt := 59) hX dM_laysPath_52 (by decide) ?_ ?_
  · refine k_iconst hX dM_laysPath_59 ?_
    exact tM_laysPath_J60 hX hR x1 x2 x3 x4 t0 0 σ hT hb0 hb1
  · refine k_iconst hX dM_laysPath_55 ?_
    refine k_goto (tgt := 60) hX dM_laysPath_56 (by decide) ?_
    exact tM_laysPath_J60 hX hR x1 x2 x3 x4 t0 1 σ hT hb0 hb1
set_option maxRecDepth 100000 in
set_option maxHeartbeats 4000000 in
theorem tM_laysPath_B13 {X : KC} {q : Int × KM} (hX : kOk X 2 prog_11_method_56_code 9 "KeyPathModel") (hR : kRet X (some .boolean) q) (x1 x2 x3 : Int) (σ : KM) {Θ : ((Int × KM) ⊕ ((Int × KM) ⊕ (Int × KM))) → Prop} (hT : ∀ z, Θ (.inr (.inr (z))) → z = q) (hb0 : ∀ s : Int × KM, Θ (.inl s) → kW X 13 [lq 10, li x1, li x2, li s.1, none, none, none, none, none] [] s.2) (hb1 : ∀ s : Int × KM, Θ (.inr (.inl s)) → kW X 7 [lq 10, li x1, li s.1, none, none, none, none, none, none] [] s.2) : kJ X 13 [lq 10, li x1, li x2, li x3, none, none, none, none, none] [] σ (fM_laysPath_B13 x1 x2 x3 σ) Θ := by
  refine k_iload_n hX dM_laysPath_13 rfl ?_
  refine k_bipush hX dM_laysPath_14 (by decide) ?_
  refine k_icmp_ge (tgt := 234) hX dM_laysPath_16 (by decide) ?_ ?_
  · refine k_exit ?_
    refine k_less [true, true, true, false, true, true, true, true, true] (L' := [lq 10, li x1, li x2, none, none, none, none, none, none]) rfl ?_
    exact tM_laysPath_J234 hX hR x1 x2 σ hT hb1
  · refine k_bipush hX dM_laysPath_19 (by decide) ?_
    refine k_iload_n hX dM_laysPath_21 rfl ?_
    refine k_imul hX dM_laysPath_22 ?_
    refine k_iload_n hX dM_laysPath_23 rfl ?_
    refine k_iadd hX dM_laysPath_24 ?_
    refine k_istoreL (Lf := fun y1 => [lq 10, li x1, li x2, li x3, li y1, none, none, none, none]) hX dM_laysPath_25 rfl (by decide) (fun _ => rfl) (fun y1 => ?_)
    refine k_iload_n hX dM_laysPath_27 rfl ?_
    refine k_aload_n hX dM_laysPath_28 rfl ?_
    refine gf_174 hX dM_laysPath_29 ?_
    refine k_iconst hX dM_laysPath_32 ?_
    refine k_isub hX dM_laysPath_33 ?_
    refine k_icmp_ne (tgt := 41) hX dM_laysPath_34 (by decide) ?_ ?_
    · refine k_ldc (v := 1000000000) (w := 0) hX dM_laysPath_41 tw_1309 ?_
      exact tM_laysPath_J43 hX hR x1 x2 x3 y1 1000000000 σ hT hb0 hb1
    · refine k_iconst hX dM_laysPath_37 ?_
      refine k_goto (tgt := 43) hX dM_laysPath_38 (by decide) ?_
      exact tM_laysPath_J43 hX hR x1 x2 x3 y1 0 σ hT hb0 hb1
set_option maxRecDepth 100000 in
set_option maxHeartbeats 4000000 in
theorem tM_laysPath_L13 {X : KC} {q : Int × KM} (hX : kOk X 2 prog_11_method_56_code 9 "KeyPathModel") (hR : kRet X (some .boolean) q) (x1 x2 x3 : Int) (σ : KM) {Θ : ((Int × KM) ⊕ (Int × KM)) → Prop} (hT : ∀ z, Θ (.inr (z)) → z = q) (hb0 : ∀ s : Int × KM, Θ (.inl s) → kW X 7 [lq 10, li x1, li s.1, none, none, none, none, none, none] [] s.2) : kJ X 13 [lq 10, li x1, li x2, li x3, none, none, none, none, none] [] σ (fM_laysPath_L13 x1 x2 x3 σ) Θ :=
  k_iter (f := fun s => fM_laysPath_B13 x1 x2 s.1 s.2) (Lf := fun s => [lq 10, li x1, li x2, li s.1, none, none, none, none, none]) (mf := fun s => s.2) (Θ := Θ) (fun s => tM_laysPath_B13 hX hR x1 x2 s.1 s.2 hT (fun _ h9 => h9) hb0) kF (x3, σ)
set_option maxRecDepth 100000 in
set_option maxHeartbeats 4000000 in
theorem tM_laysPath_B7 {X : KC} {q : Int × KM} (hX : kOk X 2 prog_11_method_56_code 9 "KeyPathModel") (hR : kRet X (some .boolean) q) (x1 x2 : Int) (σ : KM) {Θ : ((Int × KM) ⊕ (Int × KM)) → Prop} (hT : ∀ z, Θ (.inr (z)) → z = q) (hb0 : ∀ s : Int × KM, Θ (.inl s) → kW X 7 [lq 10, li x1, li s.1, none, none, none, none, none, none] [] s.2) : kJ X 7 [lq 10, li x1, li x2, none, none, none, none, none, none] [] σ (fM_laysPath_B7 x1 x2 σ) Θ := by
  refine k_iload_n hX dM_laysPath_7 rfl ?_
  refine k_if_lt (tgt := 240) hX dM_laysPath_8 (by decide) ?_ ?_
  · refine k_exit ?_
    refine k_less [true, true, false, true, true, true, true, true, true] (L' := [lq 10, li x1, none, none, none, none, none, none, none]) rfl ?_
    exact tM_laysPath_J240 hX hR x1 σ hT
  · refine k_iconst hX dM_laysPath_11 ?_
    refine k_istore_n (L' := [lq 10, li x1, li x2, li 0, none, none, none, none, none]) hX dM_laysPath_12 rfl (by decide) rfl ?_
    exact tM_laysPath_L13 hX hR x1 x2 0 σ hT hb0
set_option maxRecDepth 100000 in
set_option maxHeartbeats 4000000 in
theorem tM_laysPath_L7 {X : KC} {q : Int × KM} (hX : kOk X 2 prog_11_method_56_code 9 "KeyPathModel") (hR : kRet X (some .boolean) q) (x1 x2 : Int) (σ : KM) {Θ : (Int × KM) → Prop} (hT : ∀ z, Θ (z) → z = q) : kJ X 7 [lq 10, li x1, li x2, none, none, none, none, none, none] [] σ (fM_laysPath_L7 x1 x2 σ) Θ :=
  k_iter (f := fun s => fM_laysPath_B7 x1 s.1 s.2) (Lf := fun s => [lq 10, li x1, li s.1, none, none, none, none, none, none]) (mf := fun s => s.2) (Θ := Θ) (fun s => tM_laysPath_B7 hX hR x1 s.1 s.2 hT (fun _ h9 => h9)) kF (x2, σ)
set_option maxRecDepth 100000 in
set_option maxHeartbeats 4000000 in
theorem sM_laysPath (x1 : Int) (σ : KM) : kSem 2 (⟨"KeyPathModel", "laysPath", "(I)Z"⟩ : MethodName) prog_11_method_56_code 9 (some .boolean) [kr 10, ki x1] σ (fM_laysPath x1 σ) := by
  refine kSem.of (L0 := [lq 10, li x1, none, none, none, none, none, none, none]) (by decide) (Nat.le_of_ble_eq_true rfl) rfl (fun X q hX hR => ?_)
  have hT : ∀ z : Int × KM, (fun z => z = q) z → z = q := fun _ h => h
  refine k_aload_n hX dM_laysPath_0 rfl ?_
  refine gf_174 hX dM_laysPath_1 ?_
  refine k_iconst hX dM_laysPath_4 ?_
  refine k_isub hX dM_laysPath_5 ?_
  refine k_istoreL_n (Lf := fun y1 => [lq 10, li x1, li y1, none, none, none, none, none, none]) hX dM_laysPath_6 rfl (by decide) (fun _ => rfl) (fun y1 => ?_)
  exact tM_laysPath_L7 hX hR x1 y1 σ hT
theorem cl_135 {X : KC} {d n : Nat} {cc : ByteArray} {pc : Nat} {L : List (Option KV)} {st : List KV} {σ : KM} {Z : Type} {Θ : Z → Prop} {G : Int → KM → Option Z} {x1 : Int} (hX : kOk X d cc n "KeyPathModel") (hdd : 2 + 1 ≤ d) (hst : k_cat st ≤ 8) (hd : decode cc pc = .ok (.invokevirtual 284, 3)) (h : ∀ r τ, kJ X (pc + 3) L (ki r :: st) τ (G r τ) Θ) : kJ X pc L (ki x1 :: kr 10 :: st) σ (kCall (fM_laysPath x1 σ) G) Θ :=
  k_callV (np := 1) (av := [ki x1]) (ret := (some .boolean)) hX (by decide) rfl rfl rfl (sM_laysPath _ σ) ⟨⟨hdd, by decide⟩, tw_1340, tw_11, by decide +kernel⟩ rfl tw_1337 tw_1339 ts_63 hst hd h
theorem dM_hasPath_0 : decode prog_11_method_57_code 0 = .ok (.aload_n 0, 1) := by decide +kernel
theorem dM_hasPath_1 : decode prog_11_method_57_code 1 = .ok (.invokevirtual 281, 3) := by decide +kernel
theorem dM_hasPath_4 : decode prog_11_method_57_code 4 = .ok (.aload_n 0, 1) := by decide +kernel
theorem dM_hasPath_5 : decode prog_11_method_57_code 5 = .ok (.aload_n 0, 1) := by decide +kernel
theorem dM_hasPath_6 : decode prog_11_method_57_code 6 = .ok (.getfield 50, 3) := by decide +kernel
theorem dM_hasPath_9 : decode prog_11_method_57_code 9 = .ok (.invokevirtual 284, 3) := by decide +kernel
theorem dM_hasPath_12 : decode prog_11_method_57_code 12 = .ok (.ireturn, 1) := by decide +kernel
set_option maxRecDepth 100000 in
set_option maxHeartbeats 4000000 in
theorem sM_hasPath (σ : KM) : kSem 5 (⟨"KeyPathModel", "hasPath", "()Z"⟩ : MethodName) prog_11_method_57_code 1 (some .boolean) [kr 10] σ (fM_hasPath σ) := by
  refine kSem.of (L0 := [lq 10]) (by decide) (Nat.le_of_ble_eq_true rfl) rfl (fun X q hX hR => ?_)
  have hT : ∀ z : Int × KM, (fun z => z = q) z → z = q := fun _ h => h
  refine k_aload_n hX dM_hasPath_0 rfl ?_
  refine cl_132 hX (by decide) (Nat.le_of_ble_eq_true rfl) dM_hasPath_1 (fun _ τ1 => ?_)
  refine k_aload_n hX dM_hasPath_4 rfl ?_
  refine k_aload_n hX dM_hasPath_5 rfl ?_
  refine gf_179 hX dM_hasPath_6 ?_
  refine cl_135 hX (by decide) (Nat.le_of_ble_eq_true rfl) dM_hasPath_9 (fun r3 τ2 => ?_)
  exact k_zret hX hR hT dM_hasPath_12
theorem cl_136 {X : KC} {d n : Nat} {cc : ByteArray} {pc : Nat} {L : List (Option KV)} {st : List KV} {σ : KM} {Z : Type} {Θ : Z → Prop} {G : Int → KM → Option Z} (hX : kOk X d cc n "KeyPathModel") (hdd : 5 + 1 ≤ d) (hst : k_cat st ≤ 8) (hd : decode cc pc = .ok (.invokevirtual 287, 3)) (h : ∀ r τ, kJ X (pc + 3) L (ki r :: st) τ (G r τ) Θ) : kJ X pc L (kr 10 :: st) σ (kCall (fM_hasPath σ) G) Θ :=
  k_callV (np := 0) (av := []) (ret := (some .boolean)) hX (by decide) rfl rfl rfl (sM_hasPath σ) ⟨⟨hdd, by decide⟩, tw_1328, tw_11, by decide +kernel⟩ rfl tw_1325 tw_1327 ts_60 hst hd h
theorem dM_degreeOf_0 : decode prog_11_method_75_code 0 = .ok (.iload_n 0, 1) := by decide +kernel
theorem dM_degreeOf_1 : decode prog_11_method_75_code 1 = .ok (.iconst 3, 1) := by decide +kernel
theorem dM_degreeOf_2 : decode prog_11_method_75_code 2 = .ok (.idiv, 1) := by decide +kernel
theorem dM_degreeOf_3 : decode prog_11_method_75_code 3 = .ok (.iload_n 1, 1) := by decide +kernel
theorem dM_degreeOf_4 : decode prog_11_method_75_code 4 = .ok (.bipush 12, 2) := by decide +kernel
theorem dM_degreeOf_6 : decode prog_11_method_75_code 6 = .ok (.irem, 1) := by decide +kernel
theorem dM_degreeOf_7 : decode prog_11_method_75_code 7 = .ok (.isub, 1) := by decide +kernel
theorem dM_degreeOf_8 : decode prog_11_method_75_code 8 = .ok (.bipush 12, 2) := by decide +kernel
theorem dM_degreeOf_10 : decode prog_11_method_75_code 10 = .ok (.iadd, 1) := by decide +kernel
theorem dM_degreeOf_11 : decode prog_11_method_75_code 11 = .ok (.bipush 12, 2) := by decide +kernel
theorem dM_degreeOf_13 : decode prog_11_method_75_code 13 = .ok (.irem, 1) := by decide +kernel
theorem dM_degreeOf_14 : decode prog_11_method_75_code 14 = .ok (.istore_n 2, 1) := by decide +kernel
theorem dM_degreeOf_15 : decode prog_11_method_75_code 15 = .ok (.iload_n 0, 1) := by decide +kernel
theorem dM_degreeOf_16 : decode prog_11_method_75_code 16 = .ok (.iconst 3, 1) := by decide +kernel
theorem dM_degreeOf_17 : decode prog_11_method_75_code 17 = .ok (.irem, 1) := by decide +kernel
theorem dM_degreeOf_18 : decode prog_11_method_75_code 18 = .ok (.istore_n 3, 1) := by decide +kernel
theorem dM_degreeOf_19 : decode prog_11_method_75_code 19 = .ok (.iload_n 1, 1) := by decide +kernel
theorem dM_degreeOf_20 : decode prog_11_method_75_code 20 = .ok (.bipush 12, 2) := by decide +kernel
theorem dM_degreeOf_22 : decode prog_11_method_75_code 22 = .ok (.if_icmp .ge 144, 3) := by decide +kernel
theorem dM_degreeOf_25 : decode prog_11_method_75_code 25 = .ok (.iload_n 2, 1) := by decide +kernel
theorem dM_degreeOf_26 : decode prog_11_method_75_code 26 = .ok (.tableswitch 138 0 11 #[62, 138, 72, 138, 83, 94, 138, 104, 138, 114, 138, 126], 62) := by decide +kernel
theorem dM_degreeOf_88 : decode prog_11_method_75_code 88 = .ok (.iload_n 3, 1) := by decide +kernel
theorem dM_degreeOf_89 : decode prog_11_method_75_code 89 = .ok (.ifCond .ne 7, 3) := by decide +kernel
theorem dM_degreeOf_92 : decode prog_11_method_75_code 92 = .ok (.iconst 1, 1) := by decide +kernel
theorem dM_degreeOf_93 : decode prog_11_method_75_code 93 = .ok (.goto 4, 3) := by decide +kernel
theorem dM_degreeOf_96 : decode prog_11_method_75_code 96 = .ok (.iconst (-1), 1) := by decide +kernel
theorem dM_degreeOf_97 : decode prog_11_method_75_code 97 = .ok (.ireturn, 1) := by decide +kernel
theorem dM_degreeOf_98 : decode prog_11_method_75_code 98 = .ok (.iload_n 3, 1) := by decide +kernel
theorem dM_degreeOf_99 : decode prog_11_method_75_code 99 = .ok (.iconst 1, 1) := by decide +kernel
theorem dM_degreeOf_100 : decode prog_11_method_75_code 100 = .ok (.if_icmp .ne 7, 3) := by decide +kernel
theorem dM_degreeOf_103 : decode prog_11_method_75_code 103 = .ok (.iconst 2, 1) := by decide +kernel
theorem dM_degreeOf_104 : decode prog_11_method_75_code 104 = .ok (.goto 4, 3) := by decide +kernel
theorem dM_degreeOf_107 : decode prog_11_method_75_code 107 = .ok (.iconst (-1), 1) := by decide +kernel
theorem dM_degreeOf_108 : decode prog_11_method_75_code 108 = .ok (.ireturn, 1) := by decide +kernel
theorem dM_degreeOf_109 : decode prog_11_method_75_code 109 = .ok (.iload_n 3, 1) := by decide +kernel
theorem dM_degreeOf_110 : decode prog_11_method_75_code 110 = .ok (.iconst 1, 1) := by decide +kernel
theorem dM_degreeOf_111 : decode prog_11_method_75_code 111 = .ok (.if_icmp .ne 7, 3) := by decide +kernel
theorem dM_degreeOf_114 : decode prog_11_method_75_code 114 = .ok (.iconst 3, 1) := by decide +kernel
theorem dM_degreeOf_115 : decode prog_11_method_75_code 115 = .ok (.goto 4, 3) := by decide +kernel
theorem dM_degreeOf_118 : decode prog_11_method_75_code 118 = .ok (.iconst (-1), 1) := by decide +kernel
theorem dM_degreeOf_119 : decode prog_11_method_75_code 119 = .ok (.ireturn, 1) := by decide +kernel
theorem dM_degreeOf_120 : decode prog_11_method_75_code 120 = .ok (.iload_n 3, 1) := by decide +kernel
theorem dM_degreeOf_121 : decode prog_11_method_75_code 121 = .ok (.ifCond .ne 7, 3) := by decide +kernel
theorem dM_degreeOf_124 : decode prog_11_method_75_code 124 = .ok (.iconst 4, 1) := by decide +kernel
theorem dM_degreeOf_125 : decode prog_11_method_75_code 125 = .ok (.goto 4, 3) := by decide +kernel
theorem dM_degreeOf_128 : decode prog_11_method_75_code 128 = .ok (.iconst (-1), 1) := by decide +kernel
theorem dM_degreeOf_129 : decode prog_11_method_75_code 129 = .ok (.ireturn, 1) := by decide +kernel
theorem dM_degreeOf_130 : decode prog_11_method_75_code 130 = .ok (.iload_n 3, 1) := by decide +kernel
theorem dM_degreeOf_131 : decode prog_11_method_75_code 131 = .ok (.ifCond .ne 7, 3) := by decide +kernel
theorem dM_degreeOf_134 : decode prog_11_method_75_code 134 = .ok (.iconst 5, 1) := by decide +kernel
theorem dM_degreeOf_135 : decode prog_11_method_75_code 135 = .ok (.goto 4, 3) := by decide +kernel
theorem dM_degreeOf_138 : decode prog_11_method_75_code 138 = .ok (.iconst (-1), 1) := by decide +kernel
theorem dM_degreeOf_139 : decode prog_11_method_75_code 139 = .ok (.ireturn, 1) := by decide +kernel
theorem dM_degreeOf_140 : decode prog_11_method_75_code 140 = .ok (.iload_n 3, 1) := by decide +kernel
theorem dM_degreeOf_141 : decode prog_11_method_75_code 141 = .ok (.iconst 1, 1) := by decide +kernel
theorem dM_degreeOf_142 : decode prog_11_method_75_code 142 = .ok (.if_icmp .ne 8, 3) := by decide +kernel
theorem dM_degreeOf_145 : decode prog_11_method_75_code 145 = .ok (.bipush 6, 2) := by decide +kernel
theorem dM_degreeOf_147 : decode prog_11_method_75_code 147 = .ok (.goto 4, 3) := by decide +kernel
theorem dM_degreeOf_150 : decode prog_11_method_75_code 150 = .ok (.iconst (-1), 1) := by decide +kernel
theorem dM_degreeOf_151 : decode prog_11_method_75_code 151 = .ok (.ireturn, 1) := by decide +kernel
theorem dM_degreeOf_152 : decode prog_11_method_75_code 152 = .ok (.iload_n 3, 1) := by decide +kernel
theorem dM_degreeOf_153 : decode prog_11_method_75_code 153 = .ok (.iconst 2, 1) := by decide +kernel
theorem dM_degreeOf_154 : decode prog_11_method_75_code 154 = .ok (.if_icmp .ne 8, 3) := by decide +kernel
theorem dM_degreeOf_157 : decode prog_11_method_75_code 157 = .ok (.bipush 7, 2) := by decide +kernel
theorem dM_degreeOf_159 : decode prog_11_method_75_code 159 = .ok (.goto 4, 3) := by decide +kernel
theorem dM_degreeOf_162 : decode prog_11_method_75_code 162 = .ok (.iconst (-1), 1) := by decide +kernel
theorem dM_degreeOf_163 : decode prog_11_method_75_code 163 = .ok (.ireturn, 1) := by decide +kernel
theorem dM_degreeOf_164 : decode prog_11_method_75_code 164 = .ok (.iconst (-1), 1) := by decide +kernel
theorem dM_degreeOf_165 : decode prog_11_method_75_code 165 = .ok (.ireturn, 1) := by decide +kernel
theorem dM_degreeOf_166 : decode prog_11_method_75_code 166 = .ok (.iload_n 2, 1) := by decide +kernel
theorem dM_degreeOf_167 : decode prog_11_method_75_code 167 = .ok (.tableswitch 133 0 10 #[57, 133, 68, 79, 133, 89, 133, 100, 111, 133, 122], 57) := by decide +kernel
theorem dM_degreeOf_224 : decode prog_11_method_75_code 224 = .ok (.iload_n 3, 1) := by decide +kernel
theorem dM_degreeOf_225 : decode prog_11_method_75_code 225 = .ok (.iconst 1, 1) := by decide +kernel
theorem dM_degreeOf_226 : decode prog_11_method_75_code 226 = .ok (.if_icmp .ne 7, 3) := by decide +kernel
theorem dM_degreeOf_229 : decode prog_11_method_75_code 229 = .ok (.iconst 1, 1) := by decide +kernel
theorem dM_degreeOf_230 : decode prog_11_method_75_code 230 = .ok (.goto 4, 3) := by decide +kernel
theorem dM_degreeOf_233 : decode prog_11_method_75_code 233 = .ok (.iconst (-1), 1) := by decide +kernel
theorem dM_degreeOf_234 : decode prog_11_method_75_code 234 = .ok (.ireturn, 1) := by decide +kernel
theorem dM_degreeOf_235 : decode prog_11_method_75_code 235 = .ok (.iload_n 3, 1) := by decide +kernel
theorem dM_degreeOf_236 : decode prog_11_method_75_code 236 = .ok (.iconst 2, 1) := by decide +kernel
theorem dM_degreeOf_237 : decode prog_11_method_75_code 237 = .ok (.if_icmp .ne 7, 3) := by decide +kernel
theorem dM_degreeOf_240 : decode prog_11_method_75_code 240 = .ok (.iconst 2, 1) := by decide +kernel
theorem dM_degreeOf_241 : decode prog_11_method_75_code 241 = .ok (.goto 4, 3) := by decide +kernel
theorem dM_degreeOf_244 : decode prog_11_method_75_code 244 = .ok (.iconst (-1), 1) := by decide +kernel
theorem dM_degreeOf_245 : decode prog_11_method_75_code 245 = .ok (.ireturn, 1) := by decide +kernel
theorem dM_degreeOf_246 : decode prog_11_method_75_code 246 = .ok (.iload_n 3, 1) := by decide +kernel
theorem dM_degreeOf_247 : decode prog_11_method_75_code 247 = .ok (.ifCond .ne 7, 3) := by decide +kernel
theorem dM_degreeOf_250 : decode prog_11_method_75_code 250 = .ok (.iconst 3, 1) := by decide +kernel
theorem dM_degreeOf_251 : decode prog_11_method_75_code 251 = .ok (.goto 4, 3) := by decide +kernel
theorem dM_degreeOf_254 : decode prog_11_method_75_code 254 = .ok (.iconst (-1), 1) := by decide +kernel
theorem dM_degreeOf_255 : decode prog_11_method_75_code 255 = .ok (.ireturn, 1) := by decide +kernel
theorem dM_degreeOf_256 : decode prog_11_method_75_code 256 = .ok (.iload_n 3, 1) := by decide +kernel
theorem dM_degreeOf_257 : decode prog_11_method_75_code 257 = .ok (.iconst 1, 1) := by decide +kernel
theorem dM_degreeOf_258 : decode prog_11_method_75_code 258 = .ok (.if_icmp .ne 7, 3) := by decide +kernel
theorem dM_degreeOf_261 : decode prog_11_method_75_code 261 = .ok (.iconst 4, 1) := by decide +kernel
theorem dM_degreeOf_262 : decode prog_11_method_75_code 262 = .ok (.goto 4, 3) := by decide +kernel
theorem dM_degreeOf_265 : decode prog_11_method_75_code 265 = .ok (.iconst (-1), 1) := by decide +kernel
theorem dM_degreeOf_266 : decode prog_11_method_75_code 266 = .ok (.ireturn, 1) := by decide +kernel
theorem dM_degreeOf_267 : decode prog_11_method_75_code 267 = .ok (.iload_n 3, 1) := by decide +kernel
theorem dM_degreeOf_268 : decode prog_11_method_75_code 268 = .ok (.iconst 2, 1) := by decide +kernel
theorem dM_degreeOf_269 : decode prog_11_method_75_code 269 = .ok (.if_icmp .ge 7, 3) := by decide +kernel
theorem dM_degreeOf_272 : decode prog_11_method_75_code 272 = .ok (.iconst 5, 1) := by decide +kernel
theorem dM_degreeOf_273 : decode prog_11_method_75_code 273 = .ok (.goto 4, 3) := by decide +kernel
theorem dM_degreeOf_276 : decode prog_11_method_75_code 276 = .ok (.iconst (-1), 1) := by decide +kernel
theorem dM_degreeOf_277 : decode prog_11_method_75_code 277 = .ok (.ireturn, 1) := by decide +kernel
theorem dM_degreeOf_278 : decode prog_11_method_75_code 278 = .ok (.iload_n 3, 1) := by decide +kernel
theorem dM_degreeOf_279 : decode prog_11_method_75_code 279 = .ok (.ifCond .ne 8, 3) := by decide +kernel
theorem dM_degreeOf_282 : decode prog_11_method_75_code 282 = .ok (.bipush 6, 2) := by decide +kernel
theorem dM_degreeOf_284 : decode prog_11_method_75_code 284 = .ok (.goto 4, 3) := by decide +kernel
theorem dM_degreeOf_287 : decode prog_11_method_75_code 287 = .ok (.iconst (-1), 1) := by decide +kernel
theorem dM_degreeOf_288 : decode prog_11_method_75_code 288 = .ok (.ireturn, 1) := by decide +kernel
theorem dM_degreeOf_289 : decode prog_11_method_75_code 289 = .ok (.iload_n 3, 1) := by decide +kernel
theorem dM_degreeOf_290 : decode prog_11_method_75_code 290 = .ok (.ifCond .ne 8, 3) := by decide +kernel
theorem dM_degreeOf_293 : decode prog_11_method_75_code 293 = .ok (.bipush 7, 2) := by decide +kernel
theorem dM_degreeOf_295 : decode prog_11_method_75_code 295 = .ok (.goto 4, 3) := by decide +kernel
theorem dM_degreeOf_298 : decode prog_11_method_75_code 298 = .ok (.iconst (-1), 1) := by decide +kernel
theorem dM_degreeOf_299 : decode prog_11_method_75_code 299 = .ok (.ireturn, 1) := by decide +kernel
theorem dM_degreeOf_300 : decode prog_11_method_75_code 300 = .ok (.iconst (-1), 1) := by decide +kernel
theorem dM_degreeOf_301 : decode prog_11_method_75_code 301 = .ok (.ireturn, 1) := by decide +kernel
set_option maxRecDepth 100000 in
set_option maxHeartbeats 4000000 in
theorem tM_degreeOf_J234 {X : KC} {q : Int × KM} (hX : kOk X 1 prog_11_method_75_code 4 "KeyPathModel") (hR : kRet X (some .int) q) (t0 : Int) (σ : KM) {Θ : (Int × KM) → Prop} (hT : ∀ z, Θ (z) → z = q) : kJ X 234 [none, none, none, none] [ki t0] σ (fM_degreeOf_J234 t0 σ) Θ := by
  exact k_iret hX hR hT dM_degreeOf_234
set_option maxRecDepth 100000 in
set_option maxHeartbeats 4000000 in
theorem tM_degreeOf_J300 {X : KC} {q : Int × KM} (hX : kOk X 1 prog_11_method_75_code 4 "KeyPathModel") (hR : kRet X (some .int) q) (σ : KM) {Θ : (Int × KM) → Prop} (hT : ∀ z, Θ (z) → z = q) : kJ X 300 [none, none, none, none] [] σ (fM_degreeOf_J300 σ) Θ := by
  refine k_iconst hX dM_degreeOf_300 ?_
  exact k_iret hX hR hT dM_degreeOf_301
set_option maxRecDepth 100000 in
set_option maxHeartbeats 4000000 in
theorem tM_degreeOf_J245 {X : KC} {q : Int × KM} (hX : kOk X 1 prog_11_method_75_code 4 "KeyPathModel") (hR : kRet X (some .int) q) (t0 : Int) (σ : KM) {Θ : (Int × KM) → Prop} (hT : ∀ z, Θ (z) → z = q) : kJ X 245 [none, none, none, none] [ki t0] σ (fM_degreeOf_J245 t0 σ) Θ := by
  exact k_iret hX hR hT dM_degreeOf_245
set_option maxRecDepth 100000 in
set_option maxHeartbeats 4000000 in
theorem tM_degreeOf_J255 {X : KC} {q : Int × KM} (hX : kOk X 1 prog_11_method_75_code 4 "KeyPathModel") (hR : kRet X (some .int) q) (t0 : Int) (σ : KM) {Θ : (Int × KM) → Prop} (hT : ∀ z, Θ (z) → z = q) : kJ X 255 [none, none, none, none] [ki t0] σ (fM_degreeOf_J255 t0 σ) Θ := by
  exact k_iret hX hR hT dM_degreeOf_255
set_option maxRecDepth 100000 in
set_option maxHeartbeats 4000000 in
theorem tM_degreeOf_J266 {X : KC} {q : Int × KM} (hX : kOk X 1 prog_11_method_75_code 4 "KeyPathModel") (hR : kRet X (some .int) q) (t0 : Int) (σ : KM) {Θ : (Int × KM) → Prop} (hT : ∀ z, Θ (z) → z = q) : kJ X 266 [none, none, none, none] [ki t0] σ (fM_degreeOf_J266 t0 σ) Θ := by
  exact k_iret hX hR hT dM_degreeOf_266
set_option maxRecDepth 100000 in
set_option maxHeartbeats 4000000 in
theorem tM_degreeOf_J277 {X : KC} {q : Int × KM} (hX : kOk X 1 prog_11_method_75_code 4 "KeyPathModel") (hR : kRet X (some .int) q) (t0 : Int) (σ : KM) {Θ : (Int × KM) → Prop} (hT : ∀ z, Θ (z) → z = q) : kJ X 277 [none, none, none, none] [ki t0] σ (fM_degreeOf_J277 t0 σ) Θ := by
  exact k_iret hX hR hT dM_degreeOf_277
set_option maxRecDepth 100000 in
set_option maxHeartbeats 4000000 in
theorem tM_degreeOf_J288 {X : KC} {q : Int × KM} (hX : kOk X 1 prog_11_method_75_code 4 "KeyPathModel") (hR : kRet X (some .int) q) (t0 : Int) (σ : KM) {Θ : (Int × KM) → Prop} (hT : ∀ z, Θ (z) → z = q) : kJ X 288 [none, none, none, none] [ki t0] σ (fM_degreeOf_J288 t0 σ) Θ := by
  exact k_iret hX hR hT dM_degreeOf_288
set_option maxRecDepth 100000 in
set_option maxHeartbeats 4000000 in
theorem tM_degreeOf_J299 {X : KC} {q : Int × KM} (hX : kOk X 1 prog_11_method_75_code 4 "KeyPathModel") (hR : kRet X (some .int) q) (t0 : Int) (σ : KM) {Θ : (Int × KM) → Prop} (hT : ∀ z, Θ (z) → z = q) : kJ X 299 [none, none, none, none] [ki t0] σ (fM_degreeOf_J299 t0 σ) Θ := by
  exact k_iret hX hR hT dM_degreeOf_299
set_option maxRecDepth 100000 in
set_option maxHeartbeats 4000000 in
theorem tM_degreeOf_J97 {X : KC} {q : Int × KM} (hX : kOk X 1 prog_11_method_75_code 4 "KeyPathModel") (hR : kRet X (some .int) q) (t0 : Int) (σ : KM) {Θ : (Int × KM) → Prop} (hT : ∀ z, Θ (z) → z = q) : kJ X 97 [none, none, none, none] [ki t0] σ (fM_degreeOf_J97 t0 σ) Θ := by
  exact k_iret hX hR hT dM_degreeOf_97
set_option maxRecDepth 100000 in
set_option maxHeartbeats 4000000 in
theorem tM_degreeOf_J164 {X : KC} {q : Int × KM} (hX : kOk X 1 prog_11_method_75_code 4 "KeyPathModel") (hR : kRet X (some .int) q) (σ : KM) {Θ : (Int × KM) → Prop} (hT : ∀ z, Θ (z) → z = q) : kJ X 164 [none, none, none, none] [] σ (fM_degreeOf_J164 σ) Θ := by
  refine k_iconst hX dM_degreeOf_164 ?_
  exact k_iret hX hR hT dM_degreeOf_165
set_option maxRecDepth 100000 in
set_option maxHeartbeats 4000000 in
theorem tM_degreeOf_J108 {X : KC} {q : Int × KM} (hX : kOk X 1 prog_11_method_75_code 4 "KeyPathModel") (hR : kRet X (some .int) q) (t0 : Int) (σ : KM) {Θ : (Int × KM) → Prop} (hT : ∀ z, Θ (z) → z = q) : kJ X 108 [none, none, none, none] [ki t0] σ (fM_degreeOf_J108 t0 σ) Θ := by
  exact k_iret hX hR hT dM_degreeOf_108
set_option maxRecDepth 100000 in
set_option maxHeartbeats 4000000 in
theorem tM_degreeOf_J119 {X : KC} {q : Int × KM} (hX : kOk X 1 prog_11_method_75_code 4 "KeyPathModel") (hR : kRet X (some .int) q) (t0 : Int) (σ : KM) {Θ : (Int × KM) → Prop} (hT : ∀ z, Θ (z) → z = q) : kJ X 119 [none, none, none, none] [ki t0] σ (fM_degreeOf_J119 t0 σ) Θ := by
  exact k_iret hX hR hT dM_degreeOf_119
set_option maxRecDepth 100000 in
set_option maxHeartbeats 4000000 in
theorem tM_degreeOf_J129 {X : KC} {q : Int × KM} (hX : kOk X 1 prog_11_method_75_code 4 "KeyPathModel") (hR : kRet X (some .int) q) (t0 : Int) (σ : KM) {Θ : (Int × KM) → Prop} (hT : ∀ z, Θ (z) → z = q) : kJ X 129 [none, none, none, none] [ki t0] σ (fM_degreeOf_J129 t0 σ) Θ := by
  exact k_iret hX hR hT dM_degreeOf_129
set_option maxRecDepth 100000 in
set_option maxHeartbeats 4000000 in
theorem tM_degreeOf_J139 {X : KC} {q : Int × KM} (hX : kOk X 1 prog_11_method_75_code 4 "KeyPathModel") (hR : kRet X (some .int) q) (t0 : Int) (σ : KM) {Θ : (Int × KM) → Prop} (hT : ∀ z, Θ (z) → z = q) : kJ X 139 [none, none, none, none] [ki t0] σ (fM_degreeOf_J139 t0 σ) Θ := by
  exact k_iret hX hR hT dM_degreeOf_139
set_option maxRecDepth 100000 in
set_option maxHeartbeats 4000000 in
theorem tM_degreeOf_J151 {X : KC} {q : Int × KM} (hX : kOk X 1 prog_11_method_75_code 4 "KeyPathModel") (hR : kRet X (some .int) q) (t0 : Int) (σ : KM) {Θ : (Int × KM) → Prop} (hT : ∀ z, Θ (z) → z = q) : kJ X 151 [none, none, none, none] [ki t0] σ (fM_degreeOf_J151 t0 σ) Θ := by
  exact k_iret hX hR hT dM_degreeOf_151
set_option maxRecDepth 100000 in
set_option maxHeartbeats 4000000 in
theorem tM_degreeOf_J163 {X : KC} {q : Int × KM} (hX : kOk X 1 prog_11_method_75_code 4 "KeyPathModel") (hR : kRet X (some .int) q) (t0 : Int) (σ : KM) {Θ : (Int × KM) → Prop} (hT : ∀ z, Θ (z) → z = q) : kJ X 163 [none, none, none, none] [ki t0] σ (fM_degreeOf_J163 t0 σ) Θ := by
  exact k_iret hX hR hT dM_degreeOf_163
set_option maxRecDepth 100000 in
set_option maxHeartbeats 4000000 in
theorem sM_degreeOf (x0 x1 : Int) (σ : KM) : kSem 1 (⟨"KeyPathModel", "degreeOf", "(II)I"⟩ : MethodName) prog_11_method_75_code 4 (some .int) [ki x0, ki x1] σ (fM_degreeOf x0 x1 σ) := by
  refine kSem.of (L0 := [li x0, li x1, none, none]) (by decide) (Nat.le_of_ble_eq_true rfl) rfl (fun X q hX hR => ?_)
  have hT : ∀ z : Int × KM, (fun z => z = q) z → z = q := fun _ h => h
  refine k_iload_n hX dM_degreeOf_0 rfl ?_
  refine k_iconst hX dM_degreeOf_1 ?_
  refine k_idiv hX dM_degreeOf_2 (fun y1 => ?_)
  refine k_iload_n hX dM_degreeOf_3 rfl ?_
  refine k_bipush hX dM_degreeOf_4 (by decide) ?_
  refine k_irem hX dM_degreeOf_6 (fun y2 => ?_)
  refine k_isub hX dM_degreeOf_7 ?_
  refine k_bipush hX dM_degreeOf_8 (by decide) ?_
  refine k_iadd hX dM_degreeOf_10 ?_
  refine k_bipush hX dM_degreeOf_11 (by decide) ?_
  refine k_irem hX dM_degreeOf_13 (fun y3 => ?_)
  refine k_istore_n (L' := [li x0, li x1, li y3, none]) hX dM_degreeOf_14 rfl (by decide) rfl ?_
  refine k_iload_n hX dM_degreeOf_15 rfl ?_
  refine k_iconst hX dM_degreeOf_16 ?_
  refine k_irem hX dM_degreeOf_17 (fun y4 => ?_)
  refine k_istore_n (L' := [li x0, li x1, li y3, li y4]) hX dM_degreeOf_18 rfl (by decide) rfl ?_
  refine k_iload_n hX dM_degreeOf_19 rfl ?_
  refine k_bipush hX dM_degreeOf_20 (by decide) ?_
  refine k_icmp_ge (tgt := 166) hX dM_degreeOf_22 (by decide) ?_ ?_
  · refine k_iload_n hX dM_degreeOf_166 rfl ?_
    refine k_tsw (ts := [224, 300, 235, 246, 300, 256, 300, 267, 278, 300, 289]) (te := 300) hX dM_degreeOf_167 (by decide) (by decide) rfl (by decide) (k_ts_c ?_ (k_ts_c ?_ (k_ts_c ?_ (k_ts_c ?_ (k_ts_c ?_ (k_ts_c ?_ (k_ts_c ?_ (k_ts_c ?_ (k_ts_c ?_ (k_ts_c ?_ (k_ts_c ?_ (k_ts_n)))))))))))) ?_
    · refine k_iload_n hX dM_degreeOf_224 rfl ?_
      refine k_iconst hX dM_degreeOf_225 ?_
      refine k_icmp_ne (tgt := 233) hX dM_degreeOf_226 (by decide) ?_ ?_
      · refine k_iconst hX dM_degreeOf_233 ?_
        refine k_less [false, false, false, false] (L' := [none, none, none, none]) rfl ?_
        exact tM_degreeOf_J234 hX hR (-1) σ hT
      · refine k_iconst hX dM_degreeOf_229 ?_
        refine k_goto (tgt := 234) hX dM_degreeOf_230 (by decide) ?_
        refine k_less [false, false, false, false] (L' := [none, none, none, none]) rfl ?_
        exact tM_degreeOf_J234 hX hR 1 σ hT
    · refine k_less [false, false, false, false] (L' := [none, none, none, none]) rfl ?_
      exact tM_degreeOf_J300 hX hR σ hT
    · refine k_iload_n hX dM_degreeOf_235 rfl ?_
      refine k_iconst hX dM_degreeOf_236 ?_
      refine k_icmp_ne (tgt := 244) hX dM_degreeOf_237 (by decide) ?_ ?_
      · refine k_iconst hX dM_degreeOf_244 ?_
        refine k_less [false, false, false, false] (L' := [none, none, none, none]) rfl ?_
        exact tM_degreeOf_J245 hX hR (-1) σ hT
      · refine k_iconst hX dM_degreeOf_240 ?_
        refine k_goto (tgt := 245) hX dM_degreeOf_241 (by decide) ?_
        refine k_less [false, false, false, false] (L' := [none, none, none, none]) rfl ?_
        exact tM_degreeOf_J245 hX hR 2 σ hT
    · refine k_iload_n hX dM_degreeOf_246 rfl ?_
      refine k_if_ne (tgt := 254) hX dM_degreeOf_247 (by decide) ?_ ?_
      · refine k_iconst hX dM_degreeOf_254 ?_
        refine k_less [false, false, false, false] (L' := [none, none, none, none]) rfl ?_
        exact tM_degreeOf_J255 hX hR (-1) σ hT
      · refine k_iconst hX dM_degreeOf_250 ?_
        refine k_goto (tgt := 255) hX dM_degreeOf_251 (by decide) ?_
        refine k_less [false, false, false, false] (L' := [none, none, none, none]) rfl ?_
        exact tM_degreeOf_J255 hX hR 3 σ hT
    · refine k_less [false, false, false, false] (L' := [none, none, none, none]) rfl ?_
      exact tM_degreeOf_J300 hX hR σ hT
    · refine k_iload_n hX dM_degreeOf_256 rfl ?_
      refine k_iconst hX dM_degreeOf_257 ?_
      refine k_icmp_ne (tgt := 265) hX dM_degreeOf_258 (by decide) ?_ ?_
      · refine k_iconst hX dM_degreeOf_265 ?_
        refine k_less [false, false, false, false] (L' := [none, none, none, none]) rfl ?_
        exact tM_degreeOf_J266 hX hR (-1) σ hT
      · refine k_iconst hX dM_degreeOf_261 ?_
        refine k_goto (tgt := 266) hX dM_degreeOf_262 (by decide) ?_
        refine k_less [false, false, false, false] (L' := [none, none, none, none]) rfl ?_
        exact tM_degreeOf_J266 hX hR 4 σ hT
    · refine k_less [false, false, false, false] (L' := [none, none, none, none]) rfl ?_
      exact tM_degreeOf_J300 hX hR σ hT
    · refine k_iload_n hX dM_degreeOf_267 rfl ?_
      refine k_iconst hX dM_degreeOf_268 ?_
      refine k_icmp_ge (tgt := 276) hX dM_degreeOf_269 (by decide) ?_ ?_
      · refine k_iconst hX dM_degreeOf_276 ?_
        refine k_less [false, false, false, false] (L' := [none, none, none, none]) rfl ?_
        exact tM_degreeOf_J277 hX hR (-1) σ hT
      · refine k_iconst hX dM_degreeOf_272 ?_
        refine k_goto (tgt := 277) hX dM_degreeOf_273 (by decide) ?_
        refine k_less [false, false, false, false] (L' := [none, none, none, none]) rfl ?_
        exact tM_degreeOf_J277 hX hR 5 σ hT
    · refine k_iload_n hX dM_degreeOf_278 rfl ?_
      refine k_if_ne (tgt := 287) hX dM_degreeOf_279 (by decide) ?_ ?_
      · refine k_iconst hX dM_degreeOf_287 ?_
        refine k_less [false, false, false, false] (L' := [none, none, none, none]) rfl ?_
        exact tM_degreeOf_J288 hX hR (-1) σ hT
      · refine k_bipush hX dM_degreeOf_282 (by decide) ?_
        refine k_goto (tgt := 288) hX dM_degreeOf_284 (by decide) ?_
        refine k_less [false, false, false, false] (L' := [none, none, none, none]) rfl ?_
        exact tM_degreeOf_J288 hX hR 6 σ hT
    · refine k_less [false, false, false, false] (L' := [none, none, none, none]) rfl ?_
      exact tM_degreeOf_J300 hX hR σ hT
    · refine k_iload_n hX dM_degreeOf_289 rfl ?_
      refine k_if_ne (tgt := 298) hX dM_degreeOf_290 (by decide) ?_ ?_
      · refine k_iconst hX dM_degreeOf_298 ?_
        refine k_less [false, false, false, false] (L' := [none, none, none, none]) rfl ?_
        exact tM_degreeOf_J299 hX hR (-1) σ hT
      · refine k_bipush hX dM_degreeOf_293 (by decide) ?_
        refine k_goto (tgt := 299) hX dM_degreeOf_295 (by decide) ?_
        refine k_less [false, false, false, false] (L' := [none, none, none, none]) rfl ?_
        exact tM_degreeOf_J299 hX hR 7 σ hT
    · refine k_less [false, false, false, false] (L' := [none, none, none, none]) rfl ?_
      exact tM_degreeOf_J300 hX hR σ hT
  · refine k_iload_n hX dM_degreeOf_25 rfl ?_
    refine k_tsw (ts := [88, 164, 98, 164, 109, 120, 164, 130, 164, 140, 164, 152]) (te := 164) hX dM_degreeOf_26 (by decide) (by decide) rfl (by decide) (k_ts_c ?_ (k_ts_c ?_ (k_ts_c ?_ (k_ts_c ?_ (k_ts_c ?_ (k_ts_c ?_ (k_ts_c ?_ (k_ts_c ?_ (k_ts_c ?_ (k_ts_c ?_ (k_ts_c ?_ (k_ts_c ?_ (k_ts_n))))))))))))) ?_
    · refine k_iload_n hX dM_degreeOf_88 rfl ?_
      refine k_if_ne (tgt := 96) hX dM_degreeOf_89 (by decide) ?_ ?_
      · refine k_iconst hX dM_degreeOf_96 ?_
        refine k_less [false, false, false, false] (L' := [none, none, none, none]) rfl ?_
        exact tM_degreeOf_J97 hX hR (-1) σ hT
      · refine k_iconst hX dM_degreeOf_92 ?_
        refine k_goto (tgt := 97) hX dM_degreeOf_93 (by decide) ?_
        refine k_less [false, false, false, false] (L' := [none, none, none, none]) rfl ?_
        exact tM_degreeOf_J97 hX hR 1 σ hT
    · refine k_less [false, false, false, false] (L' := [none, none, none, none]) rfl ?_
      exact tM_degreeOf_J164 hX hR σ hT
    · refine k_iload_n hX dM_degreeOf_98 rfl ?_
      refine k_iconst hX dM_degreeOf_99 ?_
      refine k_icmp_ne (tgt := 107) hX dM_degreeOf_100 (by decide) ?_ ?_
      · refine k_iconst hX dM_degreeOf_107 ?_
        refine k_less [false, false, false, false] (L' := [none, none, none, none]) rfl ?_
        exact tM_degreeOf_J108 hX hR (-1) σ hT
      · refine k_iconst hX dM_degreeOf_103 ?_
        refine k_goto (tgt := 108) hX dM_degreeOf_104 (by decide) ?_
        refine k_less [false, false, false, false] (L' := [none, none, none, none]) rfl ?_
        exact tM_degreeOf_J108 hX hR 2 σ hT
    · refine k_less [false, false, false, false] (L' := [none, none, none, none]) rfl ?_
      exact tM_degreeOf_J164 hX hR σ hT
    · refine k_iload_n hX dM_degreeOf_109 rfl ?_
      refine k_iconst hX dM_degreeOf_110 ?_
      refine k_icmp_ne (tgt := 118) hX dM_degreeOf_111 (by decide) ?_ ?_
      · refine k_iconst hX dM_degreeOf_118 ?_
        refine k_less [false, false, false, false] (L' := [none, none, none, none]) rfl ?_
        exact tM_degreeOf_J119 hX hR (-1) σ hT
      · refine k_iconst hX dM_degreeOf_114 ?_
        refine k_goto (tgt := 119) hX dM_degreeOf_115 (by decide) ?_
        refine k_less [false, false, false, false] (L' := [none, none, none, none]) rfl ?_
        exact tM_degreeOf_J119 hX hR 3 σ hT
    · refine k_iload_n hX dM_degreeOf_120 rfl ?_
      refine k_if_ne (tgt := 128) hX dM_degreeOf_121 (by decide) ?_ ?_
      · refine k_iconst hX dM_degreeOf_128 ?_
        refine k_less [false, false, false, false] (L' := [none, none, none, none]) rfl ?_
        exact tM_degreeOf_J129 hX hR (-1) σ hT
      · refine k_iconst hX dM_degreeOf_124 ?_
        refine k_goto (tgt := 129) hX dM_degreeOf_125 (by decide) ?_
        refine k_less [false, false, false, false] (L' := [none, none, none, none]) rfl ?_
        exact tM_degreeOf_J129 hX hR 4 σ hT
    · refine k_less [false, false, false, false] (L' := [none, none, none, none]) rfl ?_
      exact tM_degreeOf_J164 hX hR σ hT
    · refine k_iload_n hX dM_degreeOf_130 rfl ?_
      refine k_if_ne (tgt := 138) hX dM_degreeOf_131 (by decide) ?_ ?_
      · refine k_iconst hX dM_degreeOf_138 ?_
        refine k_less [false, false, false, false] (L' := [none, none, none, none]) rfl ?_
        exact tM_degreeOf_J139 hX hR (-1) σ hT
      · refine k_iconst hX dM_degreeOf_134 ?_
        refine k_goto (tgt := 139) hX dM_degreeOf_135 (by decide) ?_
        refine k_less [false, false, false, false] (L' := [none, none, none, none]) rfl ?_
        exact tM_degreeOf_J139 hX hR 5 σ hT
    · refine k_less [false, false, false, false] (L' := [none, none, none, none]) rfl ?_
      exact tM_degreeOf_J164 hX hR σ hT
    · refine k_iload_n hX dM_degreeOf_140 rfl ?_
      refine k_iconst hX dM_degreeOf_141 ?_
      refine k_icmp_ne (tgt := 150) hX dM_degreeOf_142 (by decide) ?_ ?_
      · refine k_iconst hX dM_degreeOf_150 ?_
        refine k_less [false, false, false, false] (L' := [none, none, none, none]) rfl ?_
        exact tM_degreeOf_J151 hX hR (-1) σ hT
      · refine k_bipush hX dM_degreeOf_145 (by decide) ?_
        refine k_goto (tgt := 151) hX dM_degreeOf_147 (by decide) ?_
        refine k_less [false, false, false, false] (L' := [none, none, none, none]) rfl ?_
        exact tM_degreeOf_J151 hX hR 6 σ hT
    · refine k_less [false, false, false, false] (L' := [none, none, none, none]) rfl ?_
      exact tM_degreeOf_J164 hX hR σ hT
    · refine k_iload_n hX dM_degreeOf_152 rfl ?_
      refine k_iconst hX dM_degreeOf_153 ?_
      refine k_icmp_ne (tgt := 162) hX dM_degreeOf_154 (by decide) ?_ ?_
      · refine k_iconst hX dM_degreeOf_162 ?_
        refine k_less [false, false, false, false] (L' := [none, none, none, none]) rfl ?_
        exact tM_degreeOf_J163 hX hR (-1) σ hT
      · refine k_bipush hX dM_degreeOf_157 (by decide) ?_
        refine k_goto (tgt := 163) hX dM_degreeOf_159 (by decide) ?_
        refine k_less [false, false, false, false] (L' := [none, none, none, none]) rfl ?_
        exact tM_degreeOf_J163 hX hR 7 σ hT
    · refine k_less [false, false, false, false] (L' := [none, none, none, none]) rfl ?_
      exact tM_degreeOf_J164 hX hR σ hT
theorem cl_137 {X : KC} {d n : Nat} {cc : ByteArray} {pc : Nat} {L : List (Option KV)} {st : List KV} {σ : KM} {Z : Type} {Θ : Z → Prop} {G : Int → KM → Option Z} {x0 x1 : Int} (hX : kOk X d cc n "KeyPathModel") (hdd : 1 + 1 ≤ d) (hst : k_cat st ≤ 8) (hd : decode cc pc = .ok (.invokestatic 317, 3)) (h : ∀ r τ, kJ X (pc + 3) L (ki r :: st) τ (G r τ) Θ) : kJ X pc L (ki x1 :: ki x0 :: st) σ (kCall (fM_degreeOf x0 x1 σ) G) Θ :=
  k_callS (np := 2) (av := [ki x0, ki x1]) (ret := (some .int)) hX (sM_degreeOf _ _ σ) ⟨⟨hdd, by decide⟩, tw_1425, tw_11, by decide +kernel⟩ rfl tw_1423 tw_1424 hst hd h
