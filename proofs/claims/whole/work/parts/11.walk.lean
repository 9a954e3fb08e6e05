theorem dNo_end_0 : decode prog_5_method_9_code 0 = .ok (.iconst 0, 1) := by decide +kernel
theorem dNo_end_1 : decode prog_5_method_9_code 1 = .ok (.istore_n 1, 1) := by decide +kernel
theorem dNo_end_2 : decode prog_5_method_9_code 2 = .ok (.iconst 0, 1) := by decide +kernel
theorem dNo_end_3 : decode prog_5_method_9_code 3 = .ok (.istore_n 2, 1) := by decide +kernel
theorem dNo_end_4 : decode prog_5_method_9_code 4 = .ok (.iload_n 2, 1) := by decide +kernel
theorem dNo_end_5 : decode prog_5_method_9_code 5 = .ok (.aload_n 0, 1) := by decide +kernel
theorem dNo_end_6 : decode prog_5_method_9_code 6 = .ok (.getfield 21, 3) := by decide +kernel
theorem dNo_end_9 : decode prog_5_method_9_code 9 = .ok (.if_icmp .ge 27, 3) := by decide +kernel
theorem dNo_end_12 : decode prog_5_method_9_code 12 = .ok (.iload_n 1, 1) := by decide +kernel
theorem dNo_end_13 : decode prog_5_method_9_code 13 = .ok (.aload_n 0, 1) := by decide +kernel
theorem dNo_end_14 : decode prog_5_method_9_code 14 = .ok (.getfield 9, 3) := by decide +kernel
theorem dNo_end_17 : decode prog_5_method_9_code 17 = .ok (.iload_n 2, 1) := by decide +kernel
theorem dNo_end_18 : decode prog_5_method_9_code 18 = .ok (.iaload, 1) := by decide +kernel
theorem dNo_end_19 : decode prog_5_method_9_code 19 = .ok (.aload_n 0, 1) := by decide +kernel
theorem dNo_end_20 : decode prog_5_method_9_code 20 = .ok (.getfield 15, 3) := by decide +kernel
theorem dNo_end_23 : decode prog_5_method_9_code 23 = .ok (.iload_n 2, 1) := by decide +kernel
theorem dNo_end_24 : decode prog_5_method_9_code 24 = .ok (.iaload, 1) := by decide +kernel
theorem dNo_end_25 : decode prog_5_method_9_code 25 = .ok (.iadd, 1) := by decide +kernel
theorem dNo_end_26 : decode prog_5_method_9_code 26 = .ok (.invokestatic 39, 3) := by decide +kernel
theorem dNo_end_29 : decode prog_5_method_9_code 29 = .ok (.istore_n 1, 1) := by decide +kernel
theorem dNo_end_30 : decode prog_5_method_9_code 30 = .ok (.iinc 2 1, 3) := by decide +kernel
theorem dNo_end_33 : decode prog_5_method_9_code 33 = .ok (.goto (-29), 3) := by decide +kernel
theorem dNo_end_36 : decode prog_5_method_9_code 36 = .ok (.iload_n 1, 1) := by decide +kernel
theorem dNo_end_37 : decode prog_5_method_9_code 37 = .ok (.ireturn, 1) := by decide +kernel
set_option maxRecDepth 100000 in
set_option maxHeartbeats 4000000 in
theorem tNo_end_J36 {X : KC} {q : Int × KM} (hX : kOk X 1 prog_5_method_9_code 3 "KeyPath$Notes") (hR : kRet X (some .int) q) (x1 : Int) (σ : KM) {Θ : (Int × KM) → Prop} (hT : ∀ z, Θ (z) → z = q) : kJ X 36 [lq 3, li x1, none] [] σ (fNo_end_J36 x1 σ) Θ := by
  refine k_iload_n hX dNo_end_36 rfl ?_
  exact k_iret hX hR hT dNo_end_37
set_option maxRecDepth 100000 in
set_option maxHeartbeats 4000000 in
theorem tNo_end_B4 {X : KC} {q : Int × KM} (hX : kOk X 1 prog_5_method_9_code 3 "KeyPath$Notes") (hR : kRet X (some .int) q) (x1 x2 : Int) (σ : KM) {Θ : ((Int × Int × KM) ⊕ (Int × KM)) → Prop} (hT : ∀ z, Θ (.inr (z)) → z = q) (hb0 : ∀ s : Int × Int × KM, Θ (.inl s) → kW X 4 [lq 3, li s.1, li s.2.1] [] s.2.2) : kJ X 4 [lq 3, li x1, li x2] [] σ (fNo_end_B4 x1 x2 σ) Θ := by
  refine k_iload_n hX dNo_end_4 rfl ?_
  refine k_aload_n hX dNo_end_5 rfl ?_
  refine gf_3 hX dNo_end_6 ?_
  refine k_icmp_ge (tgt := 36) hX dNo_end_9 (by decide) ?_ ?_
  · refine k_exit ?_
    refine k_less [true, true, false] (L' := [lq 3, li x1, none]) rfl ?_
    exact tNo_end_J36 hX hR x1 σ hT
  · refine k_iload_n hX dNo_end_12 rfl ?_
    refine k_aload_n hX dNo_end_13 rfl ?_
    refine gf_4 hX dNo_end_14 ?_
    refine k_iload_n hX dNo_end_17 rfl ?_
    refine k_iald hX (by decide) rfl dNo_end_18 rfl (fun y1 => ?_)
    refine k_aload_n hX dNo_end_19 rfl ?_
    refine gf_5 hX dNo_end_20 ?_
    refine k_iload_n hX dNo_end_23 rfl ?_
    refine k_iald hX (by decide) rfl dNo_end_24 rfl (fun y2 => ?_)
    refine k_iadd hX dNo_end_25 ?_
    refine k_mmax hX (by decide) (Nat.le_of_ble_eq_true rfl) tw_534 tw_535 tw_12 tw_536 dNo_end_26 (fun y3 => ?_)
    refine k_istore_n (L' := [lq 3, li y3, li x2]) hX dNo_end_29 rfl (by decide) rfl ?_
    refine k_iincL (Lf := fun y4 => [lq 3, li y3, li y4]) hX dNo_end_30 rfl (by decide) rfl (fun _ => rfl) (fun y4 => ?_)
    refine k_goto (tgt := 4) hX dNo_end_33 (by decide) ?_
    exact k_back (hb0 (y3, y4, σ))
set_option maxRecDepth 100000 in
set_option maxHeartbeats 4000000 in
theorem tNo_end_L4 {X : KC} {q : Int × KM} (hX : kOk X 1 prog_5_method_9_code 3 "KeyPath$Notes") (hR : kRet X (some .int) q) (x1 x2 : Int) (σ : KM) {Θ : (Int × KM) → Prop} (hT : ∀ z, Θ (z) → z = q) : kJ X 4 [lq 3, li x1, li x2] [] σ (fNo_end_L4 x1 x2 σ) Θ :=
  k_iter (f := fun s => fNo_end_B4 s.1 s.2.1 s.2.2) (Lf := fun s => [lq 3, li s.1, li s.2.1]) (mf := fun s => s.2.2) (Θ := Θ) (fun s => tNo_end_B4 hX hR s.1 s.2.1 s.2.2 hT (fun _ h9 => h9)) kF (x1, x2, σ)
set_option maxRecDepth 100000 in
set_option maxHeartbeats 4000000 in
theorem sNo_end (σ : KM) : kSem 1 (⟨"KeyPath$Notes", "end", "()I"⟩ : MethodName) prog_5_method_9_code 3 (some .int) [kr 3] σ (fNo_end σ) := by
  refine kSem.of (L0 := [lq 3, none, none]) (by decide) (Nat.le_of_ble_eq_true rfl) rfl (fun X q hX hR => ?_)
  have hT : ∀ z : Int × KM, (fun z => z = q) z → z = q := fun _ h => h
  refine k_iconst hX dNo_end_0 ?_
  refine k_istore_n (L' := [lq 3, li 0, none]) hX dNo_end_1 rfl (by decide) rfl ?_
  refine k_iconst hX dNo_end_2 ?_
  refine k_istore_n (L' := [lq 3, li 0, li 0]) hX dNo_end_3 rfl (by decide) rfl ?_
  exact tNo_end_L4 hX hR 0 0 σ hT
theorem cl_0 {X : KC} {d n : Nat} {cc : ByteArray} {pc : Nat} {L : List (Option KV)} {st : List KV} {σ : KM} {Z : Type} {Θ : Z → Prop} {G : Int → KM → Option Z} (hX : kOk X d cc n "KeyPath$Windows") (hdd : 1 + 1 ≤ d) (hst : k_cat st ≤ 8) (hd : decode cc pc = .ok (.invokevirtual 32, 3)) (h : ∀ r τ, kJ X (pc + 3) L (ki r :: st) τ (G r τ) Θ) : kJ X pc L (kr 3 :: st) σ (kCall (fNo_end σ) G) Θ :=
  k_callV (np := 0) (av := []) (ret := (some .int)) hX (by decide) rfl rfl rfl (sNo_end σ) ⟨⟨hdd, by decide⟩, tw_533, tw_3, by decide +kernel⟩ rfl tw_548 tw_531 tw_532 hst hd h
theorem cl_41 {X : KC} {d n : Nat} {cc : ByteArray} {pc : Nat} {L : List (Option KV)} {st : List KV} {σ : KM} {Z : Type} {Θ : Z → Prop} {G : Int → KM → Option Z} (hX : kOk X d cc n "KeyPath") (hdd : 1 + 1 ≤ d) (hst : k_cat st ≤ 8) (hd : decode cc pc = .ok (.invokevirtual 141, 3)) (h : ∀ r τ, kJ X (pc + 3) L (ki r :: st) τ (G r τ) Θ) : kJ X pc L (kr 3 :: st) σ (kCall (fNo_end σ) G) Θ :=
  k_callV (np := 0) (av := []) (ret := (some .int)) hX (by decide) rfl rfl rfl (sNo_end σ) ⟨⟨hdd, by decide⟩, tw_533, tw_3, by decide +kernel⟩ rfl tw_530 tw_531 tw_532 hst hd h
theorem dWi_beginsAhead_0 : decode prog_9_method_2_code 0 = .ok (.iload_n 1, 1) := by decide +kernel
theorem dWi_beginsAhead_1 : decode prog_9_method_2_code 1 = .ok (.iconst 1, 1) := by decide +kernel
theorem dWi_beginsAhead_2 : decode prog_9_method_2_code 2 = .ok (.if_icmp .ge 7, 3) := by decide +kernel
theorem dWi_beginsAhead_5 : decode prog_9_method_2_code 5 = .ok (.iconst 0, 1) := by decide +kernel
theorem dWi_beginsAhead_6 : decode prog_9_method_2_code 6 = .ok (.goto 10, 3) := by decide +kernel
theorem dWi_beginsAhead_9 : decode prog_9_method_2_code 9 = .ok (.iload_n 0, 1) := by decide +kernel
theorem dWi_beginsAhead_10 : decode prog_9_method_2_code 10 = .ok (.iload_n 1, 1) := by decide +kernel
theorem dWi_beginsAhead_11 : decode prog_9_method_2_code 11 = .ok (.iadd, 1) := by decide +kernel
theorem dWi_beginsAhead_12 : decode prog_9_method_2_code 12 = .ok (.iconst 1, 1) := by decide +kernel
theorem dWi_beginsAhead_13 : decode prog_9_method_2_code 13 = .ok (.isub, 1) := by decide +kernel
theorem dWi_beginsAhead_14 : decode prog_9_method_2_code 14 = .ok (.iload_n 1, 1) := by decide +kernel
theorem dWi_beginsAhead_15 : decode prog_9_method_2_code 15 = .ok (.idiv, 1) := by decide +kernel
theorem dWi_beginsAhead_16 : decode prog_9_method_2_code 16 = .ok (.ireturn, 1) := by decide +kernel
set_option maxRecDepth 100000 in
set_option maxHeartbeats 4000000 in
theorem tWi_beginsAhead_J16 {X : KC} {q : Int × KM} (hX : kOk X 1 prog_9_method_2_code 2 "KeyPath$Windows") (hR : kRet X (some .int) q) (t0 : Int) (σ : KM) {Θ : (Int × KM) → Prop} (hT : ∀ z, Θ (z) → z = q) : kJ X 16 [none, none] [ki t0] σ (fWi_beginsAhead_J16 t0 σ) Θ := by
  exact k_iret hX hR hT dWi_beginsAhead_16
set_option maxRecDepth 100000 in
set_option maxHeartbeats 4000000 in
theorem sWi_beginsAhead (x0 x1 : Int) (σ : KM) : kSem 1 (⟨"KeyPath$Windows", "beginsAhead", "(II)I"⟩ : MethodName) prog_9_method_2_code 2 (some .int) [ki x0, ki x1] σ (fWi_beginsAhead x0 x1 σ) := by
  refine kSem.of (L0 := [li x0, li x1]) (by decide) (Nat.le_of_ble_eq_true rfl) rfl (fun X q hX hR => ?_)
  have hT : ∀ z : Int × KM, (fun z => z = q) z → z = q := fun _ h => h
  refine k_iload_n hX dWi_beginsAhead_0 rfl ?_
  refine k_iconst hX dWi_beginsAhead_1 ?_
  refine k_icmp_ge (tgt := 9) hX dWi_beginsAhead_2 (by decide) ?_ ?_
  · refine k_iload_n hX dWi_beginsAhead_9 rfl ?_
    refine k_iload_n hX dWi_beginsAhead_10 rfl ?_
    refine k_iadd hX dWi_beginsAhead_11 ?_
    refine k_iconst hX dWi_beginsAhead_12 ?_
    refine k_isub hX dWi_beginsAhead_13 ?_
    refine k_iload_n hX dWi_beginsAhead_14 rfl ?_
    refine k_idiv hX dWi_beginsAhead_15 (fun y1 => ?_)
    refine k_less [false, false] (L' := [none, none]) rfl ?_
    exact tWi_beginsAhead_J16 hX hR y1 σ hT
  · refine k_iconst hX dWi_beginsAhead_5 ?_
    refine k_goto (tgt := 16) hX dWi_beginsAhead_6 (by decide) ?_
    refine k_less [false, false] (L' := [none, none]) rfl ?_
    exact tWi_beginsAhead_J16 hX hR 0 σ hT
theorem cl_1 {X : KC} {d n : Nat} {cc : ByteArray} {pc : Nat} {L : List (Option KV)} {st : List KV} {σ : KM} {Z : Type} {Θ : Z → Prop} {G : Int → KM → Option Z} {x0 x1 : Int} (hX : kOk X d cc n "KeyPath$Windows") (hdd : 1 + 1 ≤ d) (hst : k_cat st ≤ 8) (hd : decode cc pc = .ok (.invokestatic 38, 3)) (h : ∀ r τ, kJ X (pc + 3) L (ki r :: st) τ (G r τ) Θ) : kJ X pc L (ki x1 :: ki x0 :: st) σ (kCall (fWi_beginsAhead x0 x1 σ) G) Θ :=
  k_callS (np := 2) (av := [ki x0, ki x1]) (ret := (some .int)) hX (sWi_beginsAhead _ _ σ) ⟨⟨hdd, by decide⟩, tw_539, tw_5, by decide +kernel⟩ rfl tw_549 tw_538 hst hd h
theorem cl_110 {X : KC} {d n : Nat} {cc : ByteArray} {pc : Nat} {L : List (Option KV)} {st : List KV} {σ : KM} {Z : Type} {Θ : Z → Prop} {G : Int → KM → Option Z} {x0 x1 : Int} (hX : kOk X d cc n "KeyPath") (hdd : 1 + 1 ≤ d) (hst : k_cat st ≤ 8) (hd : decode cc pc = .ok (.invokestatic 145, 3)) (h : ∀ r τ, kJ X (pc + 3) L (ki r :: st) τ (G r τ) Θ) : kJ X pc L (ki x1 :: ki x0 :: st) σ (kCall (fWi_beginsAhead x0 x1 σ) G) Θ :=
  k_callS (np := 2) (av := [ki x0, ki x1]) (ret := (some .int)) hX (sWi_beginsAhead _ _ σ) ⟨⟨hdd, by decide⟩, tw_539, tw_5, by decide +kernel⟩ rfl tw_537 tw_538 hst hd h
theorem dAr_rangeCheck_0 : decode prog_18_method_30_code 0 = .ok (.iload_n 1, 1) := by decide +kernel
theorem dAr_rangeCheck_1 : decode prog_18_method_30_code 1 = .ok (.iload_n 2, 1) := by decide +kernel
theorem dAr_rangeCheck_2 : decode prog_18_method_30_code 2 = .ok (.if_icmp .le 44, 3) := by decide +kernel
theorem dAr_rangeCheck_46 : decode prog_18_method_30_code 46 = .ok (.iload_n 1, 1) := by decide +kernel
theorem dAr_rangeCheck_47 : decode prog_18_method_30_code 47 = .ok (.ifCond .ge 12, 3) := by decide +kernel
theorem dAr_rangeCheck_59 : decode prog_18_method_30_code 59 = .ok (.iload_n 2, 1) := by decide +kernel
theorem dAr_rangeCheck_60 : decode prog_18_method_30_code 60 = .ok (.iload_n 0, 1) := by decide +kernel
theorem dAr_rangeCheck_61 : decode prog_18_method_30_code 61 = .ok (.if_icmp .le 12, 3) := by decide +kernel
theorem dAr_rangeCheck_73 : decode prog_18_method_30_code 73 = .ok (.return_, 1) := by decide +kernel
set_option maxRecDepth 100000 in
set_option maxHeartbeats 4000000 in
theorem sAr_rangeCheck (x0 x1 x2 : Int) (σ : KM) : kSem 1 (⟨"java/util/Arrays", "rangeCheck", "(III)V"⟩ : MethodName) prog_18_method_30_code 3 none [ki x0, ki x1, ki x2] σ (fAr_rangeCheck x0 x1 x2 σ) := by
  refine kSem.of (L0 := [li x0, li x1, li x2]) (by decide) (Nat.le_of_ble_eq_true rfl) rfl (fun X q hX hR => ?_)
  have hT : ∀ z : Int × KM, (fun z => z = q) z → z = q := fun _ h => h
  refine k_iload_n hX dAr_rangeCheck_0 rfl ?_
  refine k_iload_n hX dAr_rangeCheck_1 rfl ?_
  refine k_icmp_le (tgt := 46) hX dAr_rangeCheck_2 (by decide) ?_ ?_
  · refine k_iload_n hX dAr_rangeCheck_46 rfl ?_
    refine k_if_ge (tgt := 59) hX dAr_rangeCheck_47 (by decide) ?_ ?_
    · refine k_iload_n hX dAr_rangeCheck_59 rfl ?_
      refine k_iload_n hX dAr_rangeCheck_60 rfl ?_
      refine k_icmp_le (tgt := 73) hX dAr_rangeCheck_61 (by decide) ?_ ?_
      · exact k_vret hX hR hT dAr_rangeCheck_73
      · exact k_none
    · exact k_none
  · exact k_none
theorem cl_2 {X : KC} {d n : Nat} {cc : ByteArray} {pc : Nat} {L : List (Option KV)} {st : List KV} {σ : KM} {Z : Type} {Θ : Z → Prop} {G : Int → KM → Option Z} {x0 x1 x2 : Int} (hX : kOk X d cc n "java/util/Arrays") (hdd : 1 + 1 ≤ d) (hst : k_cat st ≤ 8) (hd : decode cc pc = .ok (.invokestatic 13, 3)) (h : ∀ r τ, kJ X (pc + 3) L (st) τ (G r τ) Θ) : kJ X pc L (ki x2 :: ki x1 :: ki x0 :: st) σ (kCall (fAr_rangeCheck x0 x1 x2 σ) G) Θ :=
  k_callS (np := 3) (av := [ki x0, ki x1, ki x2]) (ret := none) hX (sAr_rangeCheck _ _ _ σ) ⟨⟨hdd, by decide⟩, tw_560, tw_9, by decide +kernel⟩ rfl tw_558 tw_559 hst hd h
theorem dAr_fill4_24_0 : decode prog_18_method_104_code 0 = .ok (.aload_n 0, 1) := by decide +kernel
theorem dAr_fill4_24_1 : decode prog_18_method_104_code 1 = .ok (.arraylength, 1) := by decide +kernel
theorem dAr_fill4_24_2 : decode prog_18_method_104_code 2 = .ok (.iload_n 1, 1) := by decide +kernel
theorem dAr_fill4_24_3 : decode prog_18_method_104_code 3 = .ok (.iload_n 2, 1) := by decide +kernel
theorem dAr_fill4_24_4 : decode prog_18_method_104_code 4 = .ok (.invokestatic 13, 3) := by decide +kernel
theorem dAr_fill4_24_7 : decode prog_18_method_104_code 7 = .ok (.iload_n 1, 1) := by decide +kernel
theorem dAr_fill4_24_8 : decode prog_18_method_104_code 8 = .ok (.istore 4, 2) := by decide +kernel
theorem dAr_fill4_24_10 : decode prog_18_method_104_code 10 = .ok (.iload 4, 2) := by decide +kernel
theorem dAr_fill4_24_12 : decode prog_18_method_104_code 12 = .ok (.iload_n 2, 1) := by decide +kernel
theorem dAr_fill4_24_13 : decode prog_18_method_104_code 13 = .ok (.if_icmp .ge 14, 3) := by decide +kernel
theorem dAr_fill4_24_16 : decode prog_18_method_104_code 16 = .ok (.aload_n 0, 1) := by decide +kernel
theorem dAr_fill4_24_17 : decode prog_18_method_104_code 17 = .ok (.iload 4, 2) := by decide +kernel
theorem dAr_fill4_24_19 : decode prog_18_method_104_code 19 = .ok (.iload_n 3, 1) := by decide +kernel
theorem dAr_fill4_24_20 : decode prog_18_method_104_code 20 = .ok (.iastore, 1) := by decide +kernel
theorem dAr_fill4_24_21 : decode prog_18_method_104_code 21 = .ok (.iinc 4 1, 3) := by decide +kernel
theorem dAr_fill4_24_24 : decode prog_18_method_104_code 24 = .ok (.goto (-14), 3) := by decide +kernel
theorem dAr_fill4_24_27 : decode prog_18_method_104_code 27 = .ok (.return_, 1) := by decide +kernel
set_option maxRecDepth 100000 in
set_option maxHeartbeats 4000000 in
theorem tAr_fill4_24_J27 {X : KC} {q : Int × KM} (hX : kOk X 2 prog_18_method_104_code 5 "java/util/Arrays") (hR : kRet X none q) (σ : KM) {Θ : (Int × KM) → Prop} (hT : ∀ z, Θ (z) → z = q) : kJ X 27 [lq 24, none, none, none, none] [] σ (fAr_fill4_24_J27 σ) Θ := by
  exact k_vret hX hR hT dAr_fill4_24_27
set_option maxRecDepth 100000 in
set_option maxHeartbeats 4000000 in
theorem tAr_fill4_24_B10 {X : KC} {q : Int × KM} (hX : kOk X 2 prog_18_method_104_code 5 "java/util/Arrays") (hR : kRet X none q) (x2 x3 x4 : Int) (σ : KM) {Θ : ((Int × KM) ⊕ (Int × KM)) → Prop} (hT : ∀ z, Θ (.inr (z)) → z = q) (hb0 : ∀ s : Int × KM, Θ (.inl s) → kW X 10 [lq 24, none, li x2, li x3, li s.1] [] s.2) : kJ X 10 [lq 24, none, li x2, li x3, li x4] [] σ (fAr_fill4_24_B10 x2 x3 x4 σ) Θ := by
  refine k_iload hX dAr_fill4_24_10 rfl ?_
  refine k_iload_n hX dAr_fill4_24_12 rfl ?_
  refine k_icmp_ge (tgt := 27) hX dAr_fill4_24_13 (by decide) ?_ ?_
  · refine k_exit ?_
    refine k_less [true, true, false, false, false] (L' := [lq 24, none, none, none, none]) rfl ?_
    exact tAr_fill4_24_J27 hX hR σ hT
  · refine k_aload_n hX dAr_fill4_24_16 rfl ?_
    refine k_iload hX dAr_fill4_24_17 rfl ?_
    refine k_iload_n hX dAr_fill4_24_19 rfl ?_
    refine k_iast hX (by decide) rfl dAr_fill4_24_20 rfl (fun τ1 => ?_)
    refine k_iincL (Lf := fun y2 => [lq 24, none, li x2, li x3, li y2]) hX dAr_fill4_24_21 rfl (by decide) rfl (fun _ => rfl) (fun y2 => ?_)
    refine k_goto (tgt := 10) hX dAr_fill4_24_24 (by decide) ?_
    exact k_back (hb0 (y2, τ1))
set_option maxRecDepth 100000 in
set_option maxHeartbeats 4000000 in
theorem tAr_fill4_24_L10 {X : KC} {q : Int × KM} (hX : kOk X 2 prog_18_method_104_code 5 "java/util/Arrays") (hR : kRet X none q) (x2 x3 x4 : Int) (σ : KM) {Θ : (Int × KM) → Prop} (hT : ∀ z, Θ (z) → z = q) : kJ X 10 [lq 24, none, li x2, li x3, li x4] [] σ (fAr_fill4_24_L10 x2 x3 x4 σ) Θ :=
  k_iter (f := fun s => fAr_fill4_24_B10 x2 x3 s.1 s.2) (Lf := fun s => [lq 24, none, li x2, li x3, li s.1]) (mf := fun s => s.2) (Θ := Θ) (fun s => tAr_fill4_24_B10 hX hR x2 x3 s.1 s.2 hT (fun _ h9 => h9)) kF (x4, σ)
set_option maxRecDepth 100000 in
set_option maxHeartbeats 4000000 in
theorem sAr_fill4_24 (x1 x2 x3 : Int) (σ : KM) : kSem 2 (⟨"java/util/Arrays", "fill", "([IIII)V"⟩ : MethodName) prog_18_method_104_code 5 none [kr 24, ki x1, ki x2, ki x3] σ (fAr_fill4_24 x1 x2 x3 σ) := by
  refine kSem.of (L0 := [lq 24, li x1, li x2, li x3, none]) (by decide) (Nat.le_of_ble_eq_true rfl) rfl (fun X q hX hR => ?_)
  have hT : ∀ z : Int × KM, (fun z => z = q) z → z = q := fun _ h => h
  refine k_aload_n hX dAr_fill4_24_0 rfl ?_
  refine k_alen (N := 588) hX (by decide) (by decide) rfl dAr_fill4_24_1 ?_
  refine k_iload_n hX dAr_fill4_24_2 rfl ?_
  refine k_iload_n hX dAr_fill4_24_3 rfl ?_
  refine cl_2 hX (by decide) (Nat.le_of_ble_eq_true rfl) dAr_fill4_24_4 (fun _ τ1 => ?_)
  refine k_iload_n hX dAr_fill4_24_7 rfl ?_
  refine k_istore (L' := [lq 24, li x1, li x2, li x3, li x1]) hX dAr_fill4_24_8 rfl (by decide) rfl ?_
  refine k_less [true, false, true, true, true] (L' := [lq 24, none, li x2, li x3, li x1]) rfl ?_
  exact tAr_fill4_24_L10 hX hR x2 x3 x1 τ1 hT
theorem cl_3 {X : KC} {d n : Nat} {cc : ByteArray} {pc : Nat} {L : List (Option KV)} {st : List KV} {σ : KM} {Z : Type} {Θ : Z → Prop} {G : Int → KM → Option Z} {x1 x2 x3 : Int} (hX : kOk X d cc n "KeyPath$Windows") (hdd : 2 + 1 ≤ d) (hst : k_cat st ≤ 8) (hd : decode cc pc = .ok (.invokestatic 58, 3)) (h : ∀ r τ, kJ X (pc + 3) L (st) τ (G r τ) Θ) : kJ X pc L (ki x3 :: ki x2 :: ki x1 :: kr 24 :: st) σ (kCall (fAr_fill4_24 x1 x2 x3 σ) G) Θ :=
  k_callS (np := 4) (av := [kr 24, ki x1, ki x2, ki x3]) (ret := none) hX (sAr_fill4_24 _ _ _ σ) ⟨⟨hdd, by decide⟩, tw_557, tw_9, by decide +kernel⟩ rfl tw_555 tw_556 hst hd h
theorem dWi_countSpan_0 : decode prog_9_method_4_code 0 = .ok (.aload_n 0, 1) := by decide +kernel
theorem dWi_countSpan_1 : decode prog_9_method_4_code 1 = .ok (.getfield 18, 3) := by decide +kernel
theorem dWi_countSpan_4 : decode prog_9_method_4_code 4 = .ok (.iload_n 2, 1) := by decide +kernel
theorem dWi_countSpan_5 : decode prog_9_method_4_code 5 = .ok (.bipush 12, 2) := by decide +kernel
theorem dWi_countSpan_7 : decode prog_9_method_4_code 7 = .ok (.imul, 1) := by decide +kernel
theorem dWi_countSpan_8 : decode prog_9_method_4_code 8 = .ok (.iload_n 2, 1) := by decide +kernel
theorem dWi_countSpan_9 : decode prog_9_method_4_code 9 = .ok (.iconst 1, 1) := by decide +kernel
theorem dWi_countSpan_10 : decode prog_9_method_4_code 10 = .ok (.iadd, 1) := by decide +kernel
theorem dWi_countSpan_11 : decode prog_9_method_4_code 11 = .ok (.bipush 12, 2) := by decide +kernel
theorem dWi_countSpan_13 : decode prog_9_method_4_code 13 = .ok (.imul, 1) := by decide +kernel
theorem dWi_countSpan_14 : decode prog_9_method_4_code 14 = .ok (.iconst 0, 1) := by decide +kernel
theorem dWi_countSpan_15 : decode prog_9_method_4_code 15 = .ok (.invokestatic 58, 3) := by decide +kernel
theorem dWi_countSpan_18 : decode prog_9_method_4_code 18 = .ok (.aload_n 0, 1) := by decide +kernel
theorem dWi_countSpan_19 : decode prog_9_method_4_code 19 = .ok (.getfield 22, 3) := by decide +kernel
theorem dWi_countSpan_22 : decode prog_9_method_4_code 22 = .ok (.iload_n 2, 1) := by decide +kernel
theorem dWi_countSpan_23 : decode prog_9_method_4_code 23 = .ok (.iconst 0, 1) := by decide +kernel
theorem dWi_countSpan_24 : decode prog_9_method_4_code 24 = .ok (.iastore, 1) := by decide +kernel
theorem dWi_countSpan_25 : decode prog_9_method_4_code 25 = .ok (.iconst 0, 1) := by decide +kernel
theorem dWi_countSpan_26 : decode prog_9_method_4_code 26 = .ok (.istore 5, 2) := by decide +kernel
theorem dWi_countSpan_28 : decode prog_9_method_4_code 28 = .ok (.iload 5, 2) := by decide +kernel
theorem dWi_countSpan_30 : decode prog_9_method_4_code 30 = .ok (.aload_n 1, 1) := by decide +kernel
theorem dWi_countSpan_31 : decode prog_9_method_4_code 31 = .ok (.getfield 64, 3) := by decide +kernel
theorem dWi_countSpan_34 : decode prog_9_method_4_code 34 = .ok (.if_icmp .ge 93, 3) := by decide +kernel
theorem dWi_countSpan_37 : decode prog_9_method_4_code 37 = .ok (.iload_n 3, 1) := by decide +kernel
theorem dWi_countSpan_38 : decode prog_9_method_4_code 38 = .ok (.aload_n 1, 1) := by decide +kernel
theorem dWi_countSpan_39 : decode prog_9_method_4_code 39 = .ok (.getfield 65, 3) := by decide +kernel
theorem dWi_countSpan_42 : decode prog_9_method_4_code 42 = .ok (.iload 5, 2) := by decide +kernel
theorem dWi_countSpan_44 : decode prog_9_method_4_code 44 = .ok (.iaload, 1) := by decide +kernel
theorem dWi_countSpan_45 : decode prog_9_method_4_code 45 = .ok (.invokestatic 68, 3) := by decide +kernel
theorem dWi_countSpan_48 : decode prog_9_method_4_code 48 = .ok (.istore 6, 2) := by decide +kernel
theorem dWi_countSpan_50 : decode prog_9_method_4_code 50 = .ok (.iload 4, 2) := by decide +kernel
theorem dWi_countSpan_52 : decode prog_9_method_4_code 52 = .ok (.aload_n 1, 1) := by decide +kernel
theorem dWi_countSpan_53 : decode prog_9_method_4_code 53 = .ok (.getfield 65, 3) := by decide +kernel
theorem dWi_countSpan_56 : decode prog_9_method_4_code 56 = .ok (.iload 5, 2) := by decide +kernel
theorem dWi_countSpan_58 : decode prog_9_method_4_code 58 = .ok (.iaload, 1) := by decide +kernel
theorem dWi_countSpan_59 : decode prog_9_method_4_code 59 = .ok (.aload_n 1, 1) := by decide +kernel
theorem dWi_countSpan_60 : decode prog_9_method_4_code 60 = .ok (.getfield 71, 3) := by decide +kernel
theorem dWi_countSpan_63 : decode prog_9_method_4_code 63 = .ok (.iload 5, 2) := by decide +kernel
theorem dWi_countSpan_65 : decode prog_9_method_4_code 65 = .ok (.iaload, 1) := by decide +kernel
theorem dWi_countSpan_66 : decode prog_9_method_4_code 66 = .ok (.iadd, 1) := by decide +kernel
theorem dWi_countSpan_67 : decode prog_9_method_4_code 67 = .ok (.invokestatic 42, 3) := by decide +kernel
theorem dWi_countSpan_70 : decode prog_9_method_4_code 70 = .ok (.istore 7, 2) := by decide +kernel
theorem dWi_countSpan_72 : decode prog_9_method_4_code 72 = .ok (.iload 7, 2) := by decide +kernel
theorem dWi_countSpan_74 : decode prog_9_method_4_code 74 = .ok (.iload 6, 2) := by decide +kernel
theorem dWi_countSpan_76 : decode prog_9_method_4_code 76 = .ok (.if_icmp .le 45, 3) := by decide +kernel
theorem dWi_countSpan_79 : decode prog_9_method_4_code 79 = .ok (.aload_n 0, 1) := by decide +kernel
theorem dWi_countSpan_80 : decode prog_9_method_4_code 80 = .ok (.getfield 18, 3) := by decide +kernel
theorem dWi_countSpan_83 : decode prog_9_method_4_code 83 = .ok (.iload_n 2, 1) := by decide +kernel
theorem dWi_countSpan_84 : decode prog_9_method_4_code 84 = .ok (.bipush 12, 2) := by decide +kernel
theorem dWi_countSpan_86 : decode prog_9_method_4_code 86 = .ok (.imul, 1) := by decide +kernel
theorem dWi_countSpan_87 : decode prog_9_method_4_code 87 = .ok (.aload_n 1, 1) := by decide +kernel
theorem dWi_countSpan_88 : decode prog_9_method_4_code 88 = .ok (.getfield 74, 3) := by decide +kernel
theorem dWi_countSpan_91 : decode prog_9_method_4_code 91 = .ok (.iload 5, 2) := by decide +kernel
theorem dWi_countSpan_93 : decode prog_9_method_4_code 93 = .ok (.iaload, 1) := by decide +kernel
theorem dWi_countSpan_94 : decode prog_9_method_4_code 94 = .ok (.bipush 12, 2) := by decide +kernel
theorem dWi_countSpan_96 : decode prog_9_method_4_code 96 = .ok (.irem, 1) := by decide +kernel
theorem dWi_countSpan_97 : decode prog_9_method_4_code 97 = .ok (.iadd, 1) := by decide +kernel
theorem dWi_countSpan_98 : decode prog_9_method_4_code 98 = .ok (.dup2, 1) := by decide +kernel
theorem dWi_countSpan_99 : decode prog_9_method_4_code 99 = .ok (.iaload, 1) := by decide +kernel
theorem dWi_countSpan_100 : decode prog_9_method_4_code 100 = .ok (.iload 7, 2) := by decide +kernel
theorem dWi_countSpan_102 : decode prog_9_method_4_code 102 = .ok (.iload 6, 2) := by decide +kernel
theorem dWi_countSpan_104 : decode prog_9_method_4_code 104 = .ok (.isub, 1) := by decide +kernel
theorem dWi_countSpan_105 : decode prog_9_method_4_code 105 = .ok (.iadd, 1) := by decide +kernel
theorem dWi_countSpan_106 : decode prog_9_method_4_code 106 = .ok (.iastore, 1) := by decide +kernel
theorem dWi_countSpan_107 : decode prog_9_method_4_code 107 = .ok (.aload_n 0, 1) := by decide +kernel
theorem dWi_countSpan_108 : decode prog_9_method_4_code 108 = .ok (.getfield 22, 3) := by decide +kernel
theorem dWi_countSpan_111 : decode prog_9_method_4_code 111 = .ok (.iload_n 2, 1) := by decide +kernel
theorem dWi_countSpan_112 : decode prog_9_method_4_code 112 = .ok (.dup2, 1) := by decide +kernel
theorem dWi_countSpan_113 : decode prog_9_method_4_code 113 = .ok (.iaload, 1) := by decide +kernel
theorem dWi_countSpan_114 : decode prog_9_method_4_code 114 = .ok (.iload 7, 2) := by decide +kernel
theorem dWi_countSpan_116 : decode prog_9_method_4_code 116 = .ok (.iload 6, 2) := by decide +kernel
theorem dWi_countSpan_118 : decode prog_9_method_4_code 118 = .ok (.isub, 1) := by decide +kernel
theorem dWi_countSpan_119 : decode prog_9_method_4_code 119 = .ok (.iadd, 1) := by decide +kernel
theorem dWi_countSpan_120 : decode prog_9_method_4_code 120 = .ok (.iastore, 1) := by decide +kernel
theorem dWi_countSpan_121 : decode prog_9_method_4_code 121 = .ok (.iinc 5 1, 3) := by decide +kernel
theorem dWi_countSpan_124 : decode prog_9_method_4_code 124 = .ok (.goto (-96), 3) := by decide +kernel
theorem dWi_countSpan_127 : decode prog_9_method_4_code 127 = .ok (.return_, 1) := by decide +kernel
set_option maxRecDepth 100000 in
set_option maxHeartbeats 4000000 in
theorem tWi_countSpan_J127 {X : KC} {q : Int × KM} (hX : kOk X 3 prog_9_method_4_code 8 "KeyPath$Windows") (hR : kRet X none q) (σ : KM) {Θ : (Int × KM) → Prop} (hT : ∀ z, Θ (z) → z = q) : kJ X 127 [lq 5, lq 3, none, none, none, none, none, none] [] σ (fWi_countSpan_J127 σ) Θ := by
  exact k_vret hX hR hT dWi_countSpan_127
set_option maxRecDepth 100000 in
set_option maxHeartbeats 4000000 in
theorem tWi_countSpan_J121 {X : KC} {q : Int × KM} (hX : kOk X 3 prog_9_method_4_code 8 "KeyPath$Windows") (hR : kRet X none q) (x2 x3 x4 x5 : Int) (σ : KM) {Θ : ((Int × KM) ⊕ (Int × KM)) → Prop} (hT : ∀ z, Θ (.inr (z)) → z = q) (hb0 : ∀ s : Int × KM, Θ (.inl s) → kW X 28 [lq 5, lq 3, li x2, li x3, li x4, li s.1, none, none] [] s.2) : kJ X 121 [lq 5, lq 3, li x2, li x3, li x4, li x5, none, none] [] σ (fWi_countSpan_J121 x2 x3 x4 x5 σ) Θ := by
  refine k_iincL (Lf := fun y1 => [lq 5, lq 3, li x2, li x3, li x4, li y1, none, none]) hX dWi_countSpan_121 rfl (by decide) rfl (fun _ => rfl) (fun y1 => ?_)
  refine k_goto (tgt := 28) hX dWi_countSpan_124 (by decide) ?_
  exact k_back (hb0 (y1, σ))
set_option maxRecDepth 100000 in
set_option maxHeartbeats 4000000 in
theorem tWi_countSpan_B28 {X : KC} {q : Int × KM} (hX : kOk X 3 prog_9_method_4_code 8 "KeyPath$Windows") (hR : kRet X none q) (x2 x3 x4 x5 : Int) (σ : KM) {Θ : ((Int × KM) ⊕ (Int × KM)) → Prop} (hT : ∀ z, Θ (.inr (z)) → z = q) (hb0 : ∀ s : Int × KM, Θ (.inl s) → kW X 28 [lq 5, lq 3, li x2, li x3, li x4, li s.1, none, none] [] s.2) : kJ X 28 [lq 5, lq 3, li x2, li x3, li x4, li x5, none, none] [] σ (fWi_countSpan_B28 x2 x3 x4 x5 σ) Θ := by
  refine k_iload hX dWi_countSpan_28 rfl ?_
  refine k_aload_n hX dWi_countSpan_30 rfl ?_
  refine gf_11 hX dWi_countSpan_31 ?_
  refine k_icmp_ge (tgt := 127) hX dWi_countSpan_34 (by decide) ?_ ?_
  · refine k_exit ?_
    refine k_less [true, true, false, false, false, false, true, true] (L' := [lq 5, lq 3, none, none, none, none, none, none]) rfl ?_
    exact tWi_countSpan_J127 hX hR σ hT
  · refine k_iload_n hX dWi_countSpan_37 rfl ?_
    refine k_aload_n hX dWi_countSpan_38 rfl ?_
    refine gf_12 hX dWi_countSpan_39 ?_
    refine k_iload hX dWi_countSpan_42 rfl ?_
    refine k_iald hX (by decide) rfl dWi_countSpan_44 rfl (fun y1 => ?_)
    refine k_mmax hX (by decide) (Nat.le_of_ble_eq_true rfl) tw_561 tw_535 tw_12 tw_536 dWi_countSpan_45 (fun y2 => ?_)
    refine k_istore (L' := [lq 5, lq 3, li x2, li x3, li x4, li x5, li y2, none]) hX dWi_countSpan_48 rfl (by decide) rfl ?_
    refine k_iload hX dWi_countSpan_50 rfl ?_
    refine k_aload_n hX dWi_countSpan_52 rfl ?_
    refine gf_12 hX dWi_countSpan_53 ?_
    refine k_iload hX dWi_countSpan_56 rfl ?_
    refine k_iald hX (by decide) rfl dWi_countSpan_58 rfl (fun y3 => ?_)
    refine k_aload_n hX dWi_countSpan_59 rfl ?_
    refine gf_13 hX dWi_countSpan_60 ?_
    refine k_iload hX dWi_countSpan_63 rfl ?_
    refine k_iald hX (by decide) rfl dWi_countSpan_65 rfl (fun y4 => ?_)
    refine k_iadd hX dWi_countSpan_66 ?_
    refine k_mmin hX (by decide) (Nat.le_of_ble_eq_true rfl) tw_550 tw_379 tw_12 tw_380 dWi_countSpan_67 (fun y5 => ?_)
    refine k_istore (L' := [lq 5, lq 3, li x2, li x3, li x4, li x5, li y2, li y5]) hX dWi_countSpan_70 rfl (by decide) rfl ?_
    refine k_iload hX dWi_countSpan_72 rfl ?_
    refine k_iload hX dWi_countSpan_74 rfl ?_
    refine k_icmp_le (tgt := 121) hX dWi_countSpan_76 (by decide) ?_ ?_
    · refine k_less [true, true, true, true, true, true, false, false] (L' := [lq 5, lq 3, li x2, li x3, li x4, li x5, none, none]) rfl ?_
      exact tWi_countSpan_J121 hX hR x2 x3 x4 x5 σ hT hb0
    · refine k_aload_n hX dWi_countSpan_79 rfl ?_
      refine gf_9 hX dWi_countSpan_80 ?_
      refine k_iload_n hX dWi_countSpan_83 rfl ?_
      refine k_bipush hX dWi_countSpan_84 (by decide) ?_
      refine k_imul hX dWi_countSpan_86 ?_
      refine k_aload_n hX dWi_countSpan_87 rfl ?_
      refine gf_14 hX dWi_countSpan_88 ?_
      refine k_iload hX dWi_countSpan_91 rfl ?_
      refine k_iald hX (by decide) rfl dWi_countSpan_93 rfl (fun y6 => ?_)
      refine k_bipush hX dWi_countSpan_94 (by decide) ?_
      refine k_irem hX dWi_countSpan_96 (fun y7 => ?_)
      refine k_iadd hX dWi_countSpan_97 ?_
      refine k_dup2 hX dWi_countSpan_98 ?_
      refine k_iald hX (by decide) rfl dWi_countSpan_99 rfl (fun y8 => ?_)
      refine k_iload hX dWi_countSpan_100 rfl ?_
      refine k_iload hX dWi_countSpan_102 rfl ?_
      refine k_isub hX dWi_countSpan_104 ?_
      refine k_iadd hX dWi_countSpan_105 ?_
      refine k_iast hX (by decide) rfl dWi_countSpan_106 rfl (fun τ9 => ?_)
      refine k_aload_n hX dWi_countSpan_107 rfl ?_
      refine gf_10 hX dWi_countSpan_108 ?_
      refine k_iload_n hX dWi_countSpan_111 rfl ?_
      refine k_dup2 hX dWi_countSpan_112 ?_
      refine k_iald hX (by decide) rfl dWi_countSpan_113 rfl (fun y10 => ?_)
      refine k_iload hX dWi_countSpan_114 rfl ?_
      refine k_iload hX dWi_countSpan_116 rfl ?_
      refine k_isub hX dWi_countSpan_118 ?_
      refine k_iadd hX dWi_countSpan_119 ?_
      refine k_iast hX (by decide) rfl dWi_countSpan_120 rfl (fun τ11 => ?_)
      refine k_less [true, true, true, true, true, true, false, false] (L' := [lq 5, lq 3, li x2, li x3, li x4, li x5, none, none]) rfl ?_
      exact tWi_countSpan_J121 hX hR x2 x3 x4 x5 τ11 hT hb0
set_option maxRecDepth 100000 in
set_option maxHeartbeats 4000000 in
theorem tWi_countSpan_L28 {X : KC} {q : Int × KM} (hX : kOk X 3 prog_9_method_4_code 8 "KeyPath$Windows") (hR : kRet X none q) (x2 x3 x4 x5 : Int) (σ : KM) {Θ : (Int × KM) → Prop} (hT : ∀ z, Θ (z) → z = q) : kJ X 28 [lq 5, lq 3, li x2, li x3, li x4, li x5, none, none] [] σ (fWi_countSpan_L28 x2 x3 x4 x5 σ) Θ :=
  k_iter (f := fun s => fWi_countSpan_B28 x2 x3 x4 s.1 s.2) (Lf := fun s => [lq 5, lq 3, li x2, li x3, li x4, li s.1, none, none]) (mf := fun s => s.2) (Θ := Θ) (fun s => tWi_countSpan_B28 hX hR x2 x3 x4 s.1 s.2 hT (fun _ h9 => h9)) kF (x5, σ)
set_option maxRecDepth 100000 in
set_option maxHeartbeats 4000000 in
theorem sWi_countSpan (x2 x3 x4 : Int) (σ : KM) : kSem 3 (⟨"KeyPath$Windows", "countSpan", "(LKeyPath$Notes;III)V"⟩ : MethodName) prog_9_method_4_code 8 none [kr 5, kr 3, ki x2, ki x3, ki x4] σ (fWi_countSpan x2 x3 x4 σ) := by
  refine kSem.of (L0 := [lq 5, lq 3, li x2, li x3, li x4, none, none, none]) (by decide) (Nat.le_of_ble_eq_true rfl) rfl (fun X q hX hR => ?_)
  have hT : ∀ z : Int × KM, (fun z => z = q) z → z = q := fun _ h => h
  refine k_aload_n hX dWi_countSpan_0 rfl ?_
  refine gf_9 hX dWi_countSpan_1 ?_
  refine k_iload_n hX dWi_countSpan_4 rfl ?_
  refine k_bipush hX dWi_countSpan_5 (by decide) ?_
  refine k_imul hX dWi_countSpan_7 ?_
  refine k_iload_n hX dWi_countSpan_8 rfl ?_
  refine k_iconst hX dWi_countSpan_9 ?_
  refine k_iadd hX dWi_countSpan_10 ?_
  refine k_bipush hX dWi_countSpan_11 (by decide) ?_
  refine k_imul hX dWi_countSpan_13 ?_
  refine k_iconst hX dWi_countSpan_14 ?_
  refine cl_3 hX (by decide) (Nat.le_of_ble_eq_true rfl) dWi_countSpan_15 (fun _ τ1 => ?_)
  refine k_aload_n hX dWi_countSpan_18 rfl ?_
  refine gf_10 hX dWi_countSpan_19 ?_
  refine k_iload_n hX dWi_countSpan_22 rfl ?_
  refine k_iconst hX dWi_countSpan_23 ?_
  refine k_iast hX (by decide) rfl dWi_countSpan_24 rfl (fun τ2 => ?_)
  refine k_iconst hX dWi_countSpan_25 ?_
  refine k_istore (L' := [lq 5, lq 3, li x2, li x3, li x4, li 0, none, none]) hX dWi_countSpan_26 rfl (by decide) rfl ?_
  exact tWi_countSpan_L28 hX hR x2 x3 x4 0 τ2 hT
theorem cl_4 {X : KC} {d n : Nat} {cc : ByteArray} {pc : Nat} {L : List (Option KV)} {st : List KV} {σ : KM} {Z : Type} {Θ : Z → Prop} {G : Int → KM → Option Z} {x2 x3 x4 : Int} (hX : kOk X d cc n "KeyPath$Windows") (hdd : 3 + 1 ≤ d) (hst : k_cat st ≤ 8) (hd : decode cc pc = .ok (.invokevirtual 50, 3)) (h : ∀ r τ, kJ X (pc + 3) L (st) τ (G r τ) Θ) : kJ X pc L (ki x4 :: ki x3 :: ki x2 :: kr 3 :: kr 5 :: st) σ (kCall (fWi_countSpan x2 x3 x4 σ) G) Θ :=
  k_callV (np := 4) (av := [kr 3, ki x2, ki x3, ki x4]) (ret := none) hX (by decide) rfl rfl rfl (sWi_countSpan _ _ _ σ) ⟨⟨hdd, by decide⟩, tw_554, tw_5, by decide +kernel⟩ rfl tw_551 tw_553 ts_16 hst hd h
theorem dP_toneOf_0 : decode prog_1_method_62_code 0 = .ok (.iload_n 0, 1) := by decide +kernel
theorem dP_toneOf_1 : decode prog_1_method_62_code 1 = .ok (.iconst 3, 1) := by decide +kernel
theorem dP_toneOf_2 : decode prog_1_method_62_code 2 = .ok (.idiv, 1) := by decide +kernel
theorem dP_toneOf_3 : decode prog_1_method_62_code 3 = .ok (.istore_n 2, 1) := by decide +kernel
theorem dP_toneOf_4 : decode prog_1_method_62_code 4 = .ok (.iload_n 1, 1) := by decide +kernel
theorem dP_toneOf_5 : decode prog_1_method_62_code 5 = .ok (.ifCond .ne 5, 3) := by decide +kernel
theorem dP_toneOf_8 : decode prog_1_method_62_code 8 = .ok (.iload_n 2, 1) := by decide +kernel
theorem dP_toneOf_9 : decode prog_1_method_62_code 9 = .ok (.ireturn, 1) := by decide +kernel
theorem dP_toneOf_10 : decode prog_1_method_62_code 10 = .ok (.iload_n 2, 1) := by decide +kernel
theorem dP_toneOf_11 : decode prog_1_method_62_code 11 = .ok (.iload_n 1, 1) := by decide +kernel
theorem dP_toneOf_12 : decode prog_1_method_62_code 12 = .ok (.iconst 1, 1) := by decide +kernel
theorem dP_toneOf_13 : decode prog_1_method_62_code 13 = .ok (.if_icmp .ne 13, 3) := by decide +kernel
theorem dP_toneOf_16 : decode prog_1_method_62_code 16 = .ok (.getstatic 364, 3) := by decide +kernel
theorem dP_toneOf_19 : decode prog_1_method_62_code 19 = .ok (.iload_n 0, 1) := by decide +kernel
theorem dP_toneOf_20 : decode prog_1_method_62_code 20 = .ok (.iconst 3, 1) := by decide +kernel
theorem dP_toneOf_21 : decode prog_1_method_62_code 21 = .ok (.irem, 1) := by decide +kernel
theorem dP_toneOf_22 : decode prog_1_method_62_code 22 = .ok (.iaload, 1) := by decide +kernel
theorem dP_toneOf_23 : decode prog_1_method_62_code 23 = .ok (.goto 10, 3) := by decide +kernel
theorem dP_toneOf_26 : decode prog_1_method_62_code 26 = .ok (.getstatic 367, 3) := by decide +kernel
theorem dP_toneOf_29 : decode prog_1_method_62_code 29 = .ok (.iload_n 0, 1) := by decide +kernel
theorem dP_toneOf_30 : decode prog_1_method_62_code 30 = .ok (.iconst 3, 1) := by decide +kernel
theorem dP_toneOf_31 : decode prog_1_method_62_code 31 = .ok (.irem, 1) := by decide +kernel
theorem dP_toneOf_32 : decode prog_1_method_62_code 32 = .ok (.iaload, 1) := by decide +kernel
theorem dP_toneOf_33 : decode prog_1_method_62_code 33 = .ok (.iadd, 1) := by decide +kernel
theorem dP_toneOf_34 : decode prog_1_method_62_code 34 = .ok (.bipush 12, 2) := by decide +kernel
theorem dP_toneOf_36 : decode prog_1_method_62_code 36 = .ok (.irem, 1) := by decide +kernel
theorem dP_toneOf_37 : decode prog_1_method_62_code 37 = .ok (.ireturn, 1) := by decide +kernel
set_option maxRecDepth 100000 in
set_option maxHeartbeats 4000000 in
theorem tP_toneOf_J33 {X : KC} {q : Int × KM} (hX : kOk X 1 prog_1_method_62_code 3 "KeyPath") (hR : kRet X (some .int) q) (t0 t1 : Int) (σ : KM) {Θ : (Int × KM) → Prop} (hT : ∀ z, Θ (z) → z = q) : kJ X 33 [none, none, none] [ki t0, ki t1] σ (fP_toneOf_J33 t0 t1 σ) Θ := by
  refine k_iadd hX dP_toneOf_33 ?_
  refine k_bipush hX dP_toneOf_34 (by decide) ?_
  refine k_irem hX dP_toneOf_36 (fun y1 => ?_)
  exact k_iret hX hR hT dP_toneOf_37
set_option maxRecDepth 100000 in
set_option maxHeartbeats 4000000 in
theorem sP_toneOf (x0 x1 : Int) (σ : KM) : kSem 1 (⟨"KeyPath", "toneOf", "(II)I"⟩ : MethodName) prog_1_method_62_code 3 (some .int) [ki x0, ki x1] σ (fP_toneOf x0 x1 σ) := by
  refine kSem.of (L0 := [li x0, li x1, none]) (by decide) (Nat.le_of_ble_eq_true rfl) rfl (fun X q hX hR => ?_)
  have hT : ∀ z : Int × KM, (fun z => z = q) z → z = q := fun _ h => h
  refine k_iload_n hX dP_toneOf_0 rfl ?_
  refine k_iconst hX dP_toneOf_1 ?_
  refine k_idiv hX dP_toneOf_2 (fun y1 => ?_)
  refine k_istore_n (L' := [li x0, li x1, li y1]) hX dP_toneOf_3 rfl (by decide) rfl ?_
  refine k_iload_n hX dP_toneOf_4 rfl ?_
  refine k_if_ne (tgt := 10) hX dP_toneOf_5 (by decide) ?_ ?_
  · refine k_iload_n hX dP_toneOf_10 rfl ?_
    refine k_iload_n hX dP_toneOf_11 rfl ?_
    refine k_iconst hX dP_toneOf_12 ?_
    refine k_icmp_ne (tgt := 26) hX dP_toneOf_13 (by decide) ?_ ?_
    · refine k_gets hX 3 (by decide) tw_571 dP_toneOf_26 ?_
      refine k_iload_n hX dP_toneOf_29 rfl ?_
      refine k_iconst hX dP_toneOf_30 ?_
      refine k_irem hX dP_toneOf_31 (fun y2 => ?_)
      refine k_sald (c := 3) hX (by decide) dP_toneOf_32 rfl (fun y3 => ?_)
      refine k_less [false, false, false] (L' := [none, none, none]) rfl ?_
      exact tP_toneOf_J33 hX hR y3 y1 σ hT
    · refine k_gets hX 2 (by decide) tw_569 dP_toneOf_16 ?_
      refine k_iload_n hX dP_toneOf_19 rfl ?_
      refine k_iconst hX dP_toneOf_20 ?_
      refine k_irem hX dP_toneOf_21 (fun y4 => ?_)
      refine k_sald (c := 2) hX (by decide) dP_toneOf_22 rfl (fun y5 => ?_)
      refine k_goto (tgt := 33) hX dP_toneOf_23 (by decide) ?_
      refine k_less [false, false, false] (L' := [none, none, none]) rfl ?_
      exact tP_toneOf_J33 hX hR y5 y1 σ hT
  · refine k_iload_n hX dP_toneOf_8 rfl ?_
    exact k_iret hX hR hT dP_toneOf_9
theorem cl_5 {X : KC} {d n : Nat} {cc : ByteArray} {pc : Nat} {L : List (Option KV)} {st : List KV} {σ : KM} {Z : Type} {Θ : Z → Prop} {G : Int → KM → Option Z} {x0 x1 : Int} (hX : kOk X d cc n "KeyPath$Windows") (hdd : 1 + 1 ≤ d) (hst : k_cat st ≤ 8) (hd : decode cc pc = .ok (.invokestatic 77, 3)) (h : ∀ r τ, kJ X (pc + 3) L (ki r :: st) τ (G r τ) Θ) : kJ X pc L (ki x1 :: ki x0 :: st) σ (kCall (fP_toneOf x0 x1 σ) G) Θ :=
  k_callSN (np := 2) (av := [ki x0, ki x1]) (ret := (some .int)) hX (sP_toneOf _ _ σ) ⟨⟨hdd, by decide⟩, tw_568, tw_1, by decide +kernel⟩ rfl (List.mem_of_getElem? (i := 12) rfl) tw_567 hst hd h
theorem dWi_fullestTriad_0 : decode prog_9_method_5_code 0 = .ok (.aload_n 0, 1) := by decide +kernel
theorem dWi_fullestTriad_1 : decode prog_9_method_5_code 1 = .ok (.getfield 22, 3) := by decide +kernel
theorem dWi_fullestTriad_4 : decode prog_9_method_5_code 4 = .ok (.iload_n 1, 1) := by decide +kernel
theorem dWi_fullestTriad_5 : decode prog_9_method_5_code 5 = .ok (.iaload, 1) := by decide +kernel
theorem dWi_fullestTriad_6 : decode prog_9_method_5_code 6 = .ok (.ifCond .ne 5, 3) := by decide +kernel
theorem dWi_fullestTriad_9 : decode prog_9_method_5_code 9 = .ok (.iconst (-1), 1) := by decide +kernel
theorem dWi_fullestTriad_10 : decode prog_9_method_5_code 10 = .ok (.ireturn, 1) := by decide +kernel
theorem dWi_fullestTriad_11 : decode prog_9_method_5_code 11 = .ok (.iconst (-1), 1) := by decide +kernel
theorem dWi_fullestTriad_12 : decode prog_9_method_5_code 12 = .ok (.istore_n 2, 1) := by decide +kernel
theorem dWi_fullestTriad_13 : decode prog_9_method_5_code 13 = .ok (.iconst (-1), 1) := by decide +kernel
theorem dWi_fullestTriad_14 : decode prog_9_method_5_code 14 = .ok (.istore_n 3, 1) := by decide +kernel
theorem dWi_fullestTriad_15 : decode prog_9_method_5_code 15 = .ok (.iconst 0, 1) := by decide +kernel
theorem dWi_fullestTriad_16 : decode prog_9_method_5_code 16 = .ok (.istore 4, 2) := by decide +kernel
theorem dWi_fullestTriad_18 : decode prog_9_method_5_code 18 = .ok (.iload 4, 2) := by decide +kernel
theorem dWi_fullestTriad_20 : decode prog_9_method_5_code 20 = .ok (.bipush 36, 2) := by decide +kernel
theorem dWi_fullestTriad_22 : decode prog_9_method_5_code 22 = .ok (.if_icmp .ge 61, 3) := by decide +kernel
theorem dWi_fullestTriad_25 : decode prog_9_method_5_code 25 = .ok (.iconst 0, 1) := by decide +kernel
theorem dWi_fullestTriad_26 : decode prog_9_method_5_code 26 = .ok (.istore 5, 2) := by decide +kernel
theorem dWi_fullestTriad_28 : decode prog_9_method_5_code 28 = .ok (.iconst 0, 1) := by decide +kernel
theorem dWi_fullestTriad_29 : decode prog_9_method_5_code 29 = .ok (.istore 6, 2) := by decide +kernel
theorem dWi_fullestTriad_31 : decode prog_9_method_5_code 31 = .ok (.iload 6, 2) := by decide +kernel
theorem dWi_fullestTriad_33 : decode prog_9_method_5_code 33 = .ok (.iconst 3, 1) := by decide +kernel
theorem dWi_fullestTriad_34 : decode prog_9_method_5_code 34 = .ok (.if_icmp .ge 31, 3) := by decide +kernel
theorem dWi_fullestTriad_37 : decode prog_9_method_5_code 37 = .ok (.iload 5, 2) := by decide +kernel
theorem dWi_fullestTriad_39 : decode prog_9_method_5_code 39 = .ok (.aload_n 0, 1) := by decide +kernel
theorem dWi_fullestTriad_40 : decode prog_9_method_5_code 40 = .ok (.getfield 18, 3) := by decide +kernel
theorem dWi_fullestTriad_43 : decode prog_9_method_5_code 43 = .ok (.iload_n 1, 1) := by decide +kernel
theorem dWi_fullestTriad_44 : decode prog_9_method_5_code 44 = .ok (.bipush 12, 2) := by decide +kernel
theorem dWi_fullestTriad_46 : decode prog_9_method_5_code 46 = .ok (.imul, 1) := by decide +kernel
theorem dWi_fullestTriad_47 : decode prog_9_method_5_code 47 = .ok (.iload 4, 2) := by decide +kernel
theorem dWi_fullestTriad_49 : decode prog_9_method_5_code 49 = .ok (.iload 6, 2) := by decide +kernel
theorem dWi_fullestTriad_51 : decode prog_9_method_5_code 51 = .ok (.invokestatic 77, 3) := by decide +kernel
theorem dWi_fullestTriad_54 : decode prog_9_method_5_code 54 = .ok (.iadd, 1) := by decide +kernel
theorem dWi_fullestTriad_55 : decode prog_9_method_5_code 55 = .ok (.iaload, 1) := by decide +kernel
theorem dWi_fullestTriad_56 : decode prog_9_method_5_code 56 = .ok (.iadd, 1) := by decide +kernel
theorem dWi_fullestTriad_57 : decode prog_9_method_5_code 57 = .ok (.istore 5, 2) := by decide +kernel
theorem dWi_fullestTriad_59 : decode prog_9_method_5_code 59 = .ok (.iinc 6 1, 3) := by decide +kernel
theorem dWi_fullestTriad_62 : decode prog_9_method_5_code 62 = .ok (.goto (-31), 3) := by decide +kernel
theorem dWi_fullestTriad_65 : decode prog_9_method_5_code 65 = .ok (.iload 5, 2) := by decide +kernel
theorem dWi_fullestTriad_67 : decode prog_9_method_5_code 67 = .ok (.iload_n 3, 1) := by decide +kernel
theorem dWi_fullestTriad_68 : decode prog_9_method_5_code 68 = .ok (.if_icmp .le 9, 3) := by decide +kernel
theorem dWi_fullestTriad_71 : decode prog_9_method_5_code 71 = .ok (.iload 5, 2) := by decide +kernel
theorem dWi_fullestTriad_73 : decode prog_9_method_5_code 73 = .ok (.istore_n 3, 1) := by decide +kernel
theorem dWi_fullestTriad_74 : decode prog_9_method_5_code 74 = .ok (.iload 4, 2) := by decide +kernel
theorem dWi_fullestTriad_76 : decode prog_9_method_5_code 76 = .ok (.istore_n 2, 1) := by decide +kernel
theorem dWi_fullestTriad_77 : decode prog_9_method_5_code 77 = .ok (.iinc 4 1, 3) := by decide +kernel
theorem dWi_fullestTriad_80 : decode prog_9_method_5_code 80 = .ok (.goto (-62), 3) := by decide +kernel
theorem dWi_fullestTriad_83 : decode prog_9_method_5_code 83 = .ok (.iload_n 2, 1) := by decide +kernel
theorem dWi_fullestTriad_84 : decode prog_9_method_5_code 84 = .ok (.ireturn, 1) := by decide +kernel
set_option maxRecDepth 100000 in
set_option maxHeartbeats 4000000 in
theorem tWi_fullestTriad_J83 {X : KC} {q : Int × KM} (hX : kOk X 2 prog_9_method_5_code 7 "KeyPath$Windows") (hR : kRet X (some .int) q) (x2 : Int) (σ : KM) {Θ : (Int × KM) → Prop} (hT : ∀ z, Θ (z) → z = q) : kJ X 83 [lq 5, none, li x2, none, none, none, none] [] σ (fWi_fullestTriad_J83 x2 σ) Θ := by
  refine k_iload_n hX dWi_fullestTriad_83 rfl ?_
  exact k_iret hX hR hT dWi_fullestTriad_84
set_option maxRecDepth 100000 in
set_option maxHeartbeats 4000000 in
theorem tWi_fullestTriad_J77 {X : KC} {q : Int × KM} (hX : kOk X 2 prog_9_method_5_code 7 "KeyPath$Windows") (hR : kRet X (some .int) q) (x1 x2 x3 x4 : Int) (σ : KM) {Θ : ((Int × Int × Int × KM) ⊕ (Int × KM)) → Prop} (hT : ∀ z, Θ (.inr (z)) → z = q) (hb0 : ∀ s : Int × Int × Int × KM, Θ (.inl s) → kW X 18 [lq 5, li x1, li s.1, li s.2.1, li s.2.2.1, none, none] [] s.2.2.2) : kJ X 77 [lq 5, li x1, li x2, li x3, li x4, none, none] [] σ (fWi_fullestTriad_J77 x1 x2 x3 x4 σ) Θ := by
  refine k_iincL (Lf := fun y1 => [lq 5, li x1, li x2, li x3, li y1, none, none]) hX dWi_fullestTriad_77 rfl (by decide) rfl (fun _ => rfl) (fun y1 => ?_)
  refine k_goto (tgt := 18) hX dWi_fullestTriad_80 (by decide) ?_
  exact k_back (hb0 (x2, x3, y1, σ))
set_option maxRecDepth 100000 in
set_option maxHeartbeats 4000000 in
theorem tWi_fullestTriad_J65 {X : KC} {q : Int × KM} (hX : kOk X 2 prog_9_method_5_code 7 "KeyPath$Windows") (hR : kRet X (some .int) q) (x1 x2 x3 x4 x5 : Int) (σ : KM) {Θ : ((Int × Int × Int × KM) ⊕ (Int × KM)) → Prop} (hT : ∀ z, Θ (.inr (z)) → z = q) (hb0 : ∀ s : Int × Int × Int × KM, Θ (.inl s) → kW X 18 [lq 5, li x1, li s.1, li s.2.1, li s.2.2.1, none, none] [] s.2.2.2) : kJ X 65 [lq 5, li x1, li x2, li x3, li x4, li x5, none] [] σ (fWi_fullestTriad_J65 x1 x2 x3 x4 x5 σ) Θ := by
  refine k_iload hX dWi_fullestTriad_65 rfl ?_
  refine k_iload_n hX dWi_fullestTriad_67 rfl ?_
  refine k_icmp_le (tgt := 77) hX dWi_fullestTriad_68 (by decide) ?_ ?_
  · refine k_less [true, true, true, true, true, false, true] (L' := [lq 5, li x1, li x2, li x3, li x4, none, none]) rfl ?_
    exact tWi_fullestTriad_J77 hX hR x1 x2 x3 x4 σ hT hb0
  · refine k_iload hX dWi_fullestTriad_71 rfl ?_
    refine k_istore_n (L' := [lq 5, li x1, li x2, li x5, li x4, li x5, none]) hX dWi_fullestTriad_73 rfl (by decide) rfl ?_
    refine k_iload hX dWi_fullestTriad_74 rfl ?_
    refine k_istore_n (L' := [lq 5, li x1, li x4, li x5, li x4, li x5, none]) hX dWi_fullestTriad_76 rfl (by decide) rfl ?_
    refine k_less [true, true, true, true, true, false, true] (L' := [lq 5, li x1, li x4, li x5, li x4, none, none]) rfl ?_
    exact tWi_fullestTriad_J77 hX hR x1 x4 x5 x4 σ hT hb0
set_option maxRecDepth 100000 in
set_option maxHeartbeats 4000000 in
theorem tWi_fullestTriad_B31 {X : KC} {q : Int × KM} (hX : kOk X 2 prog_9_method_5_code 7 "KeyPath$Windows") (hR : kRet X (some .int) q) (x1 x2 x3 x4 x5 x6 : Int) (σ : KM) {Θ : ((Int × Int × KM) ⊕ ((Int × Int × Int × KM) ⊕ (Int × KM))) → Prop} (hT : ∀ z, Θ (.inr (.inr (z))) → z = q) (hb0 : ∀ s : Int × Int × KM, Θ (.inl s) → kW X 31 [lq 5, li x1, li x2, li x3, li x4, li s.1, li s.2.1] [] s.2.2) (hb1 : ∀ s : Int × Int × Int × KM, Θ (.inr (.inl s)) → kW X 18 [lq 5, li x1, li s.1, li s.2.1, li s.2.2.1, none, none] [] s.2.2.2) : kJ X 31 [lq 5, li x1, li x2, li x3, li x4, li x5, li x6] [] σ (fWi_fullestTriad_B31 x1 x2 x3 x4 x5 x6 σ) Θ := by
  refine k_iload hX dWi_fullestTriad_31 rfl ?_
  refine k_iconst hX dWi_fullestTriad_33 ?_
  refine k_icmp_ge (tgt := 65) hX dWi_fullestTriad_34 (by decide) ?_ ?_
  · refine k_exit ?_
    refine k_less [true, true, true, true, true, true, false] (L' := [lq 5, li x1, li x2, li x3, li x4, li x5, none]) rfl ?_
    exact tWi_fullestTriad_J65 hX hR x1 x2 x3 x4 x5 σ hT hb1
  · refine k_iload hX dWi_fullestTriad_37 rfl ?_
    refine k_aload_n hX dWi_fullestTriad_39 rfl ?_
    refine gf_9 hX dWi_fullestTriad_40 ?_
    refine k_iload_n hX dWi_fullestTriad_43 rfl ?_
    refine k_bipush hX dWi_fullestTriad_44 (by decide) ?_
    refine k_imul hX dWi_fullestTriad_46 ?_
    refine k_iload hX dWi_fullestTriad_47 rfl ?_
    refine k_iload hX dWi_fullestTriad_49 rfl ?_
    refine cl_5 hX (by decide) (Nat.le_of_ble_eq_true rfl) dWi_fullestTriad_51 (fun r2 τ1 => ?_)
    refine k_iadd hX dWi_fullestTriad_54 ?_
    refine k_iald hX (by decide) rfl dWi_fullestTriad_55 rfl (fun y3 => ?_)
    refine k_iadd hX dWi_fullestTriad_56 ?_
    refine k_istoreL (Lf := fun y4 => [lq 5, li x1, li x2, li x3, li x4, li y4, li x6]) hX dWi_fullestTriad_57 rfl (by decide) (fun _ => rfl) (fun y4 => ?_)
    refine k_iincL (Lf := fun y5 => [lq 5, li x1, li x2, li x3, li x4, li y4, li y5]) hX dWi_fullestTriad_59 rfl (by decide) rfl (fun _ => rfl) (fun y5 => ?_)
    refine k_goto (tgt := 31) hX dWi_fullestTriad_62 (by decide) ?_
    exact k_back (hb0 (y4, y5, τ1))
set_option maxRecDepth 100000 in
set_option maxHeartbeats 4000000 in
theorem tWi_fullestTriad_L31 {X : KC} {q : Int × KM} (hX : kOk X 2 prog_9_method_5_code 7 "KeyPath$Windows") (hR : kRet X (some .int) q) (x1 x2 x3 x4 x5 x6 : Int) (σ : KM) {Θ : ((Int × Int × Int × KM) ⊕ (Int × KM)) → Prop} (hT : ∀ z, Θ (.inr (z)) → z = q) (hb0 : ∀ s : Int × Int × Int × KM, Θ (.inl s) → kW X 18 [lq 5, li x1, li s.1, li s.2.1, li s.2.2.1, none, none] [] s.2.2.2) : kJ X 31 [lq 5, li x1, li x2, li x3, li x4, li x5, li x6] [] σ (fWi_fullestTriad_L31 x1 x2 x3 x4 x5 x6 σ) Θ :=
  k_iter (f := fun s => fWi_fullestTriad_B31 x1 x2 x3 x4 s.1 s.2.1 s.2.2) (Lf := fun s => [lq 5, li x1, li x2, li x3, li x4, li s.1, li s.2.1]) (mf := fun s => s.2.2) (Θ := Θ) (fun s => tWi_fullestTriad_B31 hX hR x1 x2 x3 x4 s.1 s.2.1 s.2.2 hT (fun _ h9 => h9) hb0) kF (x5, x6, σ)
set_option maxRecDepth 100000 in
set_option maxHeartbeats 4000000 in
theorem tWi_fullestTriad_B18 {X : KC} {q : Int × KM} (hX : kOk X 2 prog_9_method_5_code 7 "KeyPath$Windows") (hR : kRet X (some .int) q) (x1 x2 x3 x4 : Int) (σ : KM) {Θ : ((Int × Int × Int × KM) ⊕ (Int × KM)) → Prop} (hT : ∀ z, Θ (.inr (z)) → z = q) (hb0 : ∀ s : Int × Int × Int × KM, Θ (.inl s) → kW X 18 [lq 5, li x1, li s.1, li s.2.1, li s.2.2.1, none, none] [] s.2.2.2) : kJ X 18 [lq 5, li x1, li x2, li x3, li x4, none, none] [] σ (fWi_fullestTriad_B18 x1 x2 x3 x4 σ) Θ := by
  refine k_iload hX dWi_fullestTriad_18 rfl ?_
  refine k_bipush hX dWi_fullestTriad_20 (by decide) ?_
  refine k_icmp_ge (tgt := 83) hX dWi_fullestTriad_22 (by decide) ?_ ?_
  · refine k_exit ?_
    refine k_less [true, false, true, false, false, true, true] (L' := [lq 5, none, li x2, none, none, none, none]) rfl ?_
    exact tWi_fullestTriad_J83 hX hR x2 σ hT
  · refine k_iconst hX dWi_fullestTriad_25 ?_
    refine k_istore (L' := [lq 5, li x1, li x2, li x3, li x4, li 0, none]) hX dWi_fullestTriad_26 rfl (by decide) rfl ?_
    refine k_iconst hX dWi_fullestTriad_28 ?_
    refine k_istore (L' := [lq 5, li x1, li x2, li x3, li x4, li 0, li 0]) hX dWi_fullestTriad_29 rfl (by decide) rfl ?_
    exact tWi_fullestTriad_L31 hX hR x1 x2 x3 x4 0 0 σ hT hb0
set_option maxRecDepth 100000 in
set_option maxHeartbeats 4000000 in
theorem tWi_fullestTriad_L18 {X : KC} {q : Int × KM} (hX : kOk X 2 prog_9_method_5_code 7 "KeyPath$Windows") (hR : kRet X (some .int) q) (x1 x2 x3 x4 : Int) (σ : KM) {Θ : (Int × KM) → Prop} (hT : ∀ z, Θ (z) → z = q) : kJ X 18 [lq 5, li x1, li x2, li x3, li x4, none, none] [] σ (fWi_fullestTriad_L18 x1 x2 x3 x4 σ) Θ :=
  k_iter (f := fun s => fWi_fullestTriad_B18 x1 s.1 s.2.1 s.2.2.1 s.2.2.2) (Lf := fun s => [lq 5, li x1, li s.1, li s.2.1, li s.2.2.1, none, none]) (mf := fun s => s.2.2.2) (Θ := Θ) (fun s => tWi_fullestTriad_B18 hX hR x1 s.1 s.2.1 s.2.2.1 s.2.2.2 hT (fun _ h9 => h9)) kF (x2, x3, x4, σ)
set_option maxRecDepth 100000 in
set_option maxHeartbeats 4000000 in
theorem sWi_fullestTriad (x1 : Int) (σ : KM) : kSem 2 (⟨"KeyPath$Windows", "fullestTriad", "(I)I"⟩ : MethodName) prog_9_method_5_code 7 (some .int) [kr 5, ki x1] σ (fWi_fullestTriad x1 σ) := by
  refine kSem.of (L0 := [lq 5, li x1, none, none, none, none, none]) (by decide) (Nat.le_of_ble_eq_true rfl) rfl (fun X q hX hR => ?_)
  have hT : ∀ z : Int × KM, (fun z => z = q) z → z = q := fun _ h => h
  refine k_aload_n hX dWi_fullestTriad_0 rfl ?_
  refine gf_10 hX dWi_fullestTriad_1 ?_
  refine k_iload_n hX dWi_fullestTriad_4 rfl ?_
  refine k_iald hX (by decide) rfl dWi_fullestTriad_5 rfl (fun y1 => ?_)
  refine k_if_ne (tgt := 11) hX dWi_fullestTriad_6 (by decide) ?_ ?_
  · refine k_iconst hX dWi_fullestTriad_11 ?_
    refine k_istore_n (L' := [lq 5, li x1, li (-1), none, none, none, none]) hX dWi_fullestTriad_12 rfl (by decide) rfl ?_
    refine k_iconst hX dWi_fullestTriad_13 ?_
    refine k_istore_n (L' := [lq 5, li x1, li (-1), li (-1), none, none, none]) hX dWi_fullestTriad_14 rfl (by decide) rfl ?_
    refine k_iconst hX dWi_fullestTriad_15 ?_
    refine k_istore (L' := [lq 5, li x1, li (-1), li (-1), li 0, none, none]) hX dWi_fullestTriad_16 rfl (by decide) rfl ?_
    exact tWi_fullestTriad_L18 hX hR x1 (-1) (-1) 0 σ hT
  · refine k_iconst hX dWi_fullestTriad_9 ?_
    exact k_iret hX hR hT dWi_fullestTriad_10
theorem cl_6 {X : KC} {d n : Nat} {cc : ByteArray} {pc : Nat} {L : List (Option KV)} {st : List KV} {σ : KM} {Z : Type} {Θ : Z → Prop} {G : Int → KM → Option Z} {x1 : Int} (hX : kOk X d cc n "KeyPath$Windows") (hdd : 2 + 1 ≤ d) (hst : k_cat st ≤ 8) (hd : decode cc pc = .ok (.invokevirtual 54, 3)) (h : ∀ r τ, kJ X (pc + 3) L (ki r :: st) τ (G r τ) Θ) : kJ X pc L (ki x1 :: kr 5 :: st) σ (kCall (fWi_fullestTriad x1 σ) G) Θ :=
  k_callV (np := 1) (av := [ki x1]) (ret := (some .int)) hX (by decide) rfl rfl rfl (sWi_fullestTriad _ σ) ⟨⟨hdd, by decide⟩, tw_565, tw_5, by decide +kernel⟩ rfl tw_562 tw_564 ts_17 hst hd h
theorem dWi_recount_0 : decode prog_9_method_3_code 0 = .ok (.aload_n 1, 1) := by decide +kernel
theorem dWi_recount_1 : decode prog_9_method_3_code 1 = .ok (.invokevirtual 32, 3) := by decide +kernel
theorem dWi_recount_4 : decode prog_9_method_3_code 4 = .ok (.istore_n 2, 1) := by decide +kernel
theorem dWi_recount_5 : decode prog_9_method_3_code 5 = .ok (.aload_n 0, 1) := by decide +kernel
theorem dWi_recount_6 : decode prog_9_method_3_code 6 = .ok (.bipush 48, 2) := by decide +kernel
theorem dWi_recount_8 : decode prog_9_method_3_code 8 = .ok (.iload_n 2, 1) := by decide +kernel
theorem dWi_recount_9 : decode prog_9_method_3_code 9 = .ok (.aload_n 0, 1) := by decide +kernel
theorem dWi_recount_10 : decode prog_9_method_3_code 10 = .ok (.getfield 15, 3) := by decide +kernel
theorem dWi_recount_13 : decode prog_9_method_3_code 13 = .ok (.invokestatic 38, 3) := by decide +kernel
theorem dWi_recount_16 : decode prog_9_method_3_code 16 = .ok (.invokestatic 42, 3) := by decide +kernel
theorem dWi_recount_19 : decode prog_9_method_3_code 19 = .ok (.putfield 47, 3) := by decide +kernel
theorem dWi_recount_22 : decode prog_9_method_3_code 22 = .ok (.iconst 0, 1) := by decide +kernel
theorem dWi_recount_23 : decode prog_9_method_3_code 23 = .ok (.istore_n 3, 1) := by decide +kernel
theorem dWi_recount_24 : decode prog_9_method_3_code 24 = .ok (.iload_n 3, 1) := by decide +kernel
theorem dWi_recount_25 : decode prog_9_method_3_code 25 = .ok (.aload_n 0, 1) := by decide +kernel
theorem dWi_recount_26 : decode prog_9_method_3_code 26 = .ok (.getfield 47, 3) := by decide +kernel
theorem dWi_recount_29 : decode prog_9_method_3_code 29 = .ok (.if_icmp .ge 43, 3) := by decide +kernel
theorem dWi_recount_32 : decode prog_9_method_3_code 32 = .ok (.aload_n 0, 1) := by decide +kernel
theorem dWi_recount_33 : decode prog_9_method_3_code 33 = .ok (.aload_n 1, 1) := by decide +kernel
theorem dWi_recount_34 : decode prog_9_method_3_code 34 = .ok (.iload_n 3, 1) := by decide +kernel
theorem dWi_recount_35 : decode prog_9_method_3_code 35 = .ok (.iload_n 3, 1) := by decide +kernel
theorem dWi_recount_36 : decode prog_9_method_3_code 36 = .ok (.aload_n 0, 1) := by decide +kernel
theorem dWi_recount_37 : decode prog_9_method_3_code 37 = .ok (.getfield 15, 3) := by decide +kernel
theorem dWi_recount_40 : decode prog_9_method_3_code 40 = .ok (.imul, 1) := by decide +kernel
theorem dWi_recount_41 : decode prog_9_method_3_code 41 = .ok (.iload_n 3, 1) := by decide +kernel
theorem dWi_recount_42 : decode prog_9_method_3_code 42 = .ok (.aload_n 0, 1) := by decide +kernel
theorem dWi_recount_43 : decode prog_9_method_3_code 43 = .ok (.getfield 15, 3) := by decide +kernel
theorem dWi_recount_46 : decode prog_9_method_3_code 46 = .ok (.imul, 1) := by decide +kernel
theorem dWi_recount_47 : decode prog_9_method_3_code 47 = .ok (.aload_n 0, 1) := by decide +kernel
theorem dWi_recount_48 : decode prog_9_method_3_code 48 = .ok (.getfield 9, 3) := by decide +kernel
theorem dWi_recount_51 : decode prog_9_method_3_code 51 = .ok (.iadd, 1) := by decide +kernel
theorem dWi_recount_52 : decode prog_9_method_3_code 52 = .ok (.invokevirtual 50, 3) := by decide +kernel
theorem dWi_recount_55 : decode prog_9_method_3_code 55 = .ok (.aload_n 0, 1) := by decide +kernel
theorem dWi_recount_56 : decode prog_9_method_3_code 56 = .ok (.getfield 25, 3) := by decide +kernel
theorem dWi_recount_59 : decode prog_9_method_3_code 59 = .ok (.iload_n 3, 1) := by decide +kernel
theorem dWi_recount_60 : decode prog_9_method_3_code 60 = .ok (.aload_n 0, 1) := by decide +kernel
theorem dWi_recount_61 : decode prog_9_method_3_code 61 = .ok (.iload_n 3, 1) := by decide +kernel
theorem dWi_recount_62 : decode prog_9_method_3_code 62 = .ok (.invokevirtual 54, 3) := by decide +kernel
theorem dWi_recount_65 : decode prog_9_method_3_code 65 = .ok (.iastore, 1) := by decide +kernel
theorem dWi_recount_66 : decode prog_9_method_3_code 66 = .ok (.iinc 3 1, 3) := by decide +kernel
theorem dWi_recount_69 : decode prog_9_method_3_code 69 = .ok (.goto (-45), 3) := by decide +kernel
theorem dWi_recount_72 : decode prog_9_method_3_code 72 = .ok (.aload_n 0, 1) := by decide +kernel
theorem dWi_recount_73 : decode prog_9_method_3_code 73 = .ok (.aload_n 1, 1) := by decide +kernel
theorem dWi_recount_74 : decode prog_9_method_3_code 74 = .ok (.bipush 48, 2) := by decide +kernel
theorem dWi_recount_76 : decode prog_9_method_3_code 76 = .ok (.iconst 0, 1) := by decide +kernel
theorem dWi_recount_77 : decode prog_9_method_3_code 77 = .ok (.iload_n 2, 1) := by decide +kernel
theorem dWi_recount_78 : decode prog_9_method_3_code 78 = .ok (.invokevirtual 50, 3) := by decide +kernel
theorem dWi_recount_81 : decode prog_9_method_3_code 81 = .ok (.aload_n 0, 1) := by decide +kernel
theorem dWi_recount_82 : decode prog_9_method_3_code 82 = .ok (.iconst 0, 1) := by decide +kernel
theorem dWi_recount_83 : decode prog_9_method_3_code 83 = .ok (.putfield 28, 3) := by decide +kernel
theorem dWi_recount_86 : decode prog_9_method_3_code 86 = .ok (.return_, 1) := by decide +kernel
set_option maxRecDepth 100000 in
set_option maxHeartbeats 4000000 in
theorem tWi_recount_J72 {X : KC} {q : Int × KM} (hX : kOk X 4 prog_9_method_3_code 4 "KeyPath$Windows") (hR : kRet X none q) (x2 : Int) (σ : KM) {Θ : (Int × KM) → Prop} (hT : ∀ z, Θ (z) → z = q) : kJ X 72 [lq 5, lq 3, li x2, none] [] σ (fWi_recount_J72 x2 σ) Θ := by
  refine k_aload_n hX dWi_recount_72 rfl ?_
  refine k_aload_n hX dWi_recount_73 rfl ?_
  refine k_bipush hX dWi_recount_74 (by decide) ?_
  refine k_iconst hX dWi_recount_76 ?_
  refine k_iload_n hX dWi_recount_77 rfl ?_
  refine cl_4 hX (by decide) (Nat.le_of_ble_eq_true rfl) dWi_recount_78 (fun _ τ1 => ?_)
  refine k_aload_n hX dWi_recount_81 rfl ?_
  refine k_iconst hX dWi_recount_82 ?_
  refine gz_15 hX dWi_recount_83 (fun τ2 => ?_)
  exact k_vret hX hR hT dWi_recount_86
set_option maxRecDepth 100000 in
set_option maxHeartbeats 4000000 in
theorem tWi_recount_B24 {X : KC} {q : Int × KM} (hX : kOk X 4 prog_9_method_3_code 4 "KeyPath$Windows") (hR : kRet X none q) (x2 x3 : Int) (σ : KM) {Θ : ((Int × KM) ⊕ (Int × KM)) → Prop} (hT : ∀ z, Θ (.inr (z)) → z = q) (hb0 : ∀ s : Int × KM, Θ (.inl s) → kW X 24 [lq 5, lq 3, li x2, li s.1] [] s.2) : kJ X 24 [lq 5, lq 3, li x2, li x3] [] σ (fWi_recount_B24 x2 x3 σ) Θ := by
  refine k_iload_n hX dWi_recount_24 rfl ?_
  refine k_aload_n hX dWi_recount_25 rfl ?_
  refine gf_8 hX dWi_recount_26 ?_
  refine k_icmp_ge (tgt := 72) hX dWi_recount_29 (by decide) ?_ ?_
  · refine k_exit ?_
    refine k_less [true, true, true, false] (L' := [lq 5, lq 3, li x2, none]) rfl ?_
    exact tWi_recount_J72 hX hR x2 σ hT
  · refine k_aload_n hX dWi_recount_32 rfl ?_
    refine k_aload_n hX dWi_recount_33 rfl ?_
    refine k_iload_n hX dWi_recount_34 rfl ?_
    refine k_iload_n hX dWi_recount_35 rfl ?_
    refine k_aload_n hX dWi_recount_36 rfl ?_
    refine gf_6 hX dWi_recount_37 ?_
    refine k_imul hX dWi_recount_40 ?_
    refine k_iload_n hX dWi_recount_41 rfl ?_
    refine k_aload_n hX dWi_recount_42 rfl ?_
    refine gf_6 hX dWi_recount_43 ?_
    refine k_imul hX dWi_recount_46 ?_
    refine k_aload_n hX dWi_recount_47 rfl ?_
    refine gf_16 hX dWi_recount_48 ?_
    refine k_iadd hX dWi_recount_51 ?_
    refine cl_4 hX (by decide) (Nat.le_of_ble_eq_true rfl) dWi_recount_52 (fun _ τ1 => ?_)
    refine k_aload_n hX dWi_recount_55 rfl ?_
    refine gf_17 hX dWi_recount_56 ?_
    refine k_iload_n hX dWi_recount_59 rfl ?_
    refine k_aload_n hX dWi_recount_60 rfl ?_
    refine k_iload_n hX dWi_recount_61 rfl ?_
    refine cl_6 hX (by decide) (Nat.le_of_ble_eq_true rfl) dWi_recount_62 (fun r3 τ2 => ?_)
    refine k_iast hX (by decide) rfl dWi_recount_65 rfl (fun τ4 => ?_)
    refine k_iincL (Lf := fun y5 => [lq 5, lq 3, li x2, li y5]) hX dWi_recount_66 rfl (by decide) rfl (fun _ => rfl) (fun y5 => ?_)
    refine k_goto (tgt := 24) hX dWi_recount_69 (by decide) ?_
    exact k_back (hb0 (y5, τ4))
set_option maxRecDepth 100000 in
set_option maxHeartbeats 4000000 in
theorem tWi_recount_L24 {X : KC} {q : Int × KM} (hX : kOk X 4 prog_9_method_3_code 4 "KeyPath$Windows") (hR : kRet X none q) (x2 x3 : Int) (σ : KM) {Θ : (Int × KM) → Prop} (hT : ∀ z, Θ (z) → z = q) : kJ X 24 [lq 5, lq 3, li x2, li x3] [] σ (fWi_recount_L24 x2 x3 σ) Θ :=
  k_iter (f := fun s => fWi_recount_B24 x2 s.1 s.2) (Lf := fun s => [lq 5, lq 3, li x2, li s.1]) (mf := fun s => s.2) (Θ := Θ) (fun s => tWi_recount_B24 hX hR x2 s.1 s.2 hT (fun _ h9 => h9)) kF (x3, σ)
set_option maxRecDepth 100000 in
set_option maxHeartbeats 4000000 in
theorem sWi_recount (σ : KM) : kSem 4 (⟨"KeyPath$Windows", "recount", "(LKeyPath$Notes;)V"⟩ : MethodName) prog_9_method_3_code 4 none [kr 5, kr 3] σ (fWi_recount σ) := by
  refine kSem.of (L0 := [lq 5, lq 3, none, none]) (by decide) (Nat.le_of_ble_eq_true rfl) rfl (fun X q hX hR => ?_)
  have hT : ∀ z : Int × KM, (fun z => z = q) z → z = q := fun _ h => h
  refine k_aload_n hX dWi_recount_0 rfl ?_
  refine cl_0 hX (by decide) (Nat.le_of_ble_eq_true rfl) dWi_recount_1 (fun r2 τ1 => ?_)
  refine k_istore_n (L' := [lq 5, lq 3, li r2, none]) hX dWi_recount_4 rfl (by decide) rfl ?_
  refine k_aload_n hX dWi_recount_5 rfl ?_
  refine k_bipush hX dWi_recount_6 (by decide) ?_
  refine k_iload_n hX dWi_recount_8 rfl ?_
  refine k_aload_n hX dWi_recount_9 rfl ?_
  refine gf_6 hX dWi_recount_10 ?_
  refine cl_1 hX (by decide) (Nat.le_of_ble_eq_true rfl) dWi_recount_13 (fun r4 τ3 => ?_)
  refine k_mmin hX (by decide) (Nat.le_of_ble_eq_true rfl) tw_550 tw_379 tw_12 tw_380 dWi_recount_16 (fun y5 => ?_)
  refine gp_7 hX dWi_recount_19 (fun τ6 => ?_)
  refine k_iconst hX dWi_recount_22 ?_
  refine k_istore_n (L' := [lq 5, lq 3, li r2, li 0]) hX dWi_recount_23 rfl (by decide) rfl ?_
  exact tWi_recount_L24 hX hR r2 0 τ6 hT
theorem cl_7 {X : KC} {d n : Nat} {cc : ByteArray} {pc : Nat} {L : List (Option KV)} {st : List KV} {σ : KM} {Z : Type} {Θ : Z → Prop} {G : Int → KM → Option Z} (hX : kOk X d cc n "KeyPath") (hdd : 4 + 1 ≤ d) (hst : k_cat st ≤ 8) (hd : decode cc pc = .ok (.invokevirtual 332, 3)) (h : ∀ r τ, kJ X (pc + 3) L (st) τ (G r τ) Θ) : kJ X pc L (kr 3 :: kr 5 :: st) σ (kCall (fWi_recount σ) G) Θ :=
  k_callV (np := 1) (av := [kr 3]) (ret := none) hX (by decide) rfl rfl rfl (sWi_recount σ) ⟨⟨hdd, by decide⟩, tw_547, tw_5, by decide +kernel⟩ rfl tw_544 tw_545 tw_546 hst hd h
theorem dP_freshWindows_0 : decode prog_1_method_47_code 0 = .ok (.aload_n 0, 1) := by decide +kernel
theorem dP_freshWindows_1 : decode prog_1_method_47_code 1 = .ok (.getfield 33, 3) := by decide +kernel
theorem dP_freshWindows_4 : decode prog_1_method_47_code 4 = .ok (.getfield 329, 3) := by decide +kernel
theorem dP_freshWindows_7 : decode prog_1_method_47_code 7 = .ok (.ifCond .eq 14, 3) := by decide +kernel
theorem dP_freshWindows_10 : decode prog_1_method_47_code 10 = .ok (.aload_n 0, 1) := by decide +kernel
theorem dP_freshWindows_11 : decode prog_1_method_47_code 11 = .ok (.getfield 33, 3) := by decide +kernel
theorem dP_freshWindows_14 : decode prog_1_method_47_code 14 = .ok (.aload_n 0, 1) := by decide +kernel
theorem dP_freshWindows_15 : decode prog_1_method_47_code 15 = .ok (.getfield 19, 3) := by decide +kernel
theorem dP_freshWindows_18 : decode prog_1_method_47_code 18 = .ok (.invokevirtual 332, 3) := by decide +kernel
theorem dP_freshWindows_21 : decode prog_1_method_47_code 21 = .ok (.return_, 1) := by decide +kernel
set_option maxRecDepth 100000 in
set_option maxHeartbeats 4000000 in
theorem tP_freshWindows_J21 {X : KC} {q : Int × KM} (hX : kOk X 5 prog_1_method_47_code 1 "KeyPath") (hR : kRet X none q) (σ : KM) {Θ : (Int × KM) → Prop} (hT : ∀ z, Θ (z) → z = q) : kJ X 21 [lq 0] [] σ (fP_freshWindows_J21 σ) Θ := by
  exact k_vret hX hR hT dP_freshWindows_21
set_option maxRecDepth 100000 in
set_option maxHeartbeats 4000000 in
theorem sP_freshWindows (σ : KM) : kSem 5 (⟨"KeyPath", "freshWindows", "()V"⟩ : MethodName) prog_1_method_47_code 1 none [kr 0] σ (fP_freshWindows σ) := by
  refine kSem.of (L0 := [lq 0]) (by decide) (Nat.le_of_ble_eq_true rfl) rfl (fun X q hX hR => ?_)
  have hT : ∀ z : Int × KM, (fun z => z = q) z → z = q := fun _ h => h
  refine k_aload_n hX dP_freshWindows_0 rfl ?_
  refine gf_0 hX dP_freshWindows_1 ?_
  refine gf_1 hX dP_freshWindows_4 ?_
  refine k_if_eq (tgt := 21) hX dP_freshWindows_7 (by decide) ?_ ?_
  · exact tP_freshWindows_J21 hX hR σ hT
  · refine k_aload_n hX dP_freshWindows_10 rfl ?_
    refine gf_0 hX dP_freshWindows_11 ?_
    refine k_aload_n hX dP_freshWindows_14 rfl ?_
    refine gf_2 hX dP_freshWindows_15 ?_
    refine cl_7 hX (by decide) (Nat.le_of_ble_eq_true rfl) dP_freshWindows_18 (fun _ τ1 => ?_)
    exact tP_freshWindows_J21 hX hR τ1 hT
theorem cl_8 {X : KC} {d n : Nat} {cc : ByteArray} {pc : Nat} {L : List (Option KV)} {st : List KV} {σ : KM} {Z : Type} {Θ : Z → Prop} {G : Int → KM → Option Z} (hX : kOk X d cc n "KeyPath") (hdd : 5 + 1 ≤ d) (hst : k_cat st ≤ 8) (hd : decode cc pc = .ok (.invokevirtual 155, 3)) (h : ∀ r τ, kJ X (pc + 3) L (st) τ (G r τ) Θ) : kJ X pc L (kr 0 :: st) σ (kCall (fP_freshWindows σ) G) Θ :=
  k_callV (np := 0) (av := []) (ret := none) hX (by decide) rfl rfl rfl (sP_freshWindows σ) ⟨⟨hdd, by decide⟩, tw_543, tw_1, by decide +kernel⟩ rfl tw_540 tw_542 ts_15 hst hd h
theorem dP_noWindow_0 : decode prog_1_method_50_code 0 = .ok (.aload_n 0, 1) := by decide +kernel
theorem dP_noWindow_1 : decode prog_1_method_50_code 1 = .ok (.invokevirtual 155, 3) := by decide +kernel
theorem dP_noWindow_4 : decode prog_1_method_50_code 4 = .ok (.iload_n 1, 1) := by decide +kernel
theorem dP_noWindow_5 : decode prog_1_method_50_code 5 = .ok (.ifCond .lt 14, 3) := by decide +kernel
theorem dP_noWindow_8 : decode prog_1_method_50_code 8 = .ok (.iload_n 1, 1) := by decide +kernel
theorem dP_noWindow_9 : decode prog_1_method_50_code 9 = .ok (.aload_n 0, 1) := by decide +kernel
theorem dP_noWindow_10 : decode prog_1_method_50_code 10 = .ok (.getfield 33, 3) := by decide +kernel
theorem dP_noWindow_13 : decode prog_1_method_50_code 13 = .ok (.getfield 158, 3) := by decide +kernel
theorem dP_noWindow_16 : decode prog_1_method_50_code 16 = .ok (.if_icmp .lt 7, 3) := by decide +kernel
theorem dP_noWindow_19 : decode prog_1_method_50_code 19 = .ok (.iconst 1, 1) := by decide +kernel
theorem dP_noWindow_20 : decode prog_1_method_50_code 20 = .ok (.goto 4, 3) := by decide +kernel
theorem dP_noWindow_23 : decode prog_1_method_50_code 23 = .ok (.iconst 0, 1) := by decide +kernel
theorem dP_noWindow_24 : decode prog_1_method_50_code 24 = .ok (.ireturn, 1) := by decide +kernel
set_option maxRecDepth 100000 in
set_option maxHeartbeats 4000000 in
theorem tP_noWindow_J24 {X : KC} {q : Int × KM} (hX : kOk X 6 prog_1_method_50_code 2 "KeyPath") (hR : kRet X (some .boolean) q) (t0 : Int) (σ : KM) {Θ : (Int × KM) → Prop} (hT : ∀ z, Θ (z) → z = q) : kJ X 24 [lq 0, none] [ki t0] σ (fP_noWindow_J24 t0 σ) Θ := by
  exact k_zret hX hR hT dP_noWindow_24
set_option maxRecDepth 100000 in
set_option maxHeartbeats 4000000 in
theorem tP_noWindow_J19 {X : KC} {q : Int × KM} (hX : kOk X 6 prog_1_method_50_code 2 "KeyPath") (hR : kRet X (some .boolean) q) (σ : KM) {Θ : (Int × KM) → Prop} (hT : ∀ z, Θ (z) → z = q) : kJ X 19 [lq 0, none] [] σ (fP_noWindow_J19 σ) Θ := by
  refine k_iconst hX dP_noWindow_19 ?_
  refine k_goto (tgt := 24) hX dP_noWindow_20 (by decide) ?_
  exact tP_noWindow_J24 hX hR 1 σ hT
set_option maxRecDepth 100000 in
set_option maxHeartbeats 4000000 in
theorem sP_noWindow (x1 : Int) (σ : KM) : kSem 6 (⟨"KeyPath", "noWindow", "(I)Z"⟩ : MethodName) prog_1_method_50_code 2 (some .boolean) [kr 0, ki x1] σ (fP_noWindow x1 σ) := by
  refine kSem.of (L0 := [lq 0, li x1]) (by decide) (Nat.le_of_ble_eq_true rfl) rfl (fun X q hX hR => ?_)
  have hT : ∀ z : Int × KM, (fun z => z = q) z → z = q := fun _ h => h
  refine k_aload_n hX dP_noWindow_0 rfl ?_
  refine cl_8 hX (by decide) (Nat.le_of_ble_eq_true rfl) dP_noWindow_1 (fun _ τ1 => ?_)
  refine k_iload_n hX dP_noWindow_4 rfl ?_
  refine k_if_lt (tgt := 19) hX dP_noWindow_5 (by decide) ?_ ?_
  · refine k_less [true, false] (L' := [lq 0, none]) rfl ?_
    exact tP_noWindow_J19 hX hR τ1 hT
  · refine k_iload_n hX dP_noWindow_8 rfl ?_
    refine k_aload_n hX dP_noWindow_9 rfl ?_
    refine gf_0 hX dP_noWindow_10 ?_
    refine gf_18 hX dP_noWindow_13 ?_
    refine k_icmp_lt (tgt := 23) hX dP_noWindow_16 (by decide) ?_ ?_
    · refine k_iconst hX dP_noWindow_23 ?_
      refine k_less [true, false] (L' := [lq 0, none]) rfl ?_
      exact tP_noWindow_J24 hX hR 0 τ1 hT
    · refine k_less [true, false] (L' := [lq 0, none]) rfl ?_
      exact tP_noWindow_J19 hX hR τ1 hT
theorem cl_9 {X : KC} {d n : Nat} {cc : ByteArray} {pc : Nat} {L : List (Option KV)} {st : List KV} {σ : KM} {Z : Type} {Θ : Z → Prop} {G : Int → KM → Option Z} {x1 : Int} (hX : kOk X d cc n "KeyPath") (hdd : 6 + 1 ≤ d) (hst : k_cat st ≤ 8) (hd : decode cc pc = .ok (.invokevirtual 196, 3)) (h : ∀ r τ, kJ X (pc + 3) L (ki r :: st) τ (G r τ) Θ) : kJ X pc L (ki x1 :: kr 0 :: st) σ (kCall (fP_noWindow x1 σ) G) Θ :=
  k_callV (np := 1) (av := [ki x1]) (ret := (some .boolean)) hX (by decide) rfl rfl rfl (sP_noWindow _ σ) ⟨⟨hdd, by decide⟩, tw_601, tw_1, by decide +kernel⟩ rfl tw_598 tw_600 ts_18 hst hd h
theorem dP_chord_0 : decode prog_1_method_19_code 0 = .ok (.aload_n 0, 1) := by decide +kernel
theorem dP_chord_1 : decode prog_1_method_19_code 1 = .ok (.iload_n 1, 1) := by decide +kernel
theorem dP_chord_2 : decode prog_1_method_19_code 2 = .ok (.invokevirtual 196, 3) := by decide +kernel
theorem dP_chord_5 : decode prog_1_method_19_code 5 = .ok (.ifCond .eq 8, 3) := by decide +kernel
theorem dP_chord_8 : decode prog_1_method_19_code 8 = .ok (.bipush (-2), 2) := by decide +kernel
theorem dP_chord_10 : decode prog_1_method_19_code 10 = .ok (.goto 12, 3) := by decide +kernel
theorem dP_chord_13 : decode prog_1_method_19_code 13 = .ok (.aload_n 0, 1) := by decide +kernel
theorem dP_chord_14 : decode prog_1_method_19_code 14 = .ok (.getfield 33, 3) := by decide +kernel
theorem dP_chord_17 : decode prog_1_method_19_code 17 = .ok (.getfield 221, 3) := by decide +kernel
theorem dP_chord_20 : decode prog_1_method_19_code 20 = .ok (.iload_n 1, 1) := by decide +kernel
theorem dP_chord_21 : decode prog_1_method_19_code 21 = .ok (.iaload, 1) := by decide +kernel
theorem dP_chord_22 : decode prog_1_method_19_code 22 = .ok (.ireturn, 1) := by decide +kernel
set_option maxRecDepth 100000 in
set_option maxHeartbeats 4000000 in
theorem tP_chord_J22 {X : KC} {q : Int × KM} (hX : kOk X 7 prog_1_method_19_code 2 "KeyPath") (hR : kRet X (some .int) q) (t0 : Int) (σ : KM) {Θ : (Int × KM) → Prop} (hT : ∀ z, Θ (z) → z = q) : kJ X 22 [lq 0, none] [ki t0] σ (fP_chord_J22 t0 σ) Θ := by
  exact k_iret hX hR hT dP_chord_22
set_option maxRecDepth 100000 in
set_option maxHeartbeats 4000000 in
theorem sP_chord (x1 : Int) (σ : KM) : kSem 7 (⟨"KeyPath", "chord", "(I)I"⟩ : MethodName) prog_1_method_19_code 2 (some .int) [kr 0, ki x1] σ (fP_chord x1 σ) := by
  refine kSem.of (L0 := [lq 0, li x1]) (by decide) (Nat.le_of_ble_eq_true rfl) rfl (fun X q hX hR => ?_)
  have hT : ∀ z : Int × KM, (fun z => z = q) z → z = q := fun _ h => h
  refine k_aload_n hX dP_chord_0 rfl ?_
  refine k_iload_n hX dP_chord_1 rfl ?_
  refine cl_9 hX (by decide) (Nat.le_of_ble_eq_true rfl) dP_chord_2 (fun r2 τ1 => ?_)
  refine k_if_eq (tgt := 13) hX dP_chord_5 (by decide) ?_ ?_
  · refine k_aload_n hX dP_chord_13 rfl ?_
    refine gf_0 hX dP_chord_14 ?_
    refine gf_19 hX dP_chord_17 ?_
    refine k_iload_n hX dP_chord_20 rfl ?_
    refine k_iald hX (by decide) rfl dP_chord_21 rfl (fun y3 => ?_)
    refine k_less [true, false] (L' := [lq 0, none]) rfl ?_
    exact tP_chord_J22 hX hR y3 τ1 hT
  · refine k_bipush hX dP_chord_8 (by decide) ?_
    refine k_goto (tgt := 22) hX dP_chord_10 (by decide) ?_
    refine k_less [true, false] (L' := [lq 0, none]) rfl ?_
    exact tP_chord_J22 hX hR (-2) τ1 hT
theorem dP_modeOf_0 : decode prog_1_method_56_code 0 = .ok (.iload_n 0, 1) := by decide +kernel
theorem dP_modeOf_1 : decode prog_1_method_56_code 1 = .ok (.bipush 12, 2) := by decide +kernel
theorem dP_modeOf_3 : decode prog_1_method_56_code 3 = .ok (.if_icmp .ge 7, 3) := by decide +kernel
theorem dP_modeOf_6 : decode prog_1_method_56_code 6 = .ok (.iconst 0, 1) := by decide +kernel
theorem dP_modeOf_7 : decode prog_1_method_56_code 7 = .ok (.goto 4, 3) := by decide +kernel
theorem dP_modeOf_10 : decode prog_1_method_56_code 10 = .ok (.iconst 1, 1) := by decide +kernel
theorem dP_modeOf_11 : decode prog_1_method_56_code 11 = .ok (.ireturn, 1) := by decide +kernel
set_option maxRecDepth 100000 in
set_option maxHeartbeats 4000000 in
theorem tP_modeOf_J11 {X : KC} {q : Int × KM} (hX : kOk X 1 prog_1_method_56_code 1 "KeyPath") (hR : kRet X (some .int) q) (t0 : Int) (σ : KM) {Θ : (Int × KM) → Prop} (hT : ∀ z, Θ (z) → z = q) : kJ X 11 [none] [ki t0] σ (fP_modeOf_J11 t0 σ) Θ := by
  exact k_iret hX hR hT dP_modeOf_11
set_option maxRecDepth 100000 in
set_option maxHeartbeats 4000000 in
theorem sP_modeOf (x0 : Int) (σ : KM) : kSem 1 (⟨"KeyPath", "modeOf", "(I)I"⟩ : MethodName) prog_1_method_56_code 1 (some .int) [ki x0] σ (fP_modeOf x0 σ) := by
  refine kSem.of (L0 := [li x0]) (by decide) (Nat.le_of_ble_eq_true rfl) rfl (fun X q hX hR => ?_)
  have hT : ∀ z : Int × KM, (fun z => z = q) z → z = q := fun _ h => h
  refine k_iload_n hX dP_modeOf_0 rfl ?_
  refine k_bipush hX dP_modeOf_1 (by decide) ?_
  refine k_icmp_ge (tgt := 10) hX dP_modeOf_3 (by decide) ?_ ?_
  · refine k_iconst hX dP_modeOf_10 ?_
    refine k_less [false] (L' := [none]) rfl ?_
    exact tP_modeOf_J11 hX hR 1 σ hT
  · refine k_iconst hX dP_modeOf_6 ?_
    refine k_goto (tgt := 11) hX dP_modeOf_7 (by decide) ?_
    refine k_less [false] (L' := [none]) rfl ?_
    exact tP_modeOf_J11 hX hR 0 σ hT
theorem cl_10 {X : KC} {d n : Nat} {cc : ByteArray} {pc : Nat} {L : List (Option KV)} {st : List KV} {σ : KM} {Z : Type} {Θ : Z → Prop} {G : Int → KM → Option Z} {x0 : Int} (hX : kOk X d cc n "KeyPath$Profiles") (hdd : 1 + 1 ≤ d) (hst : k_cat st ≤ 8) (hd : decode cc pc = .ok (.invokestatic 33, 3)) (h : ∀ r τ, kJ X (pc + 3) L (ki r :: st) τ (G r τ) Θ) : kJ X pc L (ki x0 :: st) σ (kCall (fP_modeOf x0 σ) G) Θ :=
  k_callSN (np := 1) (av := [ki x0]) (ret := (some .int)) hX (sP_modeOf _ σ) ⟨⟨hdd, by decide⟩, tw_612, tw_1, by decide +kernel⟩ rfl (List.mem_of_getElem? (i := 13) rfl) tw_611 hst hd h
theorem cl_16 {X : KC} {d n : Nat} {cc : ByteArray} {pc : Nat} {L : List (Option KV)} {st : List KV} {σ : KM} {Z : Type} {Θ : Z → Prop} {G : Int → KM → Option Z} {x0 : Int} (hX : kOk X d cc n "KeyPath$Net") (hdd : 1 + 1 ≤ d) (hst : k_cat st ≤ 8) (hd : decode cc pc = .ok (.invokestatic 38, 3)) (h : ∀ r τ, kJ X (pc + 3) L (ki r :: st) τ (G r τ) Θ) : kJ X pc L (ki x0 :: st) σ (kCall (fP_modeOf x0 σ) G) Θ :=
  k_callSN (np := 1) (av := [ki x0]) (ret := (some .int)) hX (sP_modeOf _ σ) ⟨⟨hdd, by decide⟩, tw_612, tw_1, by decide +kernel⟩ rfl (List.mem_of_getElem? (i := 14) rfl) tw_611 hst hd h
theorem cl_35 {X : KC} {d n : Nat} {cc : ByteArray} {pc : Nat} {L : List (Option KV)} {st : List KV} {σ : KM} {Z : Type} {Θ : Z → Prop} {G : Int → KM → Option Z} {x0 : Int} (hX : kOk X d cc n "KeyPath") (hdd : 1 + 1 ≤ d) (hst : k_cat st ≤ 8) (hd : decode cc pc = .ok (.invokestatic 307, 3)) (h : ∀ r τ, kJ X (pc + 3) L (ki r :: st) τ (G r τ) Θ) : kJ X pc L (ki x0 :: st) σ (kCall (fP_modeOf x0 σ) G) Θ :=
  k_callS (np := 1) (av := [ki x0]) (ret := (some .int)) hX (sP_modeOf _ σ) ⟨⟨hdd, by decide⟩, tw_612, tw_1, by decide +kernel⟩ rfl tw_872 tw_611 hst hd h
theorem dPr_weigh_0 : decode prog_7_method_2_code 0 = .ok (.iload_n 3, 1) := by decide +kernel
theorem dPr_weigh_1 : decode prog_7_method_2_code 1 = .ok (.invokestatic 33, 3) := by decide +kernel
theorem dPr_weigh_4 : decode prog_7_method_2_code 4 = .ok (.bipush 12, 2) := by decide +kernel
theorem dPr_weigh_6 : decode prog_7_method_2_code 6 = .ok (.imul, 1) := by decide +kernel
theorem dPr_weigh_7 : decode prog_7_method_2_code 7 = .ok (.istore 4, 2) := by decide +kernel
theorem dPr_weigh_9 : decode prog_7_method_2_code 9 = .ok (.iconst 0, 1) := by decide +kernel
theorem dPr_weigh_10 : decode prog_7_method_2_code 10 = .ok (.istore 5, 2) := by decide +kernel
theorem dPr_weigh_12 : decode prog_7_method_2_code 12 = .ok (.iconst 0, 1) := by decide +kernel
theorem dPr_weigh_13 : decode prog_7_method_2_code 13 = .ok (.istore 6, 2) := by decide +kernel
theorem dPr_weigh_15 : decode prog_7_method_2_code 15 = .ok (.iload 6, 2) := by decide +kernel
theorem dPr_weigh_17 : decode prog_7_method_2_code 17 = .ok (.bipush 12, 2) := by decide +kernel
theorem dPr_weigh_19 : decode prog_7_method_2_code 19 = .ok (.if_icmp .ge 42, 3) := by decide +kernel
theorem dPr_weigh_22 : decode prog_7_method_2_code 22 = .ok (.iload 5, 2) := by decide +kernel
theorem dPr_weigh_24 : decode prog_7_method_2_code 24 = .ok (.aload_n 0, 1) := by decide +kernel
theorem dPr_weigh_25 : decode prog_7_method_2_code 25 = .ok (.getfield 18, 3) := by decide +kernel
theorem dPr_weigh_28 : decode prog_7_method_2_code 28 = .ok (.iload 4, 2) := by decide +kernel
theorem dPr_weigh_30 : decode prog_7_method_2_code 30 = .ok (.iload 6, 2) := by decide +kernel
theorem dPr_weigh_32 : decode prog_7_method_2_code 32 = .ok (.iadd, 1) := by decide +kernel
theorem dPr_weigh_33 : decode prog_7_method_2_code 33 = .ok (.iaload, 1) := by decide +kernel
theorem dPr_weigh_34 : decode prog_7_method_2_code 34 = .ok (.aload_n 1, 1) := by decide +kernel
theorem dPr_weigh_35 : decode prog_7_method_2_code 35 = .ok (.getfield 37, 3) := by decide +kernel
theorem dPr_weigh_38 : decode prog_7_method_2_code 38 = .ok (.iload_n 2, 1) := by decide +kernel
theorem dPr_weigh_39 : decode prog_7_method_2_code 39 = .ok (.bipush 12, 2) := by decide +kernel
theorem dPr_weigh_41 : decode prog_7_method_2_code 41 = .ok (.imul, 1) := by decide +kernel
theorem dPr_weigh_42 : decode prog_7_method_2_code 42 = .ok (.iload_n 3, 1) := by decide +kernel
theorem dPr_weigh_43 : decode prog_7_method_2_code 43 = .ok (.iload 6, 2) := by decide +kernel
theorem dPr_weigh_45 : decode prog_7_method_2_code 45 = .ok (.iadd, 1) := by decide +kernel
theorem dPr_weigh_46 : decode prog_7_method_2_code 46 = .ok (.bipush 12, 2) := by decide +kernel
theorem dPr_weigh_48 : decode prog_7_method_2_code 48 = .ok (.irem, 1) := by decide +kernel
theorem dPr_weigh_49 : decode prog_7_method_2_code 49 = .ok (.iadd, 1) := by decide +kernel
theorem dPr_weigh_50 : decode prog_7_method_2_code 50 = .ok (.iaload, 1) := by decide +kernel
theorem dPr_weigh_51 : decode prog_7_method_2_code 51 = .ok (.imul, 1) := by decide +kernel
theorem dPr_weigh_52 : decode prog_7_method_2_code 52 = .ok (.iadd, 1) := by decide +kernel
theorem dPr_weigh_53 : decode prog_7_method_2_code 53 = .ok (.istore 5, 2) := by decide +kernel
theorem dPr_weigh_55 : decode prog_7_method_2_code 55 = .ok (.iinc 6 1, 3) := by decide +kernel
theorem dPr_weigh_58 : decode prog_7_method_2_code 58 = .ok (.goto (-43), 3) := by decide +kernel
theorem dPr_weigh_61 : decode prog_7_method_2_code 61 = .ok (.iload 5, 2) := by decide +kernel
theorem dPr_weigh_63 : decode prog_7_method_2_code 63 = .ok (.ireturn, 1) := by decide +kernel
set_option maxRecDepth 100000 in
set_option maxHeartbeats 4000000 in
theorem tPr_weigh_J61 {X : KC} {q : Int × KM} (hX : kOk X 2 prog_7_method_2_code 7 "KeyPath$Profiles") (hR : kRet X (some .int) q) (x5 : Int) (σ : KM) {Θ : (Int × KM) → Prop} (hT : ∀ z, Θ (z) → z = q) : kJ X 61 [lq 6, lq 5, none, none, none, li x5, none] [] σ (fPr_weigh_J61 x5 σ) Θ := by
  refine k_iload hX dPr_weigh_61 rfl ?_
  exact k_iret hX hR hT dPr_weigh_63
set_option maxRecDepth 100000 in
set_option maxHeartbeats 4000000 in
theorem tPr_weigh_B15 {X : KC} {q : Int × KM} (hX : kOk X 2 prog_7_method_2_code 7 "KeyPath$Profiles") (hR : kRet X (some .int) q) (x2 x3 x4 x5 x6 : Int) (σ : KM) {Θ : ((Int × Int × KM) ⊕ (Int × KM)) → Prop} (hT : ∀ z, Θ (.inr (z)) → z = q) (hb0 : ∀ s : Int × Int × KM, Θ (.inl s) → kW X 15 [lq 6, lq 5, li x2, li x3, li x4, li s.1, li s.2.1] [] s.2.2) : kJ X 15 [lq 6, lq 5, li x2, li x3, li x4, li x5, li x6] [] σ (fPr_weigh_B15 x2 x3 x4 x5 x6 σ) Θ := by
  refine k_iload hX dPr_weigh_15 rfl ?_
  refine k_bipush hX dPr_weigh_17 (by decide) ?_
  refine k_icmp_ge (tgt := 61) hX dPr_weigh_19 (by decide) ?_ ?_
  · refine k_exit ?_
    refine k_less [true, true, false, false, false, true, false] (L' := [lq 6, lq 5, none, none, none, li x5, none]) rfl ?_
    exact tPr_weigh_J61 hX hR x5 σ hT
  · refine k_iload hX dPr_weigh_22 rfl ?_
    refine k_aload_n hX dPr_weigh_24 rfl ?_
    refine gf_28 hX dPr_weigh_25 ?_
    refine k_iload hX dPr_weigh_28 rfl ?_
    refine k_iload hX dPr_weigh_30 rfl ?_
    refine k_iadd hX dPr_weigh_32 ?_
    refine k_iald hX (by decide) rfl dPr_weigh_33 rfl (fun y1 => ?_)
    refine k_aload_n hX dPr_weigh_34 rfl ?_
    refine gf_29 hX dPr_weigh_35 ?_
    refine k_iload_n hX dPr_weigh_38 rfl ?_
    refine k_bipush hX dPr_weigh_39 (by decide) ?_
    refine k_imul hX dPr_weigh_41 ?_
    refine k_iload_n hX dPr_weigh_42 rfl ?_
    refine k_iload hX dPr_weigh_43 rfl ?_
    refine k_iadd hX dPr_weigh_45 ?_
    refine k_bipush hX dPr_weigh_46 (by decide) ?_
    refine k_irem hX dPr_weigh_48 (fun y2 => ?_)
    refine k_iadd hX dPr_weigh_49 ?_
    refine k_iald hX (by decide) rfl dPr_weigh_50 rfl (fun y3 => ?_)
    refine k_imul hX dPr_weigh_51 ?_
    refine k_iadd hX dPr_weigh_52 ?_
    refine k_istoreL (Lf := fun y4 => [lq 6, lq 5, li x2, li x3, li x4, li y4, li x6]) hX dPr_weigh_53 rfl (by decide) (fun _ => rfl) (fun y4 => ?_)
    refine k_iincL (Lf := fun y5 => [lq 6, lq 5, li x2, li x3, li x4, li y4, li y5]) hX dPr_weigh_55 rfl (by decide) rfl (fun _ => rfl) (fun y5 => ?_)
    refine k_goto (tgt := 15) hX dPr_weigh_58 (by decide) ?_
    exact k_back (hb0 (y4, y5, σ))
set_option maxRecDepth 100000 in
set_option maxHeartbeats 4000000 in
theorem tPr_weigh_L15 {X : KC} {q : Int × KM} (hX : kOk X 2 prog_7_method_2_code 7 "KeyPath$Profiles") (hR : kRet X (some .int) q) (x2 x3 x4 x5 x6 : Int) (σ : KM) {Θ : (Int × KM) → Prop} (hT : ∀ z, Θ (z) → z = q) : kJ X 15 [lq 6, lq 5, li x2, li x3, li x4, li x5, li x6] [] σ (fPr_weigh_L15 x2 x3 x4 x5 x6 σ) Θ :=
  k_iter (f := fun s => fPr_weigh_B15 x2 x3 x4 s.1 s.2.1 s.2.2) (Lf := fun s => [lq 6, lq 5, li x2, li x3, li x4, li s.1, li s.2.1]) (mf := fun s => s.2.2) (Θ := Θ) (fun s => tPr_weigh_B15 hX hR x2 x3 x4 s.1 s.2.1 s.2.2 hT (fun _ h9 => h9)) kF (x5, x6, σ)
set_option maxRecDepth 100000 in
set_option maxHeartbeats 4000000 in
theorem sPr_weigh (x2 x3 : Int) (σ : KM) : kSem 2 (⟨"KeyPath$Profiles", "weigh", "(LKeyPath$Windows;II)I"⟩ : MethodName) prog_7_method_2_code 7 (some .int) [kr 6, kr 5, ki x2, ki x3] σ (fPr_weigh x2 x3 σ) := by
  refine kSem.of (L0 := [lq 6, lq 5, li x2, li x3, none, none, none]) (by decide) (Nat.le_of_ble_eq_true rfl) rfl (fun X q hX hR => ?_)
  have hT : ∀ z : Int × KM, (fun z => z = q) z → z = q := fun _ h => h
  refine k_iload_n hX dPr_weigh_0 rfl ?_
  refine cl_10 hX (by decide) (Nat.le_of_ble_eq_true rfl) dPr_weigh_1 (fun r2 τ1 => ?_)
  refine k_bipush hX dPr_weigh_4 (by decide) ?_
  refine k_imul hX dPr_weigh_6 ?_
  refine k_istoreL (Lf := fun y3 => [lq 6, lq 5, li x2, li x3, li y3, none, none]) hX dPr_weigh_7 rfl (by decide) (fun _ => rfl) (fun y3 => ?_)
  refine k_iconst hX dPr_weigh_9 ?_
  refine k_istore (L' := [lq 6, lq 5, li x2, li x3, li y3, li 0, none]) hX dPr_weigh_10 rfl (by decide) rfl ?_
  refine k_iconst hX dPr_weigh_12 ?_
  refine k_istore (L' := [lq 6, lq 5, li x2, li x3, li y3, li 0, li 0]) hX dPr_weigh_13 rfl (by decide) rfl ?_
  exact tPr_weigh_L15 hX hR x2 x3 y3 0 0 τ1 hT
theorem cl_11 {X : KC} {d n : Nat} {cc : ByteArray} {pc : Nat} {L : List (Option KV)} {st : List KV} {σ : KM} {Z : Type} {Θ : Z → Prop} {G : Int → KM → Option Z} {x2 x3 : Int} (hX : kOk X d cc n "KeyPath$Profiles") (hdd : 2 + 1 ≤ d) (hst : k_cat st ≤ 8) (hd : decode cc pc = .ok (.invokevirtual 53, 3)) (h : ∀ r τ, kJ X (pc + 3) L (ki r :: st) τ (G r τ) Θ) : kJ X pc L (ki x3 :: ki x2 :: kr 5 :: kr 6 :: st) σ (kCall (fPr_weigh x2 x3 σ) G) Θ :=
  k_callV (np := 3) (av := [kr 5, ki x2, ki x3]) (ret := (some .int)) hX (by decide) rfl rfl rfl (sPr_weigh _ _ σ) ⟨⟨hdd, by decide⟩, tw_609, tw_6, by decide +kernel⟩ rfl tw_632 tw_607 tw_608 hst hd h
theorem cl_83 {X : KC} {d n : Nat} {cc : ByteArray} {pc : Nat} {L : List (Option KV)} {st : List KV} {σ : KM} {Z : Type} {Θ : Z → Prop} {G : Int → KM → Option Z} {x2 x3 : Int} (hX : kOk X d cc n "KeyPath") (hdd : 2 + 1 ≤ d) (hst : k_cat st ≤ 8) (hd : decode cc pc = .ok (.invokevirtual 205, 3)) (h : ∀ r τ, kJ X (pc + 3) L (ki r :: st) τ (G r τ) Θ) : kJ X pc L (ki x3 :: ki x2 :: kr 5 :: kr 6 :: st) σ (kCall (fPr_weigh x2 x3 σ) G) Θ :=
  k_callV (np := 3) (av := [kr 5, ki x2, ki x3]) (ret := (some .int)) hX (by decide) rfl rfl rfl (sPr_weigh _ _ σ) ⟨⟨hdd, by decide⟩, tw_609, tw_6, by decide +kernel⟩ rfl tw_606 tw_607 tw_608 hst hd h
theorem dPr_judgeRow_0 : decode prog_7_method_4_code 0 = .ok (.aload_n 1, 1) := by decide +kernel
theorem dPr_judgeRow_1 : decode prog_7_method_4_code 1 = .ok (.getfield 50, 3) := by decide +kernel
theorem dPr_judgeRow_4 : decode prog_7_method_4_code 4 = .ok (.iload_n 2, 1) := by decide +kernel
theorem dPr_judgeRow_5 : decode prog_7_method_4_code 5 = .ok (.iaload, 1) := by decide +kernel
theorem dPr_judgeRow_6 : decode prog_7_method_4_code 6 = .ok (.istore_n 3, 1) := by decide +kernel
theorem dPr_judgeRow_7 : decode prog_7_method_4_code 7 = .ok (.aload_n 0, 1) := by decide +kernel
theorem dPr_judgeRow_8 : decode prog_7_method_4_code 8 = .ok (.getfield 26, 3) := by decide +kernel
theorem dPr_judgeRow_11 : decode prog_7_method_4_code 11 = .ok (.iload_n 2, 1) := by decide +kernel
theorem dPr_judgeRow_12 : decode prog_7_method_4_code 12 = .ok (.iconst 0, 1) := by decide +kernel
theorem dPr_judgeRow_13 : decode prog_7_method_4_code 13 = .ok (.iastore, 1) := by decide +kernel
theorem dPr_judgeRow_14 : decode prog_7_method_4_code 14 = .ok (.iconst 0, 1) := by decide +kernel
theorem dPr_judgeRow_15 : decode prog_7_method_4_code 15 = .ok (.istore 4, 2) := by decide +kernel
theorem dPr_judgeRow_17 : decode prog_7_method_4_code 17 = .ok (.iload 4, 2) := by decide +kernel
theorem dPr_judgeRow_19 : decode prog_7_method_4_code 19 = .ok (.bipush 24, 2) := by decide +kernel
theorem dPr_judgeRow_21 : decode prog_7_method_4_code 21 = .ok (.if_icmp .ge 63, 3) := by decide +kernel
theorem dPr_judgeRow_24 : decode prog_7_method_4_code 24 = .ok (.iload_n 3, 1) := by decide +kernel
theorem dPr_judgeRow_25 : decode prog_7_method_4_code 25 = .ok (.ifCond .ne 7, 3) := by decide +kernel
theorem dPr_judgeRow_28 : decode prog_7_method_4_code 28 = .ok (.iconst 0, 1) := by decide +kernel
theorem dPr_judgeRow_29 : decode prog_7_method_4_code 29 = .ok (.goto 16, 3) := by decide +kernel
theorem dPr_judgeRow_32 : decode prog_7_method_4_code 32 = .ok (.bipush 100, 2) := by decide +kernel
theorem dPr_judgeRow_34 : decode prog_7_method_4_code 34 = .ok (.aload_n 0, 1) := by decide +kernel
theorem dPr_judgeRow_35 : decode prog_7_method_4_code 35 = .ok (.aload_n 1, 1) := by decide +kernel
theorem dPr_judgeRow_36 : decode prog_7_method_4_code 36 = .ok (.iload_n 2, 1) := by decide +kernel
theorem dPr_judgeRow_37 : decode prog_7_method_4_code 37 = .ok (.iload 4, 2) := by decide +kernel
theorem dPr_judgeRow_39 : decode prog_7_method_4_code 39 = .ok (.invokevirtual 53, 3) := by decide +kernel
theorem dPr_judgeRow_42 : decode prog_7_method_4_code 42 = .ok (.imul, 1) := by decide +kernel
theorem dPr_judgeRow_43 : decode prog_7_method_4_code 43 = .ok (.iload_n 3, 1) := by decide +kernel
theorem dPr_judgeRow_44 : decode prog_7_method_4_code 44 = .ok (.idiv, 1) := by decide +kernel
theorem dPr_judgeRow_45 : decode prog_7_method_4_code 45 = .ok (.istore 5, 2) := by decide +kernel
theorem dPr_judgeRow_47 : decode prog_7_method_4_code 47 = .ok (.aload_n 0, 1) := by decide +kernel
theorem dPr_judgeRow_48 : decode prog_7_method_4_code 48 = .ok (.getfield 23, 3) := by decide +kernel
theorem dPr_judgeRow_51 : decode prog_7_method_4_code 51 = .ok (.iload_n 2, 1) := by decide +kernel
theorem dPr_judgeRow_52 : decode prog_7_method_4_code 52 = .ok (.bipush 24, 2) := by decide +kernel
theorem dPr_judgeRow_54 : decode prog_7_method_4_code 54 = .ok (.imul, 1) := by decide +kernel
theorem dPr_judgeRow_55 : decode prog_7_method_4_code 55 = .ok (.iload 4, 2) := by decide +kernel
theorem dPr_judgeRow_57 : decode prog_7_method_4_code 57 = .ok (.iadd, 1) := by decide +kernel
theorem dPr_judgeRow_58 : decode prog_7_method_4_code 58 = .ok (.iload 5, 2) := by decide +kernel
theorem dPr_judgeRow_60 : decode prog_7_method_4_code 60 = .ok (.iastore, 1) := by decide +kernel
theorem dPr_judgeRow_61 : decode prog_7_method_4_code 61 = .ok (.aload_n 0, 1) := by decide +kernel
theorem dPr_judgeRow_62 : decode prog_7_method_4_code 62 = .ok (.getfield 26, 3) := by decide +kernel
theorem dPr_judgeRow_65 : decode prog_7_method_4_code 65 = .ok (.iload_n 2, 1) := by decide +kernel
theorem dPr_judgeRow_66 : decode prog_7_method_4_code 66 = .ok (.aload_n 0, 1) := by decide +kernel
theorem dPr_judgeRow_67 : decode prog_7_method_4_code 67 = .ok (.getfield 26, 3) := by decide +kernel
theorem dPr_judgeRow_70 : decode prog_7_method_4_code 70 = .ok (.iload_n 2, 1) := by decide +kernel
theorem dPr_judgeRow_71 : decode prog_7_method_4_code 71 = .ok (.iaload, 1) := by decide +kernel
theorem dPr_judgeRow_72 : decode prog_7_method_4_code 72 = .ok (.iload 5, 2) := by decide +kernel
theorem dPr_judgeRow_74 : decode prog_7_method_4_code 74 = .ok (.invokestatic 57, 3) := by decide +kernel
theorem dPr_judgeRow_77 : decode prog_7_method_4_code 77 = .ok (.iastore, 1) := by decide +kernel
theorem dPr_judgeRow_78 : decode prog_7_method_4_code 78 = .ok (.iinc 4 1, 3) := by decide +kernel
theorem dPr_judgeRow_81 : decode prog_7_method_4_code 81 = .ok (.goto (-64), 3) := by decide +kernel
theorem dPr_judgeRow_84 : decode prog_7_method_4_code 84 = .ok (.return_, 1) := by decide +kernel
set_option maxRecDepth 100000 in
set_option maxHeartbeats 4000000 in
theorem tPr_judgeRow_J84 {X : KC} {q : Int × KM} (hX : kOk X 3 prog_7_method_4_code 6 "KeyPath$Profiles") (hR : kRet X none q) (σ : KM) {Θ : (Int × KM) → Prop} (hT : ∀ z, Θ (z) → z = q) : kJ X 84 [lq 6, lq 5, none, none, none, none] [] σ (fPr_judgeRow_J84 σ) Θ := by
  exact k_vret hX hR hT dPr_judgeRow_84
set_option maxRecDepth 100000 in
set_option maxHeartbeats 4000000 in
theorem tPr_judgeRow_J45 {X : KC} {q : Int × KM} (hX : kOk X 3 prog_7_method_4_code 6 "KeyPath$Profiles") (hR : kRet X none q) (x2 x3 x4 t0 : Int) (σ : KM) {Θ : ((Int × KM) ⊕ (Int × KM)) → Prop} (hT : ∀ z, Θ (.inr (z)) → z = q) (hb0 : ∀ s : Int × KM, Θ (.inl s) → kW X 17 [lq 6, lq 5, li x2, li x3, li s.1, none] [] s.2) : kJ X 45 [lq 6, lq 5, li x2, li x3, li x4, none] [ki t0] σ (fPr_judgeRow_J45 x2 x3 x4 t0 σ) Θ := by
  refine k_istore (L' := [lq 6, lq 5, li x2, li x3, li x4, li t0]) hX dPr_judgeRow_45 rfl (by decide) rfl ?_
  refine k_aload_n hX dPr_judgeRow_47 rfl ?_
  refine gf_30 hX dPr_judgeRow_48 ?_
  refine k_iload_n hX dPr_judgeRow_51 rfl ?_
  refine k_bipush hX dPr_judgeRow_52 (by decide) ?_
  refine k_imul hX dPr_judgeRow_54 ?_
  refine k_iload hX dPr_judgeRow_55 rfl ?_
  refine k_iadd hX dPr_judgeRow_57 ?_
  refine k_iload hX dPr_judgeRow_58 rfl ?_
  refine k_iast hX (by decide) rfl dPr_judgeRow_60 rfl (fun τ1 => ?_)
  refine k_aload_n hX dPr_judgeRow_61 rfl ?_
  refine gf_27 hX dPr_judgeRow_62 ?_
  refine k_iload_n hX dPr_judgeRow_65 rfl ?_
  refine k_aload_n hX dPr_judgeRow_66 rfl ?_
  refine gf_27 hX dPr_judgeRow_67 ?_
  refine k_iload_n hX dPr_judgeRow_70 rfl ?_
  refine k_iald hX (by decide) rfl dPr_judgeRow_71 rfl (fun y2 => ?_)
  refine k_iload hX dPr_judgeRow_72 rfl ?_
  refine k_mmax hX (by decide) (Nat.le_of_ble_eq_true rfl) tw_633 tw_535 tw_12 tw_536 dPr_judgeRow_74 (fun y3 => ?_)
  refine k_iast hX (by decide) rfl dPr_judgeRow_77 rfl (fun τ4 => ?_)
  refine k_iincL (Lf := fun y5 => [lq 6, lq 5, li x2, li x3, li y5, li t0]) hX dPr_judgeRow_78 rfl (by decide) rfl (fun _ => rfl) (fun y5 => ?_)
  refine k_goto (tgt := 17) hX dPr_judgeRow_81 (by decide) ?_
  refine k_less [true, true, true, true, true, false] (L' := [lq 6, lq 5, li x2, li x3, li y5, none]) rfl ?_
  exact k_back (hb0 (y5, τ4))
set_option maxRecDepth 100000 in
set_option maxHeartbeats 4000000 in
theorem tPr_judgeRow_B17 {X : KC} {q : Int × KM} (hX : kOk X 3 prog_7_method_4_code 6 "KeyPath$Profiles") (hR : kRet X none q) (x2 x3 x4 : Int) (σ : KM) {Θ : ((Int × KM) ⊕ (Int × KM)) → Prop} (hT : ∀ z, Θ (.inr (z)) → z = q) (hb0 : ∀ s : Int × KM, Θ (.inl s) → kW X 17 [lq 6, lq 5, li x2, li x3, li s.1, none] [] s.2) : kJ X 17 [lq 6, lq 5, li x2, li x3, li x4, none] [] σ (fPr_judgeRow_B17 x2 x3 x4 σ) Θ := by
  refine k_iload hX dPr_judgeRow_17 rfl ?_
  refine k_bipush hX dPr_judgeRow_19 (by decide) ?_
  refine k_icmp_ge (tgt := 84) hX dPr_judgeRow_21 (by decide) ?_ ?_
  · refine k_exit ?_
    refine k_less [true, true, false, false, false, true] (L' := [lq 6, lq 5, none, none, none, none]) rfl ?_
    exact tPr_judgeRow_J84 hX hR σ hT
  · refine k_iload_n hX dPr_judgeRow_24 rfl ?_
    refine k_if_ne (tgt := 32) hX dPr_judgeRow_25 (by decide) ?_ ?_
    · refine k_bipush hX dPr_judgeRow_32 (by decide) ?_
      refine k_aload_n hX dPr_judgeRow_34 rfl ?_
      refine k_aload_n hX dPr_judgeRow_35 rfl ?_
      refine k_iload_n hX dPr_judgeRow_36 rfl ?_
      refine k_iload hX dPr_judgeRow_37 rfl ?_
      refine cl_11 hX (by decide) (Nat.le_of_ble_eq_true rfl) dPr_judgeRow_39 (fun r2 τ1 => ?_)
      refine k_imul hX dPr_judgeRow_42 ?_
      refine k_iload_n hX dPr_judgeRow_43 rfl ?_
      refine k_idiv hX dPr_judgeRow_44 (fun y3 => ?_)
      exact tPr_judgeRow_J45 hX hR x2 x3 x4 y3 τ1 hT hb0
    · refine k_iconst hX dPr_judgeRow_28 ?_
      refine k_goto (tgt := 45) hX dPr_judgeRow_29 (by decide) ?_
      exact tPr_judgeRow_J45 hX hR x2 x3 x4 0 σ hT hb0
set_option maxRecDepth 100000 in
set_option maxHeartbeats 4000000 in
theorem tPr_judgeRow_L17 {X : KC} {q : Int × KM} (hX : kOk X 3 prog_7_method_4_code 6 "KeyPath$Profiles") (hR : kRet X none q) (x2 x3 x4 : Int) (σ : KM) {Θ : (Int × KM) → Prop} (hT : ∀ z, Θ (z) → z = q) : kJ X 17 [lq 6, lq 5, li x2, li x3, li x4, none] [] σ (fPr_judgeRow_L17 x2 x3 x4 σ) Θ :=
  k_iter (f := fun s => fPr_judgeRow_B17 x2 x3 s.1 s.2) (Lf := fun s => [lq 6, lq 5, li x2, li x3, li s.1, none]) (mf := fun s => s.2) (Θ := Θ) (fun s => tPr_judgeRow_B17 hX hR x2 x3 s.1 s.2 hT (fun _ h9 => h9)) kF (x4, σ)
set_option maxRecDepth 100000 in
set_option maxHeartbeats 4000000 in
theorem sPr_judgeRow (x2 : Int) (σ : KM) : kSem 3 (⟨"KeyPath$Profiles", "judgeRow", "(LKeyPath$Windows;I)V"⟩ : MethodName) prog_7_method_4_code 6 none [kr 6, kr 5, ki x2] σ (fPr_judgeRow x2 σ) := by
  refine kSem.of (L0 := [lq 6, lq 5, li x2, none, none, none]) (by decide) (Nat.le_of_ble_eq_true rfl) rfl (fun X q hX hR => ?_)
  have hT : ∀ z : Int × KM, (fun z => z = q) z → z = q := fun _ h => h
  refine k_aload_n hX dPr_judgeRow_0 rfl ?_
  refine gf_26 hX dPr_judgeRow_1 ?_
  refine k_iload_n hX dPr_judgeRow_4 rfl ?_
  refine k_iald hX (by decide) rfl dPr_judgeRow_5 rfl (fun y1 => ?_)
  refine k_istore_n (L' := [lq 6, lq 5, li x2, li y1, none, none]) hX dPr_judgeRow_6 rfl (by decide) rfl ?_
  refine k_aload_n hX dPr_judgeRow_7 rfl ?_
  refine gf_27 hX dPr_judgeRow_8 ?_
  refine k_iload_n hX dPr_judgeRow_11 rfl ?_
  refine k_iconst hX dPr_judgeRow_12 ?_
  refine k_iast hX (by decide) rfl dPr_judgeRow_13 rfl (fun τ2 => ?_)
  refine k_iconst hX dPr_judgeRow_14 ?_
  refine k_istore (L' := [lq 6, lq 5, li x2, li y1, li 0, none]) hX dPr_judgeRow_15 rfl (by decide) rfl ?_
  exact tPr_judgeRow_L17 hX hR x2 y1 0 τ2 hT
theorem cl_12 {X : KC} {d n : Nat} {cc : ByteArray} {pc : Nat} {L : List (Option KV)} {st : List KV} {σ : KM} {Z : Type} {Θ : Z → Prop} {G : Int → KM → Option Z} {x2 : Int} (hX : kOk X d cc n "KeyPath$Profiles") (hdd : 3 + 1 ≤ d) (hst : k_cat st ≤ 8) (hd : decode cc pc = .ok (.invokevirtual 46, 3)) (h : ∀ r τ, kJ X (pc + 3) L (st) τ (G r τ) Θ) : kJ X pc L (ki x2 :: kr 5 :: kr 6 :: st) σ (kCall (fPr_judgeRow x2 σ) G) Θ :=
  k_callV (np := 2) (av := [kr 5, ki x2]) (ret := none) hX (by decide) rfl rfl rfl (sPr_judgeRow _ σ) ⟨⟨hdd, by decide⟩, tw_631, tw_6, by decide +kernel⟩ rfl tw_628 tw_630 ts_20 hst hd h
theorem dPr_judge_0 : decode prog_7_method_3_code 0 = .ok (.iconst 0, 1) := by decide +kernel
theorem dPr_judge_1 : decode prog_7_method_3_code 1 = .ok (.istore_n 2, 1) := by decide +kernel
theorem dPr_judge_2 : decode prog_7_method_3_code 2 = .ok (.iload_n 2, 1) := by decide +kernel
theorem dPr_judge_3 : decode prog_7_method_3_code 3 = .ok (.aload_n 1, 1) := by decide +kernel
theorem dPr_judge_4 : decode prog_7_method_3_code 4 = .ok (.getfield 42, 3) := by decide +kernel
theorem dPr_judge_7 : decode prog_7_method_3_code 7 = .ok (.if_icmp .ge 15, 3) := by decide +kernel
theorem dPr_judge_10 : decode prog_7_method_3_code 10 = .ok (.aload_n 0, 1) := by decide +kernel
theorem dPr_judge_11 : decode prog_7_method_3_code 11 = .ok (.aload_n 1, 1) := by decide +kernel
theorem dPr_judge_12 : decode prog_7_method_3_code 12 = .ok (.iload_n 2, 1) := by decide +kernel
theorem dPr_judge_13 : decode prog_7_method_3_code 13 = .ok (.invokevirtual 46, 3) := by decide +kernel
theorem dPr_judge_16 : decode prog_7_method_3_code 16 = .ok (.iinc 2 1, 3) := by decide +kernel
theorem dPr_judge_19 : decode prog_7_method_3_code 19 = .ok (.goto (-17), 3) := by decide +kernel
theorem dPr_judge_22 : decode prog_7_method_3_code 22 = .ok (.aload_n 0, 1) := by decide +kernel
theorem dPr_judge_23 : decode prog_7_method_3_code 23 = .ok (.aload_n 1, 1) := by decide +kernel
theorem dPr_judge_24 : decode prog_7_method_3_code 24 = .ok (.bipush 48, 2) := by decide +kernel
theorem dPr_judge_26 : decode prog_7_method_3_code 26 = .ok (.invokevirtual 46, 3) := by decide +kernel
theorem dPr_judge_29 : decode prog_7_method_3_code 29 = .ok (.aload_n 0, 1) := by decide +kernel
theorem dPr_judge_30 : decode prog_7_method_3_code 30 = .ok (.iconst 0, 1) := by decide +kernel
theorem dPr_judge_31 : decode prog_7_method_3_code 31 = .ok (.putfield 29, 3) := by decide +kernel
theorem dPr_judge_34 : decode prog_7_method_3_code 34 = .ok (.return_, 1) := by decide +kernel
set_option maxRecDepth 100000 in
set_option maxHeartbeats 4000000 in
theorem tPr_judge_J22 {X : KC} {q : Int × KM} (hX : kOk X 4 prog_7_method_3_code 3 "KeyPath$Profiles") (hR : kRet X none q) (σ : KM) {Θ : (Int × KM) → Prop} (hT : ∀ z, Θ (z) → z = q) : kJ X 22 [lq 6, lq 5, none] [] σ (fPr_judge_J22 σ) Θ := by
  refine k_aload_n hX dPr_judge_22 rfl ?_
  refine k_aload_n hX dPr_judge_23 rfl ?_
  refine k_bipush hX dPr_judge_24 (by decide) ?_
  refine cl_12 hX (by decide) (Nat.le_of_ble_eq_true rfl) dPr_judge_26 (fun _ τ1 => ?_)
  refine k_aload_n hX dPr_judge_29 rfl ?_
  refine k_iconst hX dPr_judge_30 ?_
  refine gz_31 hX dPr_judge_31 (fun τ2 => ?_)
  exact k_vret hX hR hT dPr_judge_34
set_option maxRecDepth 100000 in
set_option maxHeartbeats 4000000 in
theorem tPr_judge_B2 {X : KC} {q : Int × KM} (hX : kOk X 4 prog_7_method_3_code 3 "KeyPath$Profiles") (hR : kRet X none q) (x2 : Int) (σ : KM) {Θ : ((Int × KM) ⊕ (Int × KM)) → Prop} (hT : ∀ z, Θ (.inr (z)) → z = q) (hb0 : ∀ s : Int × KM, Θ (.inl s) → kW X 2 [lq 6, lq 5, li s.1] [] s.2) : kJ X 2 [lq 6, lq 5, li x2] [] σ (fPr_judge_B2 x2 σ) Θ := by
  refine k_iload_n hX dPr_judge_2 rfl ?_
  refine k_aload_n hX dPr_judge_3 rfl ?_
  refine gf_25 hX dPr_judge_4 ?_
  refine k_icmp_ge (tgt := 22) hX dPr_judge_7 (by decide) ?_ ?_
  · refine k_exit ?_
    refine k_less [true, true, false] (L' := [lq 6, lq 5, none]) rfl ?_
    exact tPr_judge_J22 hX hR σ hT
  · refine k_aload_n hX dPr_judge_10 rfl ?_
    refine k_aload_n hX dPr_judge_11 rfl ?_
    refine k_iload_n hX dPr_judge_12 rfl ?_
    refine cl_12 hX (by decide) (Nat.le_of_ble_eq_true rfl) dPr_judge_13 (fun _ τ1 => ?_)
    refine k_iincL (Lf := fun y2 => [lq 6, lq 5, li y2]) hX dPr_judge_16 rfl (by decide) rfl (fun _ => rfl) (fun y2 => ?_)
    refine k_goto (tgt := 2) hX dPr_judge_19 (by decide) ?_
    exact k_back (hb0 (y2, τ1))
set_option maxRecDepth 100000 in
set_option maxHeartbeats 4000000 in
theorem tPr_judge_L2 {X : KC} {q : Int × KM} (hX : kOk X 4 prog_7_method_3_code 3 "KeyPath$Profiles") (hR : kRet X none q) (x2 : Int) (σ : KM) {Θ : (Int × KM) → Prop} (hT : ∀ z, Θ (z) → z = q) : kJ X 2 [lq 6, lq 5, li x2] [] σ (fPr_judge_L2 x2 σ) Θ :=
  k_iter (f := fun s => fPr_judge_B2 s.1 s.2) (Lf := fun s => [lq 6, lq 5, li s.1]) (mf := fun s => s.2) (Θ := Θ) (fun s => tPr_judge_B2 hX hR s.1 s.2 hT (fun _ h9 => h9)) kF (x2, σ)
set_option maxRecDepth 100000 in
set_option maxHeartbeats 4000000 in
theorem sPr_judge (σ : KM) : kSem 4 (⟨"KeyPath$Profiles", "judge", "(LKeyPath$Windows;)V"⟩ : MethodName) prog_7_method_3_code 3 none [kr 6, kr 5] σ (fPr_judge σ) := by
  refine kSem.of (L0 := [lq 6, lq 5, none]) (by decide) (Nat.le_of_ble_eq_true rfl) rfl (fun X q hX hR => ?_)
  have hT : ∀ z : Int × KM, (fun z => z = q) z → z = q := fun _ h => h
  refine k_iconst hX dPr_judge_0 ?_
  refine k_istore_n (L' := [lq 6, lq 5, li 0]) hX dPr_judge_1 rfl (by decide) rfl ?_
  exact tPr_judge_L2 hX hR 0 σ hT
theorem cl_13 {X : KC} {d n : Nat} {cc : ByteArray} {pc : Nat} {L : List (Option KV)} {st : List KV} {σ : KM} {Z : Type} {Θ : Z → Prop} {G : Int → KM → Option Z} (hX : kOk X d cc n "KeyPath") (hdd : 4 + 1 ≤ d) (hst : k_cat st ≤ 8) (hd : decode cc pc = .ok (.invokevirtual 335, 3)) (h : ∀ r τ, kJ X (pc + 3) L (st) τ (G r τ) Θ) : kJ X pc L (kr 5 :: kr 6 :: st) σ (kCall (fPr_judge σ) G) Θ :=
  k_callV (np := 1) (av := [kr 5]) (ret := none) hX (by decide) rfl rfl rfl (sPr_judge σ) ⟨⟨hdd, by decide⟩, tw_627, tw_6, by decide +kernel⟩ rfl tw_624 tw_625 tw_626 hst hd h
theorem dP_freshFits_0 : decode prog_1_method_48_code 0 = .ok (.aload_n 0, 1) := by decide +kernel
theorem dP_freshFits_1 : decode prog_1_method_48_code 1 = .ok (.invokevirtual 155, 3) := by decide +kernel
theorem dP_freshFits_4 : decode prog_1_method_48_code 4 = .ok (.aload_n 0, 1) := by decide +kernel
theorem dP_freshFits_5 : decode prog_1_method_48_code 5 = .ok (.getfield 40, 3) := by decide +kernel
theorem dP_freshFits_8 : decode prog_1_method_48_code 8 = .ok (.getfield 330, 3) := by decide +kernel
theorem dP_freshFits_11 : decode prog_1_method_48_code 11 = .ok (.ifCond .eq 14, 3) := by decide +kernel
theorem dP_freshFits_14 : decode prog_1_method_48_code 14 = .ok (.aload_n 0, 1) := by decide +kernel
theorem dP_freshFits_15 : decode prog_1_method_48_code 15 = .ok (.getfield 40, 3) := by decide +kernel
theorem dP_freshFits_18 : decode prog_1_method_48_code 18 = .ok (.aload_n 0, 1) := by decide +kernel
theorem dP_freshFits_19 : decode prog_1_method_48_code 19 = .ok (.getfield 33, 3) := by decide +kernel
theorem dP_freshFits_22 : decode prog_1_method_48_code 22 = .ok (.invokevirtual 335, 3) := by decide +kernel
theorem dP_freshFits_25 : decode prog_1_method_48_code 25 = .ok (.return_, 1) := by decide +kernel
set_option maxRecDepth 100000 in
set_option maxHeartbeats 4000000 in
theorem tP_freshFits_J25 {X : KC} {q : Int × KM} (hX : kOk X 6 prog_1_method_48_code 1 "KeyPath") (hR : kRet X none q) (σ : KM) {Θ : (Int × KM) → Prop} (hT : ∀ z, Θ (z) → z = q) : kJ X 25 [lq 0] [] σ (fP_freshFits_J25 σ) Θ := by
  exact k_vret hX hR hT dP_freshFits_25
set_option maxRecDepth 100000 in
set_option maxHeartbeats 4000000 in
theorem sP_freshFits (σ : KM) : kSem 6 (⟨"KeyPath", "freshFits", "()V"⟩ : MethodName) prog_1_method_48_code 1 none [kr 0] σ (fP_freshFits σ) := by
  refine kSem.of (L0 := [lq 0]) (by decide) (Nat.le_of_ble_eq_true rfl) rfl (fun X q hX hR => ?_)
  have hT : ∀ z : Int × KM, (fun z => z = q) z → z = q := fun _ h => h
  refine k_aload_n hX dP_freshFits_0 rfl ?_
  refine cl_8 hX (by decide) (Nat.le_of_ble_eq_true rfl) dP_freshFits_1 (fun _ τ1 => ?_)
  refine k_aload_n hX dP_freshFits_4 rfl ?_
  refine gf_23 hX dP_freshFits_5 ?_
  refine gf_24 hX dP_freshFits_8 ?_
  refine k_if_eq (tgt := 25) hX dP_freshFits_11 (by decide) ?_ ?_
  · exact tP_freshFits_J25 hX hR τ1 hT
  · refine k_aload_n hX dP_freshFits_14 rfl ?_
    refine gf_23 hX dP_freshFits_15 ?_
    refine k_aload_n hX dP_freshFits_18 rfl ?_
    refine gf_0 hX dP_freshFits_19 ?_
    refine cl_13 hX (by decide) (Nat.le_of_ble_eq_true rfl) dP_freshFits_22 (fun _ τ2 => ?_)
    exact tP_freshFits_J25 hX hR τ2 hT
theorem cl_14 {X : KC} {d n : Nat} {cc : ByteArray} {pc : Nat} {L : List (Option KV)} {st : List KV} {σ : KM} {Z : Type} {Θ : Z → Prop} {G : Int → KM → Option Z} (hX : kOk X d cc n "KeyPath") (hdd : 6 + 1 ≤ d) (hst : k_cat st ≤ 8) (hd : decode cc pc = .ok (.invokevirtual 212, 3)) (h : ∀ r τ, kJ X (pc + 3) L (st) τ (G r τ) Θ) : kJ X pc L (kr 0 :: st) σ (kCall (fP_freshFits σ) G) Θ :=
  k_callV (np := 0) (av := []) (ret := none) hX (by decide) rfl rfl rfl (sP_freshFits σ) ⟨⟨hdd, by decide⟩, tw_623, tw_1, by decide +kernel⟩ rfl tw_620 tw_622 ts_19 hst hd h
theorem dAr_fill2_32_0 : decode prog_18_method_103_code 0 = .ok (.iconst 0, 1) := by decide +kernel
theorem dAr_fill2_32_1 : decode prog_18_method_103_code 1 = .ok (.istore_n 2, 1) := by decide +kernel
theorem dAr_fill2_32_2 : decode prog_18_method_103_code 2 = .ok (.aload_n 0, 1) := by decide +kernel
theorem dAr_fill2_32_3 : decode prog_18_method_103_code 3 = .ok (.arraylength, 1) := by decide +kernel
theorem dAr_fill2_32_4 : decode prog_18_method_103_code 4 = .ok (.istore_n 3, 1) := by decide +kernel
theorem dAr_fill2_32_5 : decode prog_18_method_103_code 5 = .ok (.iload_n 2, 1) := by decide +kernel
theorem dAr_fill2_32_6 : decode prog_18_method_103_code 6 = .ok (.iload_n 3, 1) := by decide +kernel
theorem dAr_fill2_32_7 : decode prog_18_method_103_code 7 = .ok (.if_icmp .ge 13, 3) := by decide +kernel
theorem dAr_fill2_32_10 : decode prog_18_method_103_code 10 = .ok (.aload_n 0, 1) := by decide +kernel
theorem dAr_fill2_32_11 : decode prog_18_method_103_code 11 = .ok (.iload_n 2, 1) := by decide +kernel
theorem dAr_fill2_32_12 : decode prog_18_method_103_code 12 = .ok (.iload_n 1, 1) := by decide +kernel
theorem dAr_fill2_32_13 : decode prog_18_method_103_code 13 = .ok (.iastore, 1) := by decide +kernel
theorem dAr_fill2_32_14 : decode prog_18_method_103_code 14 = .ok (.iinc 2 1, 3) := by decide +kernel
theorem dAr_fill2_32_17 : decode prog_18_method_103_code 17 = .ok (.goto (-12), 3) := by decide +kernel
theorem dAr_fill2_32_20 : decode prog_18_method_103_code 20 = .ok (.return_, 1) := by decide +kernel
set_option maxRecDepth 100000 in
set_option maxHeartbeats 4000000 in
theorem tAr_fill2_32_J20 {X : KC} {q : Int × KM} (hX : kOk X 1 prog_18_method_103_code 4 "java/util/Arrays") (hR : kRet X none q) (σ : KM) {Θ : (Int × KM) → Prop} (hT : ∀ z, Θ (z) → z = q) : kJ X 20 [lq 32, none, none, none] [] σ (fAr_fill2_32_J20 σ) Θ := by
  exact k_vret hX hR hT dAr_fill2_32_20
set_option maxRecDepth 100000 in
set_option maxHeartbeats 4000000 in
theorem tAr_fill2_32_B5 {X : KC} {q : Int × KM} (hX : kOk X 1 prog_18_method_103_code 4 "java/util/Arrays") (hR : kRet X none q) (x1 x3 x2 : Int) (σ : KM) {Θ : ((Int × KM) ⊕ (Int × KM)) → Prop} (hT : ∀ z, Θ (.inr (z)) → z = q) (hb0 : ∀ s : Int × KM, Θ (.inl s) → kW X 5 [lq 32, li x1, li s.1, li x3] [] s.2) : kJ X 5 [lq 32, li x1, li x2, li x3] [] σ (fAr_fill2_32_B5 x1 x3 x2 σ) Θ := by
  refine k_iload_n hX dAr_fill2_32_5 rfl ?_
  refine k_iload_n hX dAr_fill2_32_6 rfl ?_
  refine k_icmp_ge (tgt := 20) hX dAr_fill2_32_7 (by decide) ?_ ?_
  · refine k_exit ?_
    refine k_less [true, false, false, false] (L' := [lq 32, none, none, none]) rfl ?_
    exact tAr_fill2_32_J20 hX hR σ hT
  · refine k_aload_n hX dAr_fill2_32_10 rfl ?_
    refine k_iload_n hX dAr_fill2_32_11 rfl ?_
    refine k_iload_n hX dAr_fill2_32_12 rfl ?_
    refine k_iast hX (by decide) rfl dAr_fill2_32_13 rfl (fun τ1 => ?_)
    refine k_iincL (Lf := fun y2 => [lq 32, li x1, li y2, li x3]) hX dAr_fill2_32_14 rfl (by decide) rfl (fun _ => rfl) (fun y2 => ?_)
    refine k_goto (tgt := 5) hX dAr_fill2_32_17 (by decide) ?_
    exact k_back (hb0 (y2, τ1))
set_option maxRecDepth 100000 in
set_option maxHeartbeats 4000000 in
theorem tAr_fill2_32_L5 {X : KC} {q : Int × KM} (hX : kOk X 1 prog_18_method_103_code 4 "java/util/Arrays") (hR : kRet X none q) (x1 x3 x2 : Int) (σ : KM) {Θ : (Int × KM) → Prop} (hT : ∀ z, Θ (z) → z = q) : kJ X 5 [lq 32, li x1, li x2, li x3] [] σ (fAr_fill2_32_L5 x1 x3 x2 σ) Θ :=
  k_iter (f := fun s => fAr_fill2_32_B5 x1 x3 s.1 s.2) (Lf := fun s => [lq 32, li x1, li s.1, li x3]) (mf := fun s => s.2) (Θ := Θ) (fun s => tAr_fill2_32_B5 hX hR x1 x3 s.1 s.2 hT (fun _ h9 => h9)) kF (x2, σ)
set_option maxRecDepth 100000 in
set_option maxHeartbeats 4000000 in
theorem sAr_fill2_32 (x1 : Int) (σ : KM) : kSem 1 (⟨"java/util/Arrays", "fill", "([II)V"⟩ : MethodName) prog_18_method_103_code 4 none [kr 32, ki x1] σ (fAr_fill2_32 x1 σ) := by
  refine kSem.of (L0 := [lq 32, li x1, none, none]) (by decide) (Nat.le_of_ble_eq_true rfl) rfl (fun X q hX hR => ?_)
  have hT : ∀ z : Int × KM, (fun z => z = q) z → z = q := fun _ h => h
  refine k_iconst hX dAr_fill2_32_0 ?_
  refine k_istore_n (L' := [lq 32, li x1, li 0, none]) hX dAr_fill2_32_1 rfl (by decide) rfl ?_
  refine k_aload_n hX dAr_fill2_32_2 rfl ?_
  refine k_alen (N := 24) hX (by decide) (by decide) rfl dAr_fill2_32_3 ?_
  refine k_istore_n (L' := [lq 32, li x1, li 0, li 24]) hX dAr_fill2_32_4 rfl (by decide) rfl ?_
  exact tAr_fill2_32_L5 hX hR x1 24 0 σ hT
theorem cl_15 {X : KC} {d n : Nat} {cc : ByteArray} {pc : Nat} {L : List (Option KV)} {st : List KV} {σ : KM} {Z : Type} {Θ : Z → Prop} {G : Int → KM → Option Z} {x1 : Int} (hX : kOk X d cc n "KeyPath$Net") (hdd : 1 + 1 ≤ d) (hst : k_cat st ≤ 8) (hd : decode cc pc = .ok (.invokestatic 55, 3)) (h : ∀ r τ, kJ X (pc + 3) L (st) τ (G r τ) Θ) : kJ X pc L (ki x1 :: kr 32 :: st) σ (kCall (fAr_fill2_32 x1 σ) G) Θ :=
  k_callS (np := 2) (av := [kr 32, ki x1]) (ret := none) hX (sAr_fill2_32 _ σ) ⟨⟨hdd, by decide⟩, tw_244, tw_9, by decide +kernel⟩ rfl tw_667 tw_243 hst hd h
theorem dNe_raised_0 : decode prog_4_method_3_code 0 = .ok (.iload_n 2, 1) := by decide +kernel
theorem dNe_raised_1 : decode prog_4_method_3_code 1 = .ok (.bipush 12, 2) := by decide +kernel
theorem dNe_raised_3 : decode prog_4_method_3_code 3 = .ok (.imul, 1) := by decide +kernel
theorem dNe_raised_4 : decode prog_4_method_3_code 4 = .ok (.iload_n 0, 1) := by decide +kernel
theorem dNe_raised_5 : decode prog_4_method_3_code 5 = .ok (.iload_n 1, 1) := by decide +kernel
theorem dNe_raised_6 : decode prog_4_method_3_code 6 = .ok (.iadd, 1) := by decide +kernel
theorem dNe_raised_7 : decode prog_4_method_3_code 7 = .ok (.bipush 12, 2) := by decide +kernel
theorem dNe_raised_9 : decode prog_4_method_3_code 9 = .ok (.irem, 1) := by decide +kernel
theorem dNe_raised_10 : decode prog_4_method_3_code 10 = .ok (.iadd, 1) := by decide +kernel
theorem dNe_raised_11 : decode prog_4_method_3_code 11 = .ok (.ireturn, 1) := by decide +kernel
set_option maxRecDepth 100000 in
set_option maxHeartbeats 4000000 in
theorem sNe_raised (x0 x1 x2 : Int) (σ : KM) : kSem 1 (⟨"KeyPath$Net", "raised", "(III)I"⟩ : MethodName) prog_4_method_3_code 3 (some .int) [ki x0, ki x1, ki x2] σ (fNe_raised x0 x1 x2 σ) := by
  refine kSem.of (L0 := [li x0, li x1, li x2]) (by decide) (Nat.le_of_ble_eq_true rfl) rfl (fun X q hX hR => ?_)
  have hT : ∀ z : Int × KM, (fun z => z = q) z → z = q := fun _ h => h
  refine k_iload_n hX dNe_raised_0 rfl ?_
  refine k_bipush hX dNe_raised_1 (by decide) ?_
  refine k_imul hX dNe_raised_3 ?_
  refine k_iload_n hX dNe_raised_4 rfl ?_
  refine k_iload_n hX dNe_raised_5 rfl ?_
  refine k_iadd hX dNe_raised_6 ?_
  refine k_bipush hX dNe_raised_7 (by decide) ?_
  refine k_irem hX dNe_raised_9 (fun y1 => ?_)
  refine k_iadd hX dNe_raised_10 ?_
  exact k_iret hX hR hT dNe_raised_11
theorem cl_17 {X : KC} {d n : Nat} {cc : ByteArray} {pc : Nat} {L : List (Option KV)} {st : List KV} {σ : KM} {Z : Type} {Θ : Z → Prop} {G : Int → KM → Option Z} {x0 x1 x2 : Int} (hX : kOk X d cc n "KeyPath$Net") (hdd : 1 + 1 ≤ d) (hst : k_cat st ≤ 8) (hd : decode cc pc = .ok (.invokestatic 42, 3)) (h : ∀ r τ, kJ X (pc + 3) L (ki r :: st) τ (G r τ) Θ) : kJ X pc L (ki x2 :: ki x1 :: ki x0 :: st) σ (kCall (fNe_raised x0 x1 x2 σ) G) Θ :=
  k_callS (np := 3) (av := [ki x0, ki x1, ki x2]) (ret := (some .int)) hX (sNe_raised _ _ _ σ) ⟨⟨hdd, by decide⟩, tw_674, tw_7, by decide +kernel⟩ rfl tw_672 tw_673 hst hd h
theorem dNe_neighbour_0 : decode prog_4_method_2_code 0 = .ok (.iload_n 0, 1) := by decide +kernel
theorem dNe_neighbour_1 : decode prog_4_method_2_code 1 = .ok (.invokestatic 38, 3) := by decide +kernel
theorem dNe_neighbour_4 : decode prog_4_method_2_code 4 = .ok (.istore_n 2, 1) := by decide +kernel
theorem dNe_neighbour_5 : decode prog_4_method_2_code 5 = .ok (.iload_n 1, 1) := by decide +kernel
theorem dNe_neighbour_6 : decode prog_4_method_2_code 6 = .ok (.ifCond .ne 11, 3) := by decide +kernel
theorem dNe_neighbour_9 : decode prog_4_method_2_code 9 = .ok (.iload_n 0, 1) := by decide +kernel
theorem dNe_neighbour_10 : decode prog_4_method_2_code 10 = .ok (.bipush 7, 2) := by decide +kernel
theorem dNe_neighbour_12 : decode prog_4_method_2_code 12 = .ok (.iload_n 2, 1) := by decide +kernel
theorem dNe_neighbour_13 : decode prog_4_method_2_code 13 = .ok (.invokestatic 42, 3) := by decide +kernel
theorem dNe_neighbour_16 : decode prog_4_method_2_code 16 = .ok (.ireturn, 1) := by decide +kernel
theorem dNe_neighbour_17 : decode prog_4_method_2_code 17 = .ok (.iload_n 1, 1) := by decide +kernel
theorem dNe_neighbour_18 : decode prog_4_method_2_code 18 = .ok (.iconst 1, 1) := by decide +kernel
theorem dNe_neighbour_19 : decode prog_4_method_2_code 19 = .ok (.if_icmp .ne 10, 3) := by decide +kernel
theorem dNe_neighbour_22 : decode prog_4_method_2_code 22 = .ok (.iload_n 0, 1) := by decide +kernel
theorem dNe_neighbour_23 : decode prog_4_method_2_code 23 = .ok (.iconst 5, 1) := by decide +kernel
theorem dNe_neighbour_24 : decode prog_4_method_2_code 24 = .ok (.iload_n 2, 1) := by decide +kernel
theorem dNe_neighbour_25 : decode prog_4_method_2_code 25 = .ok (.invokestatic 42, 3) := by decide +kernel
theorem dNe_neighbour_28 : decode prog_4_method_2_code 28 = .ok (.ireturn, 1) := by decide +kernel
theorem dNe_neighbour_29 : decode prog_4_method_2_code 29 = .ok (.iload_n 1, 1) := by decide +kernel
theorem dNe_neighbour_30 : decode prog_4_method_2_code 30 = .ok (.iconst 2, 1) := by decide +kernel
theorem dNe_neighbour_31 : decode prog_4_method_2_code 31 = .ok (.if_icmp .ne 21, 3) := by decide +kernel
theorem dNe_neighbour_34 : decode prog_4_method_2_code 34 = .ok (.iload_n 0, 1) := by decide +kernel
theorem dNe_neighbour_35 : decode prog_4_method_2_code 35 = .ok (.iload_n 2, 1) := by decide +kernel
theorem dNe_neighbour_36 : decode prog_4_method_2_code 36 = .ok (.ifCond .ne 8, 3) := by decide +kernel
theorem dNe_neighbour_39 : decode prog_4_method_2_code 39 = .ok (.bipush 9, 2) := by decide +kernel
theorem dNe_neighbour_41 : decode prog_4_method_2_code 41 = .ok (.goto 4, 3) := by decide +kernel
theorem dNe_neighbour_44 : decode prog_4_method_2_code 44 = .ok (.iconst 3, 1) := by decide +kernel
theorem dNe_neighbour_45 : decode prog_4_method_2_code 45 = .ok (.iconst 1, 1) := by decide +kernel
theorem dNe_neighbour_46 : decode prog_4_method_2_code 46 = .ok (.iload_n 2, 1) := by decide +kernel
theorem dNe_neighbour_47 : decode prog_4_method_2_code 47 = .ok (.isub, 1) := by decide +kernel
theorem dNe_neighbour_48 : decode prog_4_method_2_code 48 = .ok (.invokestatic 42, 3) := by decide +kernel
theorem dNe_neighbour_51 : decode prog_4_method_2_code 51 = .ok (.ireturn, 1) := by decide +kernel
theorem dNe_neighbour_52 : decode prog_4_method_2_code 52 = .ok (.iload_n 0, 1) := by decide +kernel
theorem dNe_neighbour_53 : decode prog_4_method_2_code 53 = .ok (.iconst 0, 1) := by decide +kernel
theorem dNe_neighbour_54 : decode prog_4_method_2_code 54 = .ok (.iconst 1, 1) := by decide +kernel
theorem dNe_neighbour_55 : decode prog_4_method_2_code 55 = .ok (.iload_n 2, 1) := by decide +kernel
theorem dNe_neighbour_56 : decode prog_4_method_2_code 56 = .ok (.isub, 1) := by decide +kernel
theorem dNe_neighbour_57 : decode prog_4_method_2_code 57 = .ok (.invokestatic 42, 3) := by decide +kernel
theorem dNe_neighbour_60 : decode prog_4_method_2_code 60 = .ok (.ireturn, 1) := by decide +kernel
set_option maxRecDepth 100000 in
set_option maxHeartbeats 4000000 in
theorem tNe_neighbour_J45 {X : KC} {q : Int × KM} (hX : kOk X 2 prog_4_method_2_code 3 "KeyPath$Net") (hR : kRet X (some .int) q) (x2 t0 t1 : Int) (σ : KM) {Θ : (Int × KM) → Prop} (hT : ∀ z, Θ (z) → z = q) : kJ X 45 [none, none, li x2] [ki t0, ki t1] σ (fNe_neighbour_J45 x2 t0 t1 σ) Θ := by
  refine k_iconst hX dNe_neighbour_45 ?_
  refine k_iload_n hX dNe_neighbour_46 rfl ?_
  refine k_isub hX dNe_neighbour_47 ?_
  refine cl_17 hX (by decide) (Nat.le_of_ble_eq_true rfl) dNe_neighbour_48 (fun r2 τ1 => ?_)
  exact k_iret hX hR hT dNe_neighbour_51
set_option maxRecDepth 100000 in
set_option maxHeartbeats 4000000 in
theorem sNe_neighbour (x0 x1 : Int) (σ : KM) : kSem 2 (⟨"KeyPath$Net", "neighbour", "(II)I"⟩ : MethodName) prog_4_method_2_code 3 (some .int) [ki x0, ki x1] σ (fNe_neighbour x0 x1 σ) := by
  refine kSem.of (L0 := [li x0, li x1, none]) (by decide) (Nat.le_of_ble_eq_true rfl) rfl (fun X q hX hR => ?_)
  have hT : ∀ z : Int × KM, (fun z => z = q) z → z = q := fun _ h => h
  refine k_iload_n hX dNe_neighbour_0 rfl ?_
  refine cl_16 hX (by decide) (Nat.le_of_ble_eq_true rfl) dNe_neighbour_1 (fun r2 τ1 => ?_)
  refine k_istore_n (L' := [li x0, li x1, li r2]) hX dNe_neighbour_4 rfl (by decide) rfl ?_
  refine k_iload_n hX dNe_neighbour_5 rfl ?_
  refine k_if_ne (tgt := 17) hX dNe_neighbour_6 (by decide) ?_ ?_
  · refine k_iload_n hX dNe_neighbour_17 rfl ?_
    refine k_iconst hX dNe_neighbour_18 ?_
    refine k_icmp_ne (tgt := 29) hX dNe_neighbour_19 (by decide) ?_ ?_
    · refine k_iload_n hX dNe_neighbour_29 rfl ?_
      refine k_iconst hX dNe_neighbour_30 ?_
      refine k_icmp_ne (tgt := 52) hX dNe_neighbour_31 (by decide) ?_ ?_
      · refine k_iload_n hX dNe_neighbour_52 rfl ?_
        refine k_iconst hX dNe_neighbour_53 ?_
        refine k_iconst hX dNe_neighbour_54 ?_
        refine k_iload_n hX dNe_neighbour_55 rfl ?_
        refine k_isub hX dNe_neighbour_56 ?_
        refine cl_17 hX (by decide) (Nat.le_of_ble_eq_true rfl) dNe_neighbour_57 (fun r4 τ3 => ?_)
        exact k_iret hX hR hT dNe_neighbour_60
      · refine k_iload_n hX dNe_neighbour_34 rfl ?_
        refine k_iload_n hX dNe_neighbour_35 rfl ?_
        refine k_if_ne (tgt := 44) hX dNe_neighbour_36 (by decide) ?_ ?_
        · refine k_iconst hX dNe_neighbour_44 ?_
          refine k_less [false, false, true] (L' := [none, none, li r2]) rfl ?_
          exact tNe_neighbour_J45 hX hR r2 3 x0 τ1 hT
        · refine k_bipush hX dNe_neighbour_39 (by decide) ?_
          refine k_goto (tgt := 45) hX dNe_neighbour_41 (by decide) ?_
          refine k_less [false, false, true] (L' := [none, none, li r2]) rfl ?_
          exact tNe_neighbour_J45 hX hR r2 9 x0 τ1 hT
    · refine k_iload_n hX dNe_neighbour_22 rfl ?_
      refine k_iconst hX dNe_neighbour_23 ?_
      refine k_iload_n hX dNe_neighbour_24 rfl ?_
      refine cl_17 hX (by decide) (Nat.le_of_ble_eq_true rfl) dNe_neighbour_25 (fun r6 τ5 => ?_)
      exact k_iret hX hR hT dNe_neighbour_28
  · refine k_iload_n hX dNe_neighbour_9 rfl ?_
    refine k_bipush hX dNe_neighbour_10 (by decide) ?_
    refine k_iload_n hX dNe_neighbour_12 rfl ?_
    refine cl_17 hX (by decide) (Nat.le_of_ble_eq_true rfl) dNe_neighbour_13 (fun r8 τ7 => ?_)
    exact k_iret hX hR hT dNe_neighbour_16
theorem cl_18 {X : KC} {d n : Nat} {cc : ByteArray} {pc : Nat} {L : List (Option KV)} {st : List KV} {σ : KM} {Z : Type} {Θ : Z → Prop} {G : Int → KM → Option Z} {x0 x1 : Int} (hX : kOk X d cc n "KeyPath$Net") (hdd : 2 + 1 ≤ d) (hst : k_cat st ≤ 8) (hd : decode cc pc = .ok (.invokestatic 61, 3)) (h : ∀ r τ, kJ X (pc + 3) L (ki r :: st) τ (G r τ) Θ) : kJ X pc L (ki x1 :: ki x0 :: st) σ (kCall (fNe_neighbour x0 x1 σ) G) Θ :=
  k_callS (np := 2) (av := [ki x0, ki x1]) (ret := (some .int)) hX (sNe_neighbour _ _ σ) ⟨⟨hdd, by decide⟩, tw_670, tw_7, by decide +kernel⟩ rfl tw_668 tw_669 hst hd h
theorem dNe_rankOfStep_0 : decode prog_4_method_4_code 0 = .ok (.aload_n 0, 1) := by decide +kernel
theorem dNe_rankOfStep_1 : decode prog_4_method_4_code 1 = .ok (.getfield 18, 3) := by decide +kernel
theorem dNe_rankOfStep_4 : decode prog_4_method_4_code 4 = .ok (.istore_n 2, 1) := by decide +kernel
theorem dNe_rankOfStep_5 : decode prog_4_method_4_code 5 = .ok (.iload_n 1, 1) := by decide +kernel
theorem dNe_rankOfStep_6 : decode prog_4_method_4_code 6 = .ok (.ifCond .eq 8, 3) := by decide +kernel
theorem dNe_rankOfStep_9 : decode prog_4_method_4_code 9 = .ok (.iload_n 1, 1) := by decide +kernel
theorem dNe_rankOfStep_10 : decode prog_4_method_4_code 10 = .ok (.iconst 1, 1) := by decide +kernel
theorem dNe_rankOfStep_11 : decode prog_4_method_4_code 11 = .ok (.if_icmp .ne 11, 3) := by decide +kernel
theorem dNe_rankOfStep_14 : decode prog_4_method_4_code 14 = .ok (.aload_n 0, 1) := by decide +kernel
theorem dNe_rankOfStep_15 : decode prog_4_method_4_code 15 = .ok (.getfield 9, 3) := by decide +kernel
theorem dNe_rankOfStep_18 : decode prog_4_method_4_code 18 = .ok (.istore_n 2, 1) := by decide +kernel
theorem dNe_rankOfStep_19 : decode prog_4_method_4_code 19 = .ok (.goto 13, 3) := by decide +kernel
theorem dNe_rankOfStep_22 : decode prog_4_method_4_code 22 = .ok (.iload_n 1, 1) := by decide +kernel
theorem dNe_rankOfStep_23 : decode prog_4_method_4_code 23 = .ok (.iconst 2, 1) := by decide +kernel
theorem dNe_rankOfStep_24 : decode prog_4_method_4_code 24 = .ok (.if_icmp .ne 8, 3) := by decide +kernel
theorem dNe_rankOfStep_27 : decode prog_4_method_4_code 27 = .ok (.aload_n 0, 1) := by decide +kernel
theorem dNe_rankOfStep_28 : decode prog_4_method_4_code 28 = .ok (.getfield 15, 3) := by decide +kernel
theorem dNe_rankOfStep_31 : decode prog_4_method_4_code 31 = .ok (.istore_n 2, 1) := by decide +kernel
theorem dNe_rankOfStep_32 : decode prog_4_method_4_code 32 = .ok (.bipush 64, 2) := by decide +kernel
theorem dNe_rankOfStep_34 : decode prog_4_method_4_code 34 = .ok (.iload_n 2, 1) := by decide +kernel
theorem dNe_rankOfStep_35 : decode prog_4_method_4_code 35 = .ok (.imul, 1) := by decide +kernel
theorem dNe_rankOfStep_36 : decode prog_4_method_4_code 36 = .ok (.iconst 1, 1) := by decide +kernel
theorem dNe_rankOfStep_37 : decode prog_4_method_4_code 37 = .ok (.iadd, 1) := by decide +kernel
theorem dNe_rankOfStep_38 : decode prog_4_method_4_code 38 = .ok (.ireturn, 1) := by decide +kernel
set_option maxRecDepth 100000 in
set_option maxHeartbeats 4000000 in
theorem tNe_rankOfStep_J32 {X : KC} {q : Int × KM} (hX : kOk X 1 prog_4_method_4_code 3 "KeyPath$Net") (hR : kRet X (some .int) q) (x2 : Int) (σ : KM) {Θ : (Int × KM) → Prop} (hT : ∀ z, Θ (z) → z = q) : kJ X 32 [lq 7, none, li x2] [] σ (fNe_rankOfStep_J32 x2 σ) Θ := by
  refine k_bipush hX dNe_rankOfStep_32 (by decide) ?_
  refine k_iload_n hX dNe_rankOfStep_34 rfl ?_
  refine k_imul hX dNe_rankOfStep_35 ?_
  refine k_iconst hX dNe_rankOfStep_36 ?_
  refine k_iadd hX dNe_rankOfStep_37 ?_
  exact k_iret hX hR hT dNe_rankOfStep_38
set_option maxRecDepth 100000 in
set_option maxHeartbeats 4000000 in
theorem tNe_rankOfStep_J14 {X : KC} {q : Int × KM} (hX : kOk X 1 prog_4_method_4_code 3 "KeyPath$Net") (hR : kRet X (some .int) q) (σ : KM) {Θ : (Int × KM) → Prop} (hT : ∀ z, Θ (z) → z = q) : kJ X 14 [lq 7, none, none] [] σ (fNe_rankOfStep_J14 σ) Θ := by
  refine k_aload_n hX dNe_rankOfStep_14 rfl ?_
  refine gf_37 hX dNe_rankOfStep_15 ?_
  refine k_istoreL_n (Lf := fun y1 => [lq 7, none, li y1]) hX dNe_rankOfStep_18 rfl (by decide) (fun _ => rfl) (fun y1 => ?_)
  refine k_goto (tgt := 32) hX dNe_rankOfStep_19 (by decide) ?_
  exact tNe_rankOfStep_J32 hX hR y1 σ hT
set_option maxRecDepth 100000 in
set_option maxHeartbeats 4000000 in
theorem sNe_rankOfStep (x1 : Int) (σ : KM) : kSem 1 (⟨"KeyPath$Net", "rankOfStep", "(I)I"⟩ : MethodName) prog_4_method_4_code 3 (some .int) [kr 7, ki x1] σ (fNe_rankOfStep x1 σ) := by
  refine kSem.of (L0 := [lq 7, li x1, none]) (by decide) (Nat.le_of_ble_eq_true rfl) rfl (fun X q hX hR => ?_)
  have hT : ∀ z : Int × KM, (fun z => z = q) z → z = q := fun _ h => h
  refine k_aload_n hX dNe_rankOfStep_0 rfl ?_
  refine gf_36 hX dNe_rankOfStep_1 ?_
  refine k_istoreL_n (Lf := fun y1 => [lq 7, li x1, li y1]) hX dNe_rankOfStep_4 rfl (by decide) (fun _ => rfl) (fun y1 => ?_)
  refine k_iload_n hX dNe_rankOfStep_5 rfl ?_
  refine k_if_eq (tgt := 14) hX dNe_rankOfStep_6 (by decide) ?_ ?_
  · refine k_less [true, false, false] (L' := [lq 7, none, none]) rfl ?_
    exact tNe_rankOfStep_J14 hX hR σ hT
  · refine k_iload_n hX dNe_rankOfStep_9 rfl ?_
    refine k_iconst hX dNe_rankOfStep_10 ?_
    refine k_icmp_ne (tgt := 22) hX dNe_rankOfStep_11 (by decide) ?_ ?_
    · refine k_iload_n hX dNe_rankOfStep_22 rfl ?_
      refine k_iconst hX dNe_rankOfStep_23 ?_
      refine k_icmp_ne (tgt := 32) hX dNe_rankOfStep_24 (by decide) ?_ ?_
      · refine k_less [true, false, true] (L' := [lq 7, none, li y1]) rfl ?_
        exact tNe_rankOfStep_J32 hX hR y1 σ hT
      · refine k_aload_n hX dNe_rankOfStep_27 rfl ?_
        refine gf_38 hX dNe_rankOfStep_28 ?_
        refine k_istoreL_n (Lf := fun y2 => [lq 7, li x1, li y2]) hX dNe_rankOfStep_31 rfl (by decide) (fun _ => rfl) (fun y2 => ?_)
        refine k_less [true, false, true] (L' := [lq 7, none, li y2]) rfl ?_
        exact tNe_rankOfStep_J32 hX hR y2 σ hT
    · refine k_less [true, false, false] (L' := [lq 7, none, none]) rfl ?_
      exact tNe_rankOfStep_J14 hX hR σ hT
theorem cl_19 {X : KC} {d n : Nat} {cc : ByteArray} {pc : Nat} {L : List (Option KV)} {st : List KV} {σ : KM} {Z : Type} {Θ : Z → Prop} {G : Int → KM → Option Z} {x1 : Int} (hX : kOk X d cc n "KeyPath$Net") (hdd : 1 + 1 ≤ d) (hst : k_cat st ≤ 8) (hd : decode cc pc = .ok (.invokevirtual 65, 3)) (h : ∀ r τ, kJ X (pc + 3) L (ki r :: st) τ (G r τ) Θ) : kJ X pc L (ki x1 :: kr 7 :: st) σ (kCall (fNe_rankOfStep x1 σ) G) Θ :=
  k_callV (np := 1) (av := [ki x1]) (ret := (some .int)) hX (by decide) rfl rfl rfl (sNe_rankOfStep _ σ) ⟨⟨hdd, by decide⟩, tw_678, tw_7, by decide +kernel⟩ rfl tw_675 tw_677 ts_23 hst hd h
theorem dNe_reachFrom_0 : decode prog_4_method_6_code 0 = .ok (.aload_n 0, 1) := by decide +kernel
theorem dNe_reachFrom_1 : decode prog_4_method_6_code 1 = .ok (.getfield 35, 3) := by decide +kernel
theorem dNe_reachFrom_4 : decode prog_4_method_6_code 4 = .ok (.ldc 54, 2) := by decide +kernel
theorem dNe_reachFrom_6 : decode prog_4_method_6_code 6 = .ok (.invokestatic 55, 3) := by decide +kernel
theorem dNe_reachFrom_9 : decode prog_4_method_6_code 9 = .ok (.aload_n 0, 1) := by decide +kernel
theorem dNe_reachFrom_10 : decode prog_4_method_6_code 10 = .ok (.getfield 35, 3) := by decide +kernel
theorem dNe_reachFrom_13 : decode prog_4_method_6_code 13 = .ok (.iload_n 1, 1) := by decide +kernel
theorem dNe_reachFrom_14 : decode prog_4_method_6_code 14 = .ok (.iconst 0, 1) := by decide +kernel
theorem dNe_reachFrom_15 : decode prog_4_method_6_code 15 = .ok (.iastore, 1) := by decide +kernel
theorem dNe_reachFrom_16 : decode prog_4_method_6_code 16 = .ok (.iconst 1, 1) := by decide +kernel
theorem dNe_reachFrom_17 : decode prog_4_method_6_code 17 = .ok (.istore_n 2, 1) := by decide +kernel
theorem dNe_reachFrom_18 : decode prog_4_method_6_code 18 = .ok (.iconst 0, 1) := by decide +kernel
theorem dNe_reachFrom_19 : decode prog_4_method_6_code 19 = .ok (.istore_n 3, 1) := by decide +kernel
theorem dNe_reachFrom_20 : decode prog_4_method_6_code 20 = .ok (.iload_n 3, 1) := by decide +kernel
theorem dNe_reachFrom_21 : decode prog_4_method_6_code 21 = .ok (.bipush 24, 2) := by decide +kernel
theorem dNe_reachFrom_23 : decode prog_4_method_6_code 23 = .ok (.if_icmp .ge 94, 3) := by decide +kernel
theorem dNe_reachFrom_26 : decode prog_4_method_6_code 26 = .ok (.iload_n 2, 1) := by decide +kernel
theorem dNe_reachFrom_27 : decode prog_4_method_6_code 27 = .ok (.ifCond .eq 90, 3) := by decide +kernel
theorem dNe_reachFrom_30 : decode prog_4_method_6_code 30 = .ok (.iconst 0, 1) := by decide +kernel
theorem dNe_reachFrom_31 : decode prog_4_method_6_code 31 = .ok (.istore_n 2, 1) := by decide +kernel
theorem dNe_reachFrom_32 : decode prog_4_method_6_code 32 = .ok (.iconst 0, 1) := by decide +kernel
theorem dNe_reachFrom_33 : decode prog_4_method_6_code 33 = .ok (.istore 4, 2) := by decide +kernel
theorem dNe_reachFrom_35 : decode prog_4_method_6_code 35 = .ok (.iload 4, 2) := by decide +kernel
theorem dNe_reachFrom_37 : decode prog_4_method_6_code 37 = .ok (.bipush 24, 2) := by decide +kernel
theorem dNe_reachFrom_39 : decode prog_4_method_6_code 39 = .ok (.if_icmp .ge 72, 3) := by decide +kernel
theorem dNe_reachFrom_42 : decode prog_4_method_6_code 42 = .ok (.iconst 0, 1) := by decide +kernel
theorem dNe_reachFrom_43 : decode prog_4_method_6_code 43 = .ok (.istore 5, 2) := by decide +kernel
theorem dNe_reachFrom_45 : decode prog_4_method_6_code 45 = .ok (.iload 5, 2) := by decide +kernel
theorem dNe_reachFrom_47 : decode prog_4_method_6_code 47 = .ok (.iconst 4, 1) := by decide +kernel
theorem dNe_reachFrom_48 : decode prog_4_method_6_code 48 = .ok (.if_icmp .ge 57, 3) := by decide +kernel
theorem dNe_reachFrom_51 : decode prog_4_method_6_code 51 = .ok (.iload 4, 2) := by decide +kernel
theorem dNe_reachFrom_53 : decode prog_4_method_6_code 53 = .ok (.iload 5, 2) := by decide +kernel
theorem dNe_reachFrom_55 : decode prog_4_method_6_code 55 = .ok (.invokestatic 61, 3) := by decide +kernel
theorem dNe_reachFrom_58 : decode prog_4_method_6_code 58 = .ok (.istore 6, 2) := by decide +kernel
theorem dNe_reachFrom_60 : decode prog_4_method_6_code 60 = .ok (.aload_n 0, 1) := by decide +kernel
theorem dNe_reachFrom_61 : decode prog_4_method_6_code 61 = .ok (.getfield 35, 3) := by decide +kernel
theorem dNe_reachFrom_64 : decode prog_4_method_6_code 64 = .ok (.iload 4, 2) := by decide +kernel
theorem dNe_reachFrom_66 : decode prog_4_method_6_code 66 = .ok (.iaload, 1) := by decide +kernel
theorem dNe_reachFrom_67 : decode prog_4_method_6_code 67 = .ok (.aload_n 0, 1) := by decide +kernel
theorem dNe_reachFrom_68 : decode prog_4_method_6_code 68 = .ok (.iload 5, 2) := by decide +kernel
theorem dNe_reachFrom_70 : decode prog_4_method_6_code 70 = .ok (.invokevirtual 65, 3) := by decide +kernel
theorem dNe_reachFrom_73 : decode prog_4_method_6_code 73 = .ok (.iadd, 1) := by decide +kernel
theorem dNe_reachFrom_74 : decode prog_4_method_6_code 74 = .ok (.istore 7, 2) := by decide +kernel
theorem dNe_reachFrom_76 : decode prog_4_method_6_code 76 = .ok (.iload 7, 2) := by decide +kernel
theorem dNe_reachFrom_78 : decode prog_4_method_6_code 78 = .ok (.aload_n 0, 1) := by decide +kernel
theorem dNe_reachFrom_79 : decode prog_4_method_6_code 79 = .ok (.getfield 35, 3) := by decide +kernel
theorem dNe_reachFrom_82 : decode prog_4_method_6_code 82 = .ok (.iload 6, 2) := by decide +kernel
theorem dNe_reachFrom_84 : decode prog_4_method_6_code 84 = .ok (.iaload, 1) := by decide +kernel
theorem dNe_reachFrom_85 : decode prog_4_method_6_code 85 = .ok (.if_icmp .ge 14, 3) := by decide +kernel
theorem dNe_reachFrom_88 : decode prog_4_method_6_code 88 = .ok (.aload_n 0, 1) := by decide +kernel
theorem dNe_reachFrom_89 : decode prog_4_method_6_code 89 = .ok (.getfield 35, 3) := by decide +kernel
theorem dNe_reachFrom_92 : decode prog_4_method_6_code 92 = .ok (.iload 6, 2) := by decide +kernel
theorem dNe_reachFrom_94 : decode prog_4_method_6_code 94 = .ok (.iload 7, 2) := by decide +kernel
theorem dNe_reachFrom_96 : decode prog_4_method_6_code 96 = .ok (.iastore, 1) := by decide +kernel
theorem dNe_reachFrom_97 : decode prog_4_method_6_code 97 = .ok (.iconst 1, 1) := by decide +kernel
theorem dNe_reachFrom_98 : decode prog_4_method_6_code 98 = .ok (.istore_n 2, 1) := by decide +kernel
theorem dNe_reachFrom_99 : decode prog_4_method_6_code 99 = .ok (.iinc 5 1, 3) := by decide +kernel
theorem dNe_reachFrom_102 : decode prog_4_method_6_code 102 = .ok (.goto (-57), 3) := by decide +kernel
theorem dNe_reachFrom_105 : decode prog_4_method_6_code 105 = .ok (.iinc 4 1, 3) := by decide +kernel
theorem dNe_reachFrom_108 : decode prog_4_method_6_code 108 = .ok (.goto (-73), 3) := by decide +kernel
theorem dNe_reachFrom_111 : decode prog_4_method_6_code 111 = .ok (.iinc 3 1, 3) := by decide +kernel
theorem dNe_reachFrom_114 : decode prog_4_method_6_code 114 = .ok (.goto (-94), 3) := by decide +kernel
theorem dNe_reachFrom_117 : decode prog_4_method_6_code 117 = .ok (.return_, 1) := by decide +kernel
set_option maxRecDepth 100000 in
set_option maxHeartbeats 4000000 in
theorem tNe_reachFrom_J117 {X : KC} {q : Int × KM} (hX : kOk X 3 prog_4_method_6_code 8 "KeyPath$Net") (hR : kRet X none q) (σ : KM) {Θ : (Int × KM) → Prop} (hT : ∀ z, Θ (z) → z = q) : kJ X 117 [lq 7, none, none, none, none, none, none, none] [] σ (fNe_reachFrom_J117 σ) Θ := by
  exact k_vret hX hR hT dNe_reachFrom_117
set_option maxRecDepth 100000 in
set_option maxHeartbeats 4000000 in
theorem tNe_reachFrom_J111 {X : KC} {q : Int × KM} (hX : kOk X 3 prog_4_method_6_code 8 "KeyPath$Net") (hR : kRet X none q) (x2 x3 : Int) (σ : KM) {Θ : ((Int × Int × KM) ⊕ (Int × KM)) → Prop} (hT : ∀ z, Θ (.inr (z)) → z = q) (hb0 : ∀ s : Int × Int × KM, Θ (.inl s) → kW X 20 [lq 7, none, li s.1, li s.2.1, none, none, none, none] [] s.2.2) : kJ X 111 [lq 7, none, li x2, li x3, none, none, none, none] [] σ (fNe_reachFrom_J111 x2 x3 σ) Θ := by
  refine k_iincL (Lf := fun y1 => [lq 7, none, li x2, li y1, none, none, none, none]) hX dNe_reachFrom_111 rfl (by decide) rfl (fun _ => rfl) (fun y1 => ?_)
  refine k_goto (tgt := 20) hX dNe_reachFrom_114 (by decide) ?_
  exact k_back (hb0 (x2, y1, σ))
set_option maxRecDepth 100000 in
set_option maxHeartbeats 4000000 in
theorem tNe_reachFrom_J105 {X : KC} {q : Int × KM} (hX : kOk X 3 prog_4_method_6_code 8 "KeyPath$Net") (hR : kRet X none q) (x2 x3 x4 : Int) (σ : KM) {Θ : ((Int × Int × KM) ⊕ ((Int × Int × KM) ⊕ (Int × KM))) → Prop} (hT : ∀ z, Θ (.inr (.inr (z))) → z = q) (hb0 : ∀ s : Int × Int × KM, Θ (.inl s) → kW X 35 [lq 7, none, li s.1, li x3, li s.2.1, none, none, none] [] s.2.2) (hb1 : ∀ s : Int × Int × KM, Θ (.inr (.inl s)) → kW X 20 [lq 7, none, li s.1, li s.2.1, none, none, none, none] [] s.2.2) : kJ X 105 [lq 7, none, li x2, li x3, li x4, none, none, none] [] σ (fNe_reachFrom_J105 x2 x3 x4 σ) Θ := by
  refine k_iincL (Lf := fun y1 => [lq 7, none, li x2, li x3, li y1, none, none, none]) hX dNe_reachFrom_105 rfl (by decide) rfl (fun _ => rfl) (fun y1 => ?_)
  refine k_goto (tgt := 35) hX dNe_reachFrom_108 (by decide) ?_
  exact k_back (hb0 (x2, y1, σ))
set_option maxRecDepth 100000 in
set_option maxHeartbeats 4000000 in
theorem tNe_reachFrom_J99 {X : KC} {q : Int × KM} (hX : kOk X 3 prog_4_method_6_code 8 "KeyPath$Net") (hR : kRet X none q) (x2 x3 x4 x5 : Int) (σ : KM) {Θ : ((Int × Int × KM) ⊕ ((Int × Int × KM) ⊕ ((Int × Int × KM) ⊕ (Int × KM)))) → Prop} (hT : ∀ z, Θ (.inr (.inr (.inr (z)))) → z = q) (hb0 : ∀ s : Int × Int × KM, Θ (.inl s) → kW X 45 [lq 7, none, li s.1, li x3, li x4, li s.2.1, none, none] [] s.2.2) (hb1 : ∀ s : Int × Int × KM, Θ (.inr (.inl s)) → kW X 35 [lq 7, none, li s.1, li x3, li s.2.1, none, none, none] [] s.2.2) (hb2 : ∀ s : Int × Int × KM, Θ (.inr (.inr (.inl s))) → kW X 20 [lq 7, none, li s.1, li s.2.1, none, none, none, none] [] s.2.2) : kJ X 99 [lq 7, none, li x2, li x3, li x4, li x5, none, none] [] σ (fNe_reachFrom_J99 x2 x3 x4 x5 σ) Θ := by
  refine k_iincL (Lf := fun y1 => [lq 7, none, li x2, li x3, li x4, li y1, none, none]) hX dNe_reachFrom_99 rfl (by decide) rfl (fun _ => rfl) (fun y1 => ?_)
  refine k_goto (tgt := 45) hX dNe_reachFrom_102 (by decide) ?_
  exact k_back (hb0 (x2, y1, σ))
set_option maxRecDepth 100000 in
set_option maxHeartbeats 4000000 in
theorem tNe_reachFrom_B45 {X : KC} {q : Int × KM} (hX : kOk X 3 prog_4_method_6_code 8 "KeyPath$Net") (hR : kRet X none q) (x3 x4 x2 x5 : Int) (σ : KM) {Θ : ((Int × Int × KM) ⊕ ((Int × Int × KM) ⊕ ((Int × Int × KM) ⊕ (Int × KM)))) → Prop} (hT : ∀ z, Θ (.inr (.inr (.inr (z)))) → z = q) (hb0 : ∀ s : Int × Int × KM, Θ (.inl s) → kW X 45 [lq 7, none, li s.1, li x3, li x4, li s.2.1, none, none] [] s.2.2) (hb1 : ∀ s : Int × Int × KM, Θ (.inr (.inl s)) → kW X 35 [lq 7, none, li s.1, li x3, li s.2.1, none, none, none] [] s.2.2) (hb2 : ∀ s : Int × Int × KM, Θ (.inr (.inr (.inl s))) → kW X 20 [lq 7, none, li s.1, li s.2.1, none, none, none, none] [] s.2.2) : kJ X 45 [lq 7, none, li x2, li x3, li x4, li x5, none, none] [] σ (fNe_reachFrom_B45 x3 x4 x2 x5 σ) Θ := by
  refine k_iload hX dNe_reachFrom_45 rfl ?_
  refine k_iconst hX dNe_reachFrom_47 ?_
  refine k_icmp_ge (tgt := 105) hX dNe_reachFrom_48 (by decide) ?_ ?_
  · refine k_exit ?_
    refine k_less [true, true, true, true, true, false, true, true] (L' := [lq 7, none, li x2, li x3, li x4, none, none, none]) rfl ?_
    exact tNe_reachFrom_J105 hX hR x2 x3 x4 σ hT hb1 hb2
  · refine k_iload hX dNe_reachFrom_51 rfl ?_
    refine k_iload hX dNe_reachFrom_53 rfl ?_
    refine cl_18 hX (by decide) (Nat.le_of_ble_eq_true rfl) dNe_reachFrom_55 (fun r2 τ1 => ?_)
    refine k_istore (L' := [lq 7, none, li x2, li x3, li x4, li x5, li r2, none]) hX dNe_reachFrom_58 rfl (by decide) rfl ?_
    refine k_aload_n hX dNe_reachFrom_60 rfl ?_
    refine gf_35 hX dNe_reachFrom_61 ?_
    refine k_iload hX dNe_reachFrom_64 rfl ?_
    refine k_iald hX (by decide) rfl dNe_reachFrom_66 rfl (fun y3 => ?_)
    refine k_aload_n hX dNe_reachFrom_67 rfl ?_
    refine k_iload hX dNe_reachFrom_68 rfl ?_
    refine cl_19 hX (by decide) (Nat.le_of_ble_eq_true rfl) dNe_reachFrom_70 (fun r5 τ4 => ?_)
    refine k_iadd hX dNe_reachFrom_73 ?_
    refine k_istoreL (Lf := fun y6 => [lq 7, none, li x2, li x3, li x4, li x5, li r2, li y6]) hX dNe_reachFrom_74 rfl (by decide) (fun _ => rfl) (fun y6 => ?_)
    refine k_iload hX dNe_reachFrom_76 rfl ?_
    refine k_aload_n hX dNe_reachFrom_78 rfl ?_
    refine gf_35 hX dNe_reachFrom_79 ?_
    refine k_iload hX dNe_reachFrom_82 rfl ?_
    refine k_iald hX (by decide) rfl dNe_reachFrom_84 rfl (fun y7 => ?_)
    refine k_icmp_ge (tgt := 99) hX dNe_reachFrom_85 (by decide) ?_ ?_
    · refine k_less [true, true, true, true, true, true, false, false] (L' := [lq 7, none, li x2, li x3, li x4, li x5, none, none]) rfl ?_
      exact tNe_reachFrom_J99 hX hR x2 x3 x4 x5 τ4 hT hb0 hb1 hb2
    · refine k_aload_n hX dNe_reachFrom_88 rfl ?_
      refine gf_35 hX dNe_reachFrom_89 ?_
      refine k_iload hX dNe_reachFrom_92 rfl ?_
      refine k_iload hX dNe_reachFrom_94 rfl ?_
      refine k_iast hX (by decide) rfl dNe_reachFrom_96 rfl (fun τ8 => ?_)
      refine k_iconst hX dNe_reachFrom_97 ?_
      refine k_istore_n (L' := [lq 7, none, li 1, li x3, li x4, li x5, li r2, li y6]) hX dNe_reachFrom_98 rfl (by decide) rfl ?_
      refine k_less [true, true, true, true, true, true, false, false] (L' := [lq 7, none, li 1, li x3, li x4, li x5, none, none]) rfl ?_
      exact tNe_reachFrom_J99 hX hR 1 x3 x4 x5 τ8 hT hb0 hb1 hb2
set_option maxRecDepth 100000 in
set_option maxHeartbeats 4000000 in
theorem tNe_reachFrom_L45 {X : KC} {q : Int × KM} (hX : kOk X 3 prog_4_method_6_code 8 "KeyPath$Net") (hR : kRet X none q) (x3 x4 x2 x5 : Int) (σ : KM) {Θ : ((Int × Int × KM) ⊕ ((Int × Int × KM) ⊕ (Int × KM))) → Prop} (hT : ∀ z, Θ (.inr (.inr (z))) → z = q) (hb0 : ∀ s : Int × Int × KM, Θ (.inl s) → kW X 35 [lq 7, none, li s.1, li x3, li s.2.1, none, none, none] [] s.2.2) (hb1 : ∀ s : Int × Int × KM, Θ (.inr (.inl s)) → kW X 20 [lq 7, none, li s.1, li s.2.1, none, none, none, none] [] s.2.2) : kJ X 45 [lq 7, none, li x2, li x3, li x4, li x5, none, none] [] σ (fNe_reachFrom_L45 x3 x4 x2 x5 σ) Θ :=
  k_iter (f := fun s => fNe_reachFrom_B45 x3 x4 s.1 s.2.1 s.2.2) (Lf := fun s => [lq 7, none, li s.1, li x3, li x4, li s.2.1, none, none]) (mf := fun s => s.2.2) (Θ := Θ) (fun s => tNe_reachFrom_B45 hX hR x3 x4 s.1 s.2.1 s.2.2 hT (fun _ h9 => h9) hb0 hb1) kF (x2, x5, σ)
set_option maxRecDepth 100000 in
set_option maxHeartbeats 4000000 in
theorem tNe_reachFrom_B35 {X : KC} {q : Int × KM} (hX : kOk X 3 prog_4_method_6_code 8 "KeyPath$Net") (hR : kRet X none q) (x3 x2 x4 : Int) (σ : KM) {Θ : ((Int × Int × KM) ⊕ ((Int × Int × KM) ⊕ (Int × KM))) → Prop} (hT : ∀ z, Θ (.inr (.inr (z))) → z = q) (hb0 : ∀ s : Int × Int × KM, Θ (.inl s) → kW X 35 [lq 7, none, li s.1, li x3, li s.2.1, none, none, none] [] s.2.2) (hb1 : ∀ s : Int × Int × KM, Θ (.inr (.inl s)) → kW X 20 [lq 7, none, li s.1, li s.2.1, none, none, none, none] [] s.2.2) : kJ X 35 [lq 7, none, li x2, li x3, li x4, none, none, none] [] σ (fNe_reachFrom_B35 x3 x2 x4 σ) Θ := by
  refine k_iload hX dNe_reachFrom_35 rfl ?_
  refine k_bipush hX dNe_reachFrom_37 (by decide) ?_
  refine k_icmp_ge (tgt := 111) hX dNe_reachFrom_39 (by decide) ?_ ?_
  · refine k_exit ?_
    refine k_less [true, true, true, true, false, true, true, true] (L' := [lq 7, none, li x2, li x3, none, none, none, none]) rfl ?_
    exact tNe_reachFrom_J111 hX hR x2 x3 σ hT hb1
  · refine k_iconst hX dNe_reachFrom_42 ?_
    refine k_istore (L' := [lq 7, none, li x2, li x3, li x4, li 0, none, none]) hX dNe_reachFrom_43 rfl (by decide) rfl ?_
    exact tNe_reachFrom_L45 hX hR x3 x4 x2 0 σ hT hb0 hb1
set_option maxRecDepth 100000 in
set_option maxHeartbeats 4000000 in
theorem tNe_reachFrom_L35 {X : KC} {q : Int × KM} (hX : kOk X 3 prog_4_method_6_code 8 "KeyPath$Net") (hR : kRet X none q) (x3 x2 x4 : Int) (σ : KM) {Θ : ((Int × Int × KM) ⊕ (Int × KM)) → Prop} (hT : ∀ z, Θ (.inr (z)) → z = q) (hb0 : ∀ s : Int × Int × KM, Θ (.inl s) → kW X 20 [lq 7, none, li s.1, li s.2.1, none, none, none, none] [] s.2.2) : kJ X 35 [lq 7, none, li x2, li x3, li x4, none, none, none] [] σ (fNe_reachFrom_L35 x3 x2 x4 σ) Θ :=
  k_iter (f := fun s => fNe_reachFrom_B35 x3 s.1 s.2.1 s.2.2) (Lf := fun s => [lq 7, none, li s.1, li x3, li s.2.1, none, none, none]) (mf := fun s => s.2.2) (Θ := Θ) (fun s => tNe_reachFrom_B35 hX hR x3 s.1 s.2.1 s.2.2 hT (fun _ h9 => h9) hb0) kF (x2, x4, σ)
set_option maxRecDepth 100000 in
set_option maxHeartbeats 4000000 in
theorem tNe_reachFrom_B20 {X : KC} {q : Int × KM} (hX : kOk X 3 prog_4_method_6_code 8 "KeyPath$Net") (hR : kRet X none q) (x2 x3 : Int) (σ : KM) {Θ : ((Int × Int × KM) ⊕ (Int × KM)) → Prop} (hT : ∀ z, Θ (.inr (z)) → z = q) (hb0 : ∀ s : Int × Int × KM, Θ (.inl s) → kW X 20 [lq 7, none, li s.1, li s.2.1, none, none, none, none] [] s.2.2) : kJ X 20 [lq 7, none, li x2, li x3, none, none, none, none] [] σ (fNe_reachFrom_B20 x2 x3 σ) Θ := by
  refine k_iload_n hX dNe_reachFrom_20 rfl ?_
  refine k_bipush hX dNe_reachFrom_21 (by decide) ?_
  refine k_icmp_ge (tgt := 117) hX dNe_reachFrom_23 (by decide) ?_ ?_
  · refine k_exit ?_
    refine k_less [true, true, false, false, true, true, true, true] (L' := [lq 7, none, none, none, none, none, none, none]) rfl ?_
    exact tNe_reachFrom_J117 hX hR σ hT
  · refine k_iload_n hX dNe_reachFrom_26 rfl ?_
    refine k_if_eq (tgt := 117) hX dNe_reachFrom_27 (by decide) ?_ ?_
    · refine k_exit ?_
      refine k_less [true, true, false, false, true, true, true, true] (L' := [lq 7, none, none, none, none, none, none, none]) rfl ?_
      exact tNe_reachFrom_J117 hX hR σ hT
    · refine k_iconst hX dNe_reachFrom_30 ?_
      refine k_istore_n (L' := [lq 7, none, li 0, li x3, none, none, none, none]) hX dNe_reachFrom_31 rfl (by decide) rfl ?_
      refine k_iconst hX dNe_reachFrom_32 ?_
      refine k_istore (L' := [lq 7, none, li 0, li x3, li 0, none, none, none]) hX dNe_reachFrom_33 rfl (by decide) rfl ?_
      exact tNe_reachFrom_L35 hX hR x3 0 0 σ hT hb0
set_option maxRecDepth 100000 in
set_option maxHeartbeats 4000000 in
theorem tNe_reachFrom_L20 {X : KC} {q : Int × KM} (hX : kOk X 3 prog_4_method_6_code 8 "KeyPath$Net") (hR : kRet X none q) (x2 x3 : Int) (σ : KM) {Θ : (Int × KM) → Prop} (hT : ∀ z, Θ (z) → z = q) : kJ X 20 [lq 7, none, li x2, li x3, none, none, none, none] [] σ (fNe_reachFrom_L20 x2 x3 σ) Θ :=
  k_iter (f := fun s => fNe_reachFrom_B20 s.1 s.2.1 s.2.2) (Lf := fun s => [lq 7, none, li s.1, li s.2.1, none, none, none, none]) (mf := fun s => s.2.2) (Θ := Θ) (fun s => tNe_reachFrom_B20 hX hR s.1 s.2.1 s.2.2 hT (fun _ h9 => h9)) kF (x2, x3, σ)
set_option maxRecDepth 100000 in
set_option maxHeartbeats 4000000 in
theorem sNe_reachFrom (x1 : Int) (σ : KM) : kSem 3 (⟨"KeyPath$Net", "reachFrom", "(I)V"⟩ : MethodName) prog_4_method_6_code 8 none [kr 7, ki x1] σ (fNe_reachFrom x1 σ) := by
  refine kSem.of (L0 := [lq 7, li x1, none, none, none, none, none, none]) (by decide) (Nat.le_of_ble_eq_true rfl) rfl (fun X q hX hR => ?_)
  have hT : ∀ z : Int × KM, (fun z => z = q) z → z = q := fun _ h => h
  refine k_aload_n hX dNe_reachFrom_0 rfl ?_
  refine gf_35 hX dNe_reachFrom_1 ?_
  refine k_ldc (v := 1000000000) (w := 0) hX dNe_reachFrom_4 tw_666 ?_
  refine cl_15 hX (by decide) (Nat.le_of_ble_eq_true rfl) dNe_reachFrom_6 (fun _ τ1 => ?_)
  refine k_aload_n hX dNe_reachFrom_9 rfl ?_
  refine gf_35 hX dNe_reachFrom_10 ?_
  refine k_iload_n hX dNe_reachFrom_13 rfl ?_
  refine k_iconst hX dNe_reachFrom_14 ?_
  refine k_iast hX (by decide) rfl dNe_reachFrom_15 rfl (fun τ2 => ?_)
  refine k_iconst hX dNe_reachFrom_16 ?_
  refine k_istore_n (L' := [lq 7, li x1, li 1, none, none, none, none, none]) hX dNe_reachFrom_17 rfl (by decide) rfl ?_
  refine k_iconst hX dNe_reachFrom_18 ?_
  refine k_istore_n (L' := [lq 7, li x1, li 1, li 0, none, none, none, none]) hX dNe_reachFrom_19 rfl (by decide) rfl ?_
  refine k_less [true, false, true, true, true, true, true, true] (L' := [lq 7, none, li 1, li 0, none, none, none, none]) rfl ?_
  exact tNe_reachFrom_L20 hX hR 1 0 τ2 hT
theorem cl_20 {X : KC} {d n : Nat} {cc : ByteArray} {pc : Nat} {L : List (Option KV)} {st : List KV} {σ : KM} {Z : Type} {Θ : Z → Prop} {G : Int → KM → Option Z} {x1 : Int} (hX : kOk X d cc n "KeyPath$Net") (hdd : 3 + 1 ≤ d) (hst : k_cat st ≤ 8) (hd : decode cc pc = .ok (.invokevirtual 46, 3)) (h : ∀ r τ, kJ X (pc + 3) L (st) τ (G r τ) Θ) : kJ X pc L (ki x1 :: kr 7 :: st) σ (kCall (fNe_reachFrom x1 σ) G) Θ :=
  k_callV (np := 1) (av := [ki x1]) (ret := none) hX (by decide) rfl rfl rfl (sNe_reachFrom _ σ) ⟨⟨hdd, by decide⟩, tw_665, tw_7, by decide +kernel⟩ rfl tw_662 tw_664 ts_22 hst hd h
theorem dNe_copyRow_0 : decode prog_4_method_7_code 0 = .ok (.iconst 0, 1) := by decide +kernel
theorem dNe_copyRow_1 : decode prog_4_method_7_code 1 = .ok (.istore_n 3, 1) := by decide +kernel
theorem dNe_copyRow_2 : decode prog_4_method_7_code 2 = .ok (.iload_n 3, 1) := by decide +kernel
theorem dNe_copyRow_3 : decode prog_4_method_7_code 3 = .ok (.bipush 24, 2) := by decide +kernel
theorem dNe_copyRow_5 : decode prog_4_method_7_code 5 = .ok (.if_icmp .ge 54, 3) := by decide +kernel
theorem dNe_copyRow_8 : decode prog_4_method_7_code 8 = .ok (.iload_n 1, 1) := by decide +kernel
theorem dNe_copyRow_9 : decode prog_4_method_7_code 9 = .ok (.bipush 24, 2) := by decide +kernel
theorem dNe_copyRow_11 : decode prog_4_method_7_code 11 = .ok (.imul, 1) := by decide +kernel
theorem dNe_copyRow_12 : decode prog_4_method_7_code 12 = .ok (.iload_n 3, 1) := by decide +kernel
theorem dNe_copyRow_13 : decode prog_4_method_7_code 13 = .ok (.iload_n 2, 1) := by decide +kernel
theorem dNe_copyRow_14 : decode prog_4_method_7_code 14 = .ok (.iload_n 3, 1) := by decide +kernel
theorem dNe_copyRow_15 : decode prog_4_method_7_code 15 = .ok (.invokestatic 38, 3) := by decide +kernel
theorem dNe_copyRow_18 : decode prog_4_method_7_code 18 = .ok (.invokestatic 42, 3) := by decide +kernel
theorem dNe_copyRow_21 : decode prog_4_method_7_code 21 = .ok (.iadd, 1) := by decide +kernel
theorem dNe_copyRow_22 : decode prog_4_method_7_code 22 = .ok (.istore 4, 2) := by decide +kernel
theorem dNe_copyRow_24 : decode prog_4_method_7_code 24 = .ok (.aload_n 0, 1) := by decide +kernel
theorem dNe_copyRow_25 : decode prog_4_method_7_code 25 = .ok (.getfield 32, 3) := by decide +kernel
theorem dNe_copyRow_28 : decode prog_4_method_7_code 28 = .ok (.iload 4, 2) := by decide +kernel
theorem dNe_copyRow_30 : decode prog_4_method_7_code 30 = .ok (.aload_n 0, 1) := by decide +kernel
theorem dNe_copyRow_31 : decode prog_4_method_7_code 31 = .ok (.getfield 35, 3) := by decide +kernel
theorem dNe_copyRow_34 : decode prog_4_method_7_code 34 = .ok (.iload_n 3, 1) := by decide +kernel
theorem dNe_copyRow_35 : decode prog_4_method_7_code 35 = .ok (.iaload, 1) := by decide +kernel
theorem dNe_copyRow_36 : decode prog_4_method_7_code 36 = .ok (.iastore, 1) := by decide +kernel
theorem dNe_copyRow_37 : decode prog_4_method_7_code 37 = .ok (.aload_n 0, 1) := by decide +kernel
theorem dNe_copyRow_38 : decode prog_4_method_7_code 38 = .ok (.getfield 28, 3) := by decide +kernel
theorem dNe_copyRow_41 : decode prog_4_method_7_code 41 = .ok (.iload 4, 2) := by decide +kernel
theorem dNe_copyRow_43 : decode prog_4_method_7_code 43 = .ok (.aload_n 0, 1) := by decide +kernel
theorem dNe_copyRow_44 : decode prog_4_method_7_code 44 = .ok (.getfield 35, 3) := by decide +kernel
theorem dNe_copyRow_47 : decode prog_4_method_7_code 47 = .ok (.iload_n 3, 1) := by decide +kernel
theorem dNe_copyRow_48 : decode prog_4_method_7_code 48 = .ok (.iaload, 1) := by decide +kernel
theorem dNe_copyRow_49 : decode prog_4_method_7_code 49 = .ok (.bipush 64, 2) := by decide +kernel
theorem dNe_copyRow_51 : decode prog_4_method_7_code 51 = .ok (.idiv, 1) := by decide +kernel
theorem dNe_copyRow_52 : decode prog_4_method_7_code 52 = .ok (.iastore, 1) := by decide +kernel
theorem dNe_copyRow_53 : decode prog_4_method_7_code 53 = .ok (.iinc 3 1, 3) := by decide +kernel
theorem dNe_copyRow_56 : decode prog_4_method_7_code 56 = .ok (.goto (-54), 3) := by decide +kernel
theorem dNe_copyRow_59 : decode prog_4_method_7_code 59 = .ok (.return_, 1) := by decide +kernel
set_option maxRecDepth 100000 in
set_option maxHeartbeats 4000000 in
theorem tNe_copyRow_J59 {X : KC} {q : Int × KM} (hX : kOk X 2 prog_4_method_7_code 5 "KeyPath$Net") (hR : kRet X none q) (σ : KM) {Θ : (Int × KM) → Prop} (hT : ∀ z, Θ (z) → z = q) : kJ X 59 [lq 7, none, none, none, none] [] σ (fNe_copyRow_J59 σ) Θ := by
  exact k_vret hX hR hT dNe_copyRow_59
set_option maxRecDepth 100000 in
set_option maxHeartbeats 4000000 in
theorem tNe_copyRow_B2 {X : KC} {q : Int × KM} (hX : kOk X 2 prog_4_method_7_code 5 "KeyPath$Net") (hR : kRet X none q) (x1 x2 x3 : Int) (σ : KM) {Θ : ((Int × KM) ⊕ (Int × KM)) → Prop} (hT : ∀ z, Θ (.inr (z)) → z = q) (hb0 : ∀ s : Int × KM, Θ (.inl s) → kW X 2 [lq 7, li x1, li x2, li s.1, none] [] s.2) : kJ X 2 [lq 7, li x1, li x2, li x3, none] [] σ (fNe_copyRow_B2 x1 x2 x3 σ) Θ := by
  refine k_iload_n hX dNe_copyRow_2 rfl ?_
  refine k_bipush hX dNe_copyRow_3 (by decide) ?_
  refine k_icmp_ge (tgt := 59) hX dNe_copyRow_5 (by decide) ?_ ?_
  · refine k_exit ?_
    refine k_less [true, false, false, false, true] (L' := [lq 7, none, none, none, none]) rfl ?_
    exact tNe_copyRow_J59 hX hR σ hT
  · refine k_iload_n hX dNe_copyRow_8 rfl ?_
    refine k_bipush hX dNe_copyRow_9 (by decide) ?_
    refine k_imul hX dNe_copyRow_11 ?_
    refine k_iload_n hX dNe_copyRow_12 rfl ?_
    refine k_iload_n hX dNe_copyRow_13 rfl ?_
    refine k_iload_n hX dNe_copyRow_14 rfl ?_
    refine cl_16 hX (by decide) (Nat.le_of_ble_eq_true rfl) dNe_copyRow_15 (fun r2 τ1 => ?_)
    refine cl_17 hX (by decide) (Nat.le_of_ble_eq_true rfl) dNe_copyRow_18 (fun r4 τ3 => ?_)
    refine k_iadd hX dNe_copyRow_21 ?_
    refine k_istoreL (Lf := fun y5 => [lq 7, li x1, li x2, li x3, li y5]) hX dNe_copyRow_22 rfl (by decide) (fun _ => rfl) (fun y5 => ?_)
    refine k_aload_n hX dNe_copyRow_24 rfl ?_
    refine gf_39 hX dNe_copyRow_25 ?_
    refine k_iload hX dNe_copyRow_28 rfl ?_
    refine k_aload_n hX dNe_copyRow_30 rfl ?_
    refine gf_35 hX dNe_copyRow_31 ?_
    refine k_iload_n hX dNe_copyRow_34 rfl ?_
    refine k_iald hX (by decide) rfl dNe_copyRow_35 rfl (fun y6 => ?_)
    refine k_iast hX (by decide) rfl dNe_copyRow_36 rfl (fun τ7 => ?_)
    refine k_aload_n hX dNe_copyRow_37 rfl ?_
    refine gf_40 hX dNe_copyRow_38 ?_
    refine k_iload hX dNe_copyRow_41 rfl ?_
    refine k_aload_n hX dNe_copyRow_43 rfl ?_
    refine gf_35 hX dNe_copyRow_44 ?_
    refine k_iload_n hX dNe_copyRow_47 rfl ?_
    refine k_iald hX (by decide) rfl dNe_copyRow_48 rfl (fun y8 => ?_)
    refine k_bipush hX dNe_copyRow_49 (by decide) ?_
    refine k_idiv hX dNe_copyRow_51 (fun y9 => ?_)
    refine k_iast hX (by decide) rfl dNe_copyRow_52 rfl (fun τ10 => ?_)
    refine k_iincL (Lf := fun y11 => [lq 7, li x1, li x2, li y11, li y5]) hX dNe_copyRow_53 rfl (by decide) rfl (fun _ => rfl) (fun y11 => ?_)
    refine k_goto (tgt := 2) hX dNe_copyRow_56 (by decide) ?_
    refine k_less [true, true, true, true, false] (L' := [lq 7, li x1, li x2, li y11, none]) rfl ?_
    exact k_back (hb0 (y11, τ10))
set_option maxRecDepth 100000 in
set_option maxHeartbeats 4000000 in
theorem tNe_copyRow_L2 {X : KC} {q : Int × KM} (hX : kOk X 2 prog_4_method_7_code 5 "KeyPath$Net") (hR : kRet X none q) (x1 x2 x3 : Int) (σ : KM) {Θ : (Int × KM) → Prop} (hT : ∀ z, Θ (z) → z = q) : kJ X 2 [lq 7, li x1, li x2, li x3, none] [] σ (fNe_copyRow_L2 x1 x2 x3 σ) Θ :=
  k_iter (f := fun s => fNe_copyRow_B2 x1 x2 s.1 s.2) (Lf := fun s => [lq 7, li x1, li x2, li s.1, none]) (mf := fun s => s.2) (Θ := Θ) (fun s => tNe_copyRow_B2 hX hR x1 x2 s.1 s.2 hT (fun _ h9 => h9)) kF (x3, σ)
set_option maxRecDepth 100000 in
set_option maxHeartbeats 4000000 in
theorem sNe_copyRow (x1 x2 : Int) (σ : KM) : kSem 2 (⟨"KeyPath$Net", "copyRow", "(II)V"⟩ : MethodName) prog_4_method_7_code 5 none [kr 7, ki x1, ki x2] σ (fNe_copyRow x1 x2 σ) := by
  refine kSem.of (L0 := [lq 7, li x1, li x2, none, none]) (by decide) (Nat.le_of_ble_eq_true rfl) rfl (fun X q hX hR => ?_)
  have hT : ∀ z : Int × KM, (fun z => z = q) z → z = q := fun _ h => h
  refine k_iconst hX dNe_copyRow_0 ?_
  refine k_istore_n (L' := [lq 7, li x1, li x2, li 0, none]) hX dNe_copyRow_1 rfl (by decide) rfl ?_
  exact tNe_copyRow_L2 hX hR x1 x2 0 σ hT
theorem cl_21 {X : KC} {d n : Nat} {cc : ByteArray} {pc : Nat} {L : List (Option KV)} {st : List KV} {σ : KM} {Z : Type} {Θ : Z → Prop} {G : Int → KM → Option Z} {x1 x2 : Int} (hX : kOk X d cc n "KeyPath$Net") (hdd : 2 + 1 ≤ d) (hst : k_cat st ≤ 8) (hd : decode cc pc = .ok (.invokevirtual 50, 3)) (h : ∀ r τ, kJ X (pc + 3) L (st) τ (G r τ) Θ) : kJ X pc L (ki x2 :: ki x1 :: kr 7 :: st) σ (kCall (fNe_copyRow x1 x2 σ) G) Θ :=
  k_callV (np := 2) (av := [ki x1, ki x2]) (ret := none) hX (by decide) rfl rfl rfl (sNe_copyRow _ _ σ) ⟨⟨hdd, by decide⟩, tw_682, tw_7, by decide +kernel⟩ rfl tw_679 tw_681 ts_24 hst hd h
theorem dNe_refresh_0 : decode prog_4_method_5_code 0 = .ok (.aload_n 0, 1) := by decide +kernel
theorem dNe_refresh_1 : decode prog_4_method_5_code 1 = .ok (.getfield 24, 3) := by decide +kernel
theorem dNe_refresh_4 : decode prog_4_method_5_code 4 = .ok (.ifCond .ne 4, 3) := by decide +kernel
theorem dNe_refresh_7 : decode prog_4_method_5_code 7 = .ok (.return_, 1) := by decide +kernel
theorem dNe_refresh_8 : decode prog_4_method_5_code 8 = .ok (.iconst 0, 1) := by decide +kernel
theorem dNe_refresh_9 : decode prog_4_method_5_code 9 = .ok (.istore_n 1, 1) := by decide +kernel
theorem dNe_refresh_10 : decode prog_4_method_5_code 10 = .ok (.iload_n 1, 1) := by decide +kernel
theorem dNe_refresh_11 : decode prog_4_method_5_code 11 = .ok (.iconst 2, 1) := by decide +kernel
theorem dNe_refresh_12 : decode prog_4_method_5_code 12 = .ok (.if_icmp .ge 42, 3) := by decide +kernel
theorem dNe_refresh_15 : decode prog_4_method_5_code 15 = .ok (.aload_n 0, 1) := by decide +kernel
theorem dNe_refresh_16 : decode prog_4_method_5_code 16 = .ok (.iload_n 1, 1) := by decide +kernel
theorem dNe_refresh_17 : decode prog_4_method_5_code 17 = .ok (.bipush 12, 2) := by decide +kernel
theorem dNe_refresh_19 : decode prog_4_method_5_code 19 = .ok (.imul, 1) := by decide +kernel
theorem dNe_refresh_20 : decode prog_4_method_5_code 20 = .ok (.invokevirtual 46, 3) := by decide +kernel
theorem dNe_refresh_23 : decode prog_4_method_5_code 23 = .ok (.iconst 0, 1) := by decide +kernel
theorem dNe_refresh_24 : decode prog_4_method_5_code 24 = .ok (.istore_n 2, 1) := by decide +kernel
theorem dNe_refresh_25 : decode prog_4_method_5_code 25 = .ok (.iload_n 2, 1) := by decide +kernel
theorem dNe_refresh_26 : decode prog_4_method_5_code 26 = .ok (.bipush 12, 2) := by decide +kernel
theorem dNe_refresh_28 : decode prog_4_method_5_code 28 = .ok (.if_icmp .ge 20, 3) := by decide +kernel
theorem dNe_refresh_31 : decode prog_4_method_5_code 31 = .ok (.aload_n 0, 1) := by decide +kernel
theorem dNe_refresh_32 : decode prog_4_method_5_code 32 = .ok (.iload_n 1, 1) := by decide +kernel
theorem dNe_refresh_33 : decode prog_4_method_5_code 33 = .ok (.bipush 12, 2) := by decide +kernel
theorem dNe_refresh_35 : decode prog_4_method_5_code 35 = .ok (.imul, 1) := by decide +kernel
theorem dNe_refresh_36 : decode prog_4_method_5_code 36 = .ok (.iload_n 2, 1) := by decide +kernel
theorem dNe_refresh_37 : decode prog_4_method_5_code 37 = .ok (.iadd, 1) := by decide +kernel
theorem dNe_refresh_38 : decode prog_4_method_5_code 38 = .ok (.iload_n 2, 1) := by decide +kernel
theorem dNe_refresh_39 : decode prog_4_method_5_code 39 = .ok (.invokevirtual 50, 3) := by decide +kernel
theorem dNe_refresh_42 : decode prog_4_method_5_code 42 = .ok (.iinc 2 1, 3) := by decide +kernel
theorem dNe_refresh_45 : decode prog_4_method_5_code 45 = .ok (.goto (-20), 3) := by decide +kernel
theorem dNe_refresh_48 : decode prog_4_method_5_code 48 = .ok (.iinc 1 1, 3) := by decide +kernel
theorem dNe_refresh_51 : decode prog_4_method_5_code 51 = .ok (.goto (-41), 3) := by decide +kernel
theorem dNe_refresh_54 : decode prog_4_method_5_code 54 = .ok (.aload_n 0, 1) := by decide +kernel
theorem dNe_refresh_55 : decode prog_4_method_5_code 55 = .ok (.iconst 0, 1) := by decide +kernel
theorem dNe_refresh_56 : decode prog_4_method_5_code 56 = .ok (.putfield 24, 3) := by decide +kernel
theorem dNe_refresh_59 : decode prog_4_method_5_code 59 = .ok (.return_, 1) := by decide +kernel
set_option maxRecDepth 100000 in
set_option maxHeartbeats 4000000 in
theorem tNe_refresh_J54 {X : KC} {q : Int × KM} (hX : kOk X 4 prog_4_method_5_code 3 "KeyPath$Net") (hR : kRet X none q) (σ : KM) {Θ : (Int × KM) → Prop} (hT : ∀ z, Θ (z) → z = q) : kJ X 54 [lq 7, none, none] [] σ (fNe_refresh_J54 σ) Θ := by
  refine k_aload_n hX dNe_refresh_54 rfl ?_
  refine k_iconst hX dNe_refresh_55 ?_
  refine gz_34 hX dNe_refresh_56 (fun τ1 => ?_)
  exact k_vret hX hR hT dNe_refresh_59
set_option maxRecDepth 100000 in
set_option maxHeartbeats 4000000 in
theorem tNe_refresh_J48 {X : KC} {q : Int × KM} (hX : kOk X 4 prog_4_method_5_code 3 "KeyPath$Net") (hR : kRet X none q) (x1 : Int) (σ : KM) {Θ : ((Int × KM) ⊕ (Int × KM)) → Prop} (hT : ∀ z, Θ (.inr (z)) → z = q) (hb0 : ∀ s : Int × KM, Θ (.inl s) → kW X 10 [lq 7, li s.1, none] [] s.2) : kJ X 48 [lq 7, li x1, none] [] σ (fNe_refresh_J48 x1 σ) Θ := by
  refine k_iincL (Lf := fun y1 => [lq 7, li y1, none]) hX dNe_refresh_48 rfl (by decide) rfl (fun _ => rfl) (fun y1 => ?_)
  refine k_goto (tgt := 10) hX dNe_refresh_51 (by decide) ?_
  exact k_back (hb0 (y1, σ))
set_option maxRecDepth 100000 in
set_option maxHeartbeats 4000000 in
theorem tNe_refresh_B25 {X : KC} {q : Int × KM} (hX : kOk X 4 prog_4_method_5_code 3 "KeyPath$Net") (hR : kRet X none q) (x1 x2 : Int) (σ : KM) {Θ : ((Int × KM) ⊕ ((Int × KM) ⊕ (Int × KM))) → Prop} (hT : ∀ z, Θ (.inr (.inr (z))) → z = q) (hb0 : ∀ s : Int × KM, Θ (.inl s) → kW X 25 [lq 7, li x1, li s.1] [] s.2) (hb1 : ∀ s : Int × KM, Θ (.inr (.inl s)) → kW X 10 [lq 7, li s.1, none] [] s.2) : kJ X 25 [lq 7, li x1, li x2] [] σ (fNe_refresh_B25 x1 x2 σ) Θ := by
  refine k_iload_n hX dNe_refresh_25 rfl ?_
  refine k_bipush hX dNe_refresh_26 (by decide) ?_
  refine k_icmp_ge (tgt := 48) hX dNe_refresh_28 (by decide) ?_ ?_
  · refine k_exit ?_
    refine k_less [true, true, false] (L' := [lq 7, li x1, none]) rfl ?_
    exact tNe_refresh_J48 hX hR x1 σ hT hb1
  · refine k_aload_n hX dNe_refresh_31 rfl ?_
    refine k_iload_n hX dNe_refresh_32 rfl ?_
    refine k_bipush hX dNe_refresh_33 (by decide) ?_
    refine k_imul hX dNe_refresh_35 ?_
    refine k_iload_n hX dNe_refresh_36 rfl ?_
    refine k_iadd hX dNe_refresh_37 ?_
    refine k_iload_n hX dNe_refresh_38 rfl ?_
    refine cl_21 hX (by decide) (Nat.le_of_ble_eq_true rfl) dNe_refresh_39 (fun _ τ1 => ?_)
    refine k_iincL (Lf := fun y2 => [lq 7, li x1, li y2]) hX dNe_refresh_42 rfl (by decide) rfl (fun _ => rfl) (fun y2 => ?_)
    refine k_goto (tgt := 25) hX dNe_refresh_45 (by decide) ?_
    exact k_back (hb0 (y2, τ1))
set_option maxRecDepth 100000 in
set_option maxHeartbeats 4000000 in
theorem tNe_refresh_L25 {X : KC} {q : Int × KM} (hX : kOk X 4 prog_4_method_5_code 3 "KeyPath$Net") (hR : kRet X none q) (x1 x2 : Int) (σ : KM) {Θ : ((Int × KM) ⊕ (Int × KM)) → Prop} (hT : ∀ z, Θ (.inr (z)) → z = q) (hb0 : ∀ s : Int × KM, Θ (.inl s) → kW X 10 [lq 7, li s.1, none] [] s.2) : kJ X 25 [lq 7, li x1, li x2] [] σ (fNe_refresh_L25 x1 x2 σ) Θ :=
  k_iter (f := fun s => fNe_refresh_B25 x1 s.1 s.2) (Lf := fun s => [lq 7, li x1, li s.1]) (mf := fun s => s.2) (Θ := Θ) (fun s => tNe_refresh_B25 hX hR x1 s.1 s.2 hT (fun _ h9 => h9) hb0) kF (x2, σ)
set_option maxRecDepth 100000 in
set_option maxHeartbeats 4000000 in
theorem tNe_refresh_B10 {X : KC} {q : Int × KM} (hX : kOk X 4 prog_4_method_5_code 3 "KeyPath$Net") (hR : kRet X none q) (x1 : Int) (σ : KM) {Θ : ((Int × KM) ⊕ (Int × KM)) → Prop} (hT : ∀ z, Θ (.inr (z)) → z = q) (hb0 : ∀ s : Int × KM, Θ (.inl s) → kW X 10 [lq 7, li s.1, none] [] s.2) : kJ X 10 [lq 7, li x1, none] [] σ (fNe_refresh_B10 x1 σ) Θ := by
  refine k_iload_n hX dNe_refresh_10 rfl ?_
  refine k_iconst hX dNe_refresh_11 ?_
  refine k_icmp_ge (tgt := 54) hX dNe_refresh_12 (by decide) ?_ ?_
  · refine k_exit ?_
    refine k_less [true, false, true] (L' := [lq 7, none, none]) rfl ?_
    exact tNe_refresh_J54 hX hR σ hT
  · refine k_aload_n hX dNe_refresh_15 rfl ?_
    refine k_iload_n hX dNe_refresh_16 rfl ?_
    refine k_bipush hX dNe_refresh_17 (by decide) ?_
    refine k_imul hX dNe_refresh_19 ?_
    refine cl_20 hX (by decide) (Nat.le_of_ble_eq_true rfl) dNe_refresh_20 (fun _ τ1 => ?_)
    refine k_iconst hX dNe_refresh_23 ?_
    refine k_istore_n (L' := [lq 7, li x1, li 0]) hX dNe_refresh_24 rfl (by decide) rfl ?_
    exact tNe_refresh_L25 hX hR x1 0 τ1 hT hb0
set_option maxRecDepth 100000 in
set_option maxHeartbeats 4000000 in
theorem tNe_refresh_L10 {X : KC} {q : Int × KM} (hX : kOk X 4 prog_4_method_5_code 3 "KeyPath$Net") (hR : kRet X none q) (x1 : Int) (σ : KM) {Θ : (Int × KM) → Prop} (hT : ∀ z, Θ (z) → z = q) : kJ X 10 [lq 7, li x1, none] [] σ (fNe_refresh_L10 x1 σ) Θ :=
  k_iter (f := fun s => fNe_refresh_B10 s.1 s.2) (Lf := fun s => [lq 7, li s.1, none]) (mf := fun s => s.2) (Θ := Θ) (fun s => tNe_refresh_B10 hX hR s.1 s.2 hT (fun _ h9 => h9)) kF (x1, σ)
set_option maxRecDepth 100000 in
set_option maxHeartbeats 4000000 in
theorem sNe_refresh (σ : KM) : kSem 4 (⟨"KeyPath$Net", "refresh", "()V"⟩ : MethodName) prog_4_method_5_code 3 none [kr 7] σ (fNe_refresh σ) := by
  refine kSem.of (L0 := [lq 7, none, none]) (by decide) (Nat.le_of_ble_eq_true rfl) rfl (fun X q hX hR => ?_)
  have hT : ∀ z : Int × KM, (fun z => z = q) z → z = q := fun _ h => h
  refine k_aload_n hX dNe_refresh_0 rfl ?_
  refine gf_33 hX dNe_refresh_1 ?_
  refine k_if_ne (tgt := 8) hX dNe_refresh_4 (by decide) ?_ ?_
  · refine k_iconst hX dNe_refresh_8 ?_
    refine k_istore_n (L' := [lq 7, li 0, none]) hX dNe_refresh_9 rfl (by decide) rfl ?_
    exact tNe_refresh_L10 hX hR 0 σ hT
  · exact k_vret hX hR hT dNe_refresh_7
theorem cl_22 {X : KC} {d n : Nat} {cc : ByteArray} {pc : Nat} {L : List (Option KV)} {st : List KV} {σ : KM} {Z : Type} {Θ : Z → Prop} {G : Int → KM → Option Z} (hX : kOk X d cc n "KeyPath") (hdd : 4 + 1 ≤ d) (hst : k_cat st ≤ 8) (hd : decode cc pc = .ok (.invokevirtual 224, 3)) (h : ∀ r τ, kJ X (pc + 3) L (st) τ (G r τ) Θ) : kJ X pc L (kr 7 :: st) σ (kCall (fNe_refresh σ) G) Θ :=
  k_callV (np := 0) (av := []) (ret := none) hX (by decide) rfl rfl rfl (sNe_refresh σ) ⟨⟨hdd, by decide⟩, tw_661, tw_7, by decide +kernel⟩ rfl tw_658 tw_659 tw_660 hst hd h
theorem dFi_judge_0 : decode prog_6_method_2_code 0 = .ok (.aload_n 0, 1) := by decide +kernel
theorem dFi_judge_1 : decode prog_6_method_2_code 1 = .ok (.aload_n 1, 1) := by decide +kernel
theorem dFi_judge_2 : decode prog_6_method_2_code 2 = .ok (.getfield 47, 3) := by decide +kernel
theorem dFi_judge_5 : decode prog_6_method_2_code 5 = .ok (.putfield 53, 3) := by decide +kernel
theorem dFi_judge_8 : decode prog_6_method_2_code 8 = .ok (.iconst 0, 1) := by decide +kernel
theorem dFi_judge_9 : decode prog_6_method_2_code 9 = .ok (.istore_n 3, 1) := by decide +kernel
theorem dFi_judge_10 : decode prog_6_method_2_code 10 = .ok (.iload_n 3, 1) := by decide +kernel
theorem dFi_judge_11 : decode prog_6_method_2_code 11 = .ok (.aload_n 0, 1) := by decide +kernel
theorem dFi_judge_12 : decode prog_6_method_2_code 12 = .ok (.getfield 53, 3) := by decide +kernel
theorem dFi_judge_15 : decode prog_6_method_2_code 15 = .ok (.if_icmp .ge 117, 3) := by decide +kernel
theorem dFi_judge_18 : decode prog_6_method_2_code 18 = .ok (.aload_n 0, 1) := by decide +kernel
theorem dFi_judge_19 : decode prog_6_method_2_code 19 = .ok (.getfield 18, 3) := by decide +kernel
theorem dFi_judge_22 : decode prog_6_method_2_code 22 = .ok (.iload_n 3, 1) := by decide +kernel
theorem dFi_judge_23 : decode prog_6_method_2_code 23 = .ok (.iload_n 3, 1) := by decide +kernel
theorem dFi_judge_24 : decode prog_6_method_2_code 24 = .ok (.ifCond .le 16, 3) := by decide +kernel
theorem dFi_judge_27 : decode prog_6_method_2_code 27 = .ok (.aload_n 1, 1) := by decide +kernel
theorem dFi_judge_28 : decode prog_6_method_2_code 28 = .ok (.getfield 54, 3) := by decide +kernel
theorem dFi_judge_31 : decode prog_6_method_2_code 31 = .ok (.iload_n 3, 1) := by decide +kernel
theorem dFi_judge_32 : decode prog_6_method_2_code 32 = .ok (.iaload, 1) := by decide +kernel
theorem dFi_judge_33 : decode prog_6_method_2_code 33 = .ok (.ifCond .ne 7, 3) := by decide +kernel
theorem dFi_judge_36 : decode prog_6_method_2_code 36 = .ok (.iconst 1, 1) := by decide +kernel
theorem dFi_judge_37 : decode prog_6_method_2_code 37 = .ok (.goto 4, 3) := by decide +kernel
theorem dFi_judge_40 : decode prog_6_method_2_code 40 = .ok (.iconst 0, 1) := by decide +kernel
theorem dFi_judge_41 : decode prog_6_method_2_code 41 = .ok (.bastore, 1) := by decide +kernel
theorem dFi_judge_42 : decode prog_6_method_2_code 42 = .ok (.iconst 0, 1) := by decide +kernel
theorem dFi_judge_43 : decode prog_6_method_2_code 43 = .ok (.istore 4, 2) := by decide +kernel
theorem dFi_judge_45 : decode prog_6_method_2_code 45 = .ok (.iload 4, 2) := by decide +kernel
theorem dFi_judge_47 : decode prog_6_method_2_code 47 = .ok (.bipush 24, 2) := by decide +kernel
theorem dFi_judge_49 : decode prog_6_method_2_code 49 = .ok (.if_icmp .ge 77, 3) := by decide +kernel
theorem dFi_judge_52 : decode prog_6_method_2_code 52 = .ok (.iload_n 3, 1) := by decide +kernel
theorem dFi_judge_53 : decode prog_6_method_2_code 53 = .ok (.bipush 24, 2) := by decide +kernel
theorem dFi_judge_55 : decode prog_6_method_2_code 55 = .ok (.imul, 1) := by decide +kernel
theorem dFi_judge_56 : decode prog_6_method_2_code 56 = .ok (.iload 4, 2) := by decide +kernel
theorem dFi_judge_58 : decode prog_6_method_2_code 58 = .ok (.iadd, 1) := by decide +kernel
theorem dFi_judge_59 : decode prog_6_method_2_code 59 = .ok (.istore 5, 2) := by decide +kernel
theorem dFi_judge_61 : decode prog_6_method_2_code 61 = .ok (.aload_n 0, 1) := by decide +kernel
theorem dFi_judge_62 : decode prog_6_method_2_code 62 = .ok (.getfield 9, 3) := by decide +kernel
theorem dFi_judge_65 : decode prog_6_method_2_code 65 = .ok (.iload_n 3, 1) := by decide +kernel
theorem dFi_judge_66 : decode prog_6_method_2_code 66 = .ok (.iaload, 1) := by decide +kernel
theorem dFi_judge_67 : decode prog_6_method_2_code 67 = .ok (.iconst (-1), 1) := by decide +kernel
theorem dFi_judge_68 : decode prog_6_method_2_code 68 = .ok (.if_icmp .eq 14, 3) := by decide +kernel
theorem dFi_judge_71 : decode prog_6_method_2_code 71 = .ok (.aload_n 0, 1) := by decide +kernel
theorem dFi_judge_72 : decode prog_6_method_2_code 72 = .ok (.getfield 9, 3) := by decide +kernel
theorem dFi_judge_75 : decode prog_6_method_2_code 75 = .ok (.iload_n 3, 1) := by decide +kernel
theorem dFi_judge_76 : decode prog_6_method_2_code 76 = .ok (.iaload, 1) := by decide +kernel
theorem dFi_judge_77 : decode prog_6_method_2_code 77 = .ok (.iload 4, 2) := by decide +kernel
theorem dFi_judge_79 : decode prog_6_method_2_code 79 = .ok (.if_icmp .ne 7, 3) := by decide +kernel
theorem dFi_judge_82 : decode prog_6_method_2_code 82 = .ok (.iconst 1, 1) := by decide +kernel
theorem dFi_judge_83 : decode prog_6_method_2_code 83 = .ok (.goto 4, 3) := by decide +kernel
theorem dFi_judge_86 : decode prog_6_method_2_code 86 = .ok (.iconst 0, 1) := by decide +kernel
theorem dFi_judge_87 : decode prog_6_method_2_code 87 = .ok (.istore 6, 2) := by decide +kernel
theorem dFi_judge_89 : decode prog_6_method_2_code 89 = .ok (.aload_n 0, 1) := by decide +kernel
theorem dFi_judge_90 : decode prog_6_method_2_code 90 = .ok (.getfield 15, 3) := by decide +kernel
theorem dFi_judge_93 : decode prog_6_method_2_code 93 = .ok (.iload 5, 2) := by decide +kernel
theorem dFi_judge_95 : decode prog_6_method_2_code 95 = .ok (.iload 6, 2) := by decide +kernel
theorem dFi_judge_97 : decode prog_6_method_2_code 97 = .ok (.ifCond .eq 20, 3) := by decide +kernel
theorem dFi_judge_100 : decode prog_6_method_2_code 100 = .ok (.aload_n 2, 1) := by decide +kernel
theorem dFi_judge_101 : decode prog_6_method_2_code 101 = .ok (.getfield 57, 3) := by decide +kernel
theorem dFi_judge_104 : decode prog_6_method_2_code 104 = .ok (.iload_n 3, 1) := by decide +kernel
theorem dFi_judge_105 : decode prog_6_method_2_code 105 = .ok (.iaload, 1) := by decide +kernel
theorem dFi_judge_106 : decode prog_6_method_2_code 106 = .ok (.aload_n 2, 1) := by decide +kernel
theorem dFi_judge_107 : decode prog_6_method_2_code 107 = .ok (.getfield 62, 3) := by decide +kernel
theorem dFi_judge_110 : decode prog_6_method_2_code 110 = .ok (.iload 5, 2) := by decide +kernel
theorem dFi_judge_112 : decode prog_6_method_2_code 112 = .ok (.iaload, 1) := by decide +kernel
theorem dFi_judge_113 : decode prog_6_method_2_code 113 = .ok (.isub, 1) := by decide +kernel
theorem dFi_judge_114 : decode prog_6_method_2_code 114 = .ok (.goto 5, 3) := by decide +kernel
theorem dFi_judge_117 : decode prog_6_method_2_code 117 = .ok (.ldc 65, 2) := by decide +kernel
theorem dFi_judge_119 : decode prog_6_method_2_code 119 = .ok (.iastore, 1) := by decide +kernel
theorem dFi_judge_120 : decode prog_6_method_2_code 120 = .ok (.iinc 4 1, 3) := by decide +kernel
theorem dFi_judge_123 : decode prog_6_method_2_code 123 = .ok (.goto (-78), 3) := by decide +kernel
theorem dFi_judge_126 : decode prog_6_method_2_code 126 = .ok (.iinc 3 1, 3) := by decide +kernel
theorem dFi_judge_129 : decode prog_6_method_2_code 129 = .ok (.goto (-119), 3) := by decide +kernel
theorem dFi_judge_132 : decode prog_6_method_2_code 132 = .ok (.return_, 1) := by decide +kernel
set_option maxRecDepth 100000 in
set_option maxHeartbeats 4000000 in
theorem tFi_judge_J132 {X : KC} {q : Int × KM} (hX : kOk X 1 prog_6_method_2_code 7 "KeyPath$PathFinder") (hR : kRet X none q) (σ : KM) {Θ : (Int × KM) → Prop} (hT : ∀ z, Θ (z) → z = q) : kJ X 132 [lq 8, lq 5, lq 6, none, none, none, none] [] σ (fFi_judge_J132 σ) Θ := by
  exact k_vret hX hR hT dFi_judge_132
set_option maxRecDepth 100000 in
set_option maxHeartbeats 4000000 in
theorem tFi_judge_J126 {X : KC} {q : Int × KM} (hX : kOk X 1 prog_6_method_2_code 7 "KeyPath$PathFinder") (hR : kRet X none q) (x3 : Int) (σ : KM) {Θ : ((Int × KM) ⊕ (Int × KM)) → Prop} (hT : ∀ z, Θ (.inr (z)) → z = q) (hb0 : ∀ s : Int × KM, Θ (.inl s) → kW X 10 [lq 8, lq 5, lq 6, li s.1, none, none, none] [] s.2) : kJ X 126 [lq 8, lq 5, lq 6, li x3, none, none, none] [] σ (fFi_judge_J126 x3 σ) Θ := by
  refine k_iincL (Lf := fun y1 => [lq 8, lq 5, lq 6, li y1, none, none, none]) hX dFi_judge_126 rfl (by decide) rfl (fun _ => rfl) (fun y1 => ?_)
  refine k_goto (tgt := 10) hX dFi_judge_129 (by decide) ?_
  exact k_back (hb0 (y1, σ))
set_option maxRecDepth 100000 in
set_option maxHeartbeats 4000000 in
theorem tFi_judge_J119 {X : KC} {q : Int × KM} (hX : kOk X 1 prog_6_method_2_code 7 "KeyPath$PathFinder") (hR : kRet X none q) (x3 x4 t0 t1 : Int) (σ : KM) {Θ : ((Int × KM) ⊕ ((Int × KM) ⊕ (Int × KM))) → Prop} (hT : ∀ z, Θ (.inr (.inr (z))) → z = q) (hb0 : ∀ s : Int × KM, Θ (.inl s) → kW X 45 [lq 8, lq 5, lq 6, li x3, li s.1, none, none] [] s.2) (hb1 : ∀ s : Int × KM, Θ (.inr (.inl s)) → kW X 10 [lq 8, lq 5, lq 6, li s.1, none, none, none] [] s.2) : kJ X 119 [lq 8, lq 5, lq 6, li x3, li x4, none, none] [ki t0, ki t1, kr 34] σ (fFi_judge_J119 x3 x4 t0 t1 σ) Θ := by
  refine k_iast hX (by decide) rfl dFi_judge_119 rfl (fun τ1 => ?_)
  refine k_iincL (Lf := fun y2 => [lq 8, lq 5, lq 6, li x3, li y2, none, none]) hX dFi_judge_120 rfl (by decide) rfl (fun _ => rfl) (fun y2 => ?_)
  refine k_goto (tgt := 45) hX dFi_judge_123 (by decide) ?_
  exact k_back (hb0 (y2, τ1))
set_option maxRecDepth 100000 in
set_option maxHeartbeats 4000000 in
theorem tFi_judge_J87 {X : KC} {q : Int × KM} (hX : kOk X 1 prog_6_method_2_code 7 "KeyPath$PathFinder") (hR : kRet X none q) (x3 x4 x5 t0 : Int) (σ : KM) {Θ : ((Int × KM) ⊕ ((Int × KM) ⊕ (Int × KM))) → Prop} (hT : ∀ z, Θ (.inr (.inr (z))) → z = q) (hb0 : ∀ s : Int × KM, Θ (.inl s) → kW X 45 [lq 8, lq 5, lq 6, li x3, li s.1, none, none] [] s.2) (hb1 : ∀ s : Int × KM, Θ (.inr (.inl s)) → kW X 10 [lq 8, lq 5, lq 6, li s.1, none, none, none] [] s.2) : kJ X 87 [lq 8, lq 5, lq 6, li x3, li x4, li x5, none] [ki t0] σ (fFi_judge_J87 x3 x4 x5 t0 σ) Θ := by
  refine k_istore (L' := [lq 8, lq 5, lq 6, li x3, li x4, li x5, li t0]) hX dFi_judge_87 rfl (by decide) rfl ?_
  refine k_aload_n hX dFi_judge_89 rfl ?_
  refine gf_46 hX dFi_judge_90 ?_
  refine k_iload hX dFi_judge_93 rfl ?_
  refine k_iload hX dFi_judge_95 rfl ?_
  refine k_if_eq (tgt := 117) hX dFi_judge_97 (by decide) ?_ ?_
  · refine k_ldc (v := 1000000000) (w := 0) hX dFi_judge_117 tw_708 ?_
    refine k_less [true, true, true, true, true, false, false] (L' := [lq 8, lq 5, lq 6, li x3, li x4, none, none]) rfl ?_
    exact tFi_judge_J119 hX hR x3 x4 1000000000 x5 σ hT hb0 hb1
  · refine k_aload_n hX dFi_judge_100 rfl ?_
    refine gf_47 hX dFi_judge_101 ?_
    refine k_iload_n hX dFi_judge_104 rfl ?_
    refine k_iald hX (by decide) rfl dFi_judge_105 rfl (fun y1 => ?_)
    refine k_aload_n hX dFi_judge_106 rfl ?_
    refine gf_48 hX dFi_judge_107 ?_
    refine k_iload hX dFi_judge_110 rfl ?_
    refine k_iald hX (by decide) rfl dFi_judge_112 rfl (fun y2 => ?_)
    refine k_isub hX dFi_judge_113 ?_
    refine k_goto (tgt := 119) hX dFi_judge_114 (by decide) ?_
    refine k_less [true, true, true, true, true, false, false] (L' := [lq 8, lq 5, lq 6, li x3, li x4, none, none]) rfl ?_
    exact tFi_judge_J119 hX hR x3 x4 (y1 - y2) x5 σ hT hb0 hb1
set_option maxRecDepth 100000 in
set_option maxHeartbeats 4000000 in
theorem tFi_judge_J82 {X : KC} {q : Int × KM} (hX : kOk X 1 prog_6_method_2_code 7 "KeyPath$PathFinder") (hR : kRet X none q) (x3 x4 x5 : Int) (σ : KM) {Θ : ((Int × KM) ⊕ ((Int × KM) ⊕ (Int × KM))) → Prop} (hT : ∀ z, Θ (.inr (.inr (z))) → z = q) (hb0 : ∀ s : Int × KM, Θ (.inl s) → kW X 45 [lq 8, lq 5, lq 6, li x3, li s.1, none, none] [] s.2) (hb1 : ∀ s : Int × KM, Θ (.inr (.inl s)) → kW X 10 [lq 8, lq 5, lq 6, li s.1, none, none, none] [] s.2) : kJ X 82 [lq 8, lq 5, lq 6, li x3, li x4, li x5, none] [] σ (fFi_judge_J82 x3 x4 x5 σ) Θ := by
  refine k_iconst hX dFi_judge_82 ?_
  refine k_goto (tgt := 87) hX dFi_judge_83 (by decide) ?_
  exact tFi_judge_J87 hX hR x3 x4 x5 1 σ hT hb0 hb1
set_option maxRecDepth 100000 in
set_option maxHeartbeats 4000000 in
theorem tFi_judge_B45 {X : KC} {q : Int × KM} (hX : kOk X 1 prog_6_method_2_code 7 "KeyPath$PathFinder") (hR : kRet X none q) (x3 x4 : Int) (σ : KM) {Θ : ((Int × KM) ⊕ ((Int × KM) ⊕ (Int × KM))) → Prop} (hT : ∀ z, Θ (.inr (.inr (z))) → z = q) (hb0 : ∀ s : Int × KM, Θ (.inl s) → kW X 45 [lq 8, lq 5, lq 6, li x3, li s.1, none, none] [] s.2) (hb1 : ∀ s : Int × KM, Θ (.inr (.inl s)) → kW X 10 [lq 8, lq 5, lq 6, li s.1, none, none, none] [] s.2) : kJ X 45 [lq 8, lq 5, lq 6, li x3, li x4, none, none] [] σ (fFi_judge_B45 x3 x4 σ) Θ := by
  refine k_iload hX dFi_judge_45 rfl ?_
  refine k_bipush hX dFi_judge_47 (by decide) ?_
  refine k_icmp_ge (tgt := 126) hX dFi_judge_49 (by decide) ?_ ?_
  · refine k_exit ?_
    refine k_less [true, true, true, true, false, true, true] (L' := [lq 8, lq 5, lq 6, li x3, none, none, none]) rfl ?_
    exact tFi_judge_J126 hX hR x3 σ hT hb1
  · refine k_iload_n hX dFi_judge_52 rfl ?_
    refine k_bipush hX dFi_judge_53 (by decide) ?_
    refine k_imul hX dFi_judge_55 ?_
    refine k_iload hX dFi_judge_56 rfl ?_
    refine k_iadd hX dFi_judge_58 ?_
    refine k_istoreL (Lf := fun y1 => [lq 8, lq 5, lq 6, li x3, li x4, li y1, none]) hX dFi_judge_59 rfl (by decide) (fun _ => rfl) (fun y1 => ?_)
    refine k_aload_n hX dFi_judge_61 rfl ?_
    refine gf_45 hX dFi_judge_62 ?_
    refine k_iload_n hX dFi_judge_65 rfl ?_
    refine k_iald hX (by decide) rfl dFi_judge_66 rfl (fun y2 => ?_)
    refine k_iconst hX dFi_judge_67 ?_
    refine k_icmp_eq (tgt := 82) hX dFi_judge_68 (by decide) ?_ ?_
    · exact tFi_judge_J82 hX hR x3 x4 y1 σ hT hb0 hb1
    · refine k_aload_n hX dFi_judge_71 rfl ?_
      refine gf_45 hX dFi_judge_72 ?_
      refine k_iload_n hX dFi_judge_75 rfl ?_
      refine k_iald hX (by decide) rfl dFi_judge_76 rfl (fun y3 => ?_)
      refine k_iload hX dFi_judge_77 rfl ?_
      refine k_icmp_ne (tgt := 86) hX dFi_judge_79 (by decide) ?_ ?_
      · refine k_iconst hX dFi_judge_86 ?_
        exact tFi_judge_J87 hX hR x3 x4 y1 0 σ hT hb0 hb1
      · exact tFi_judge_J82 hX hR x3 x4 y1 σ hT hb0 hb1
set_option maxRecDepth 100000 in
set_option maxHeartbeats 4000000 in
theorem tFi_judge_L45 {X : KC} {q : Int × KM} (hX : kOk X 1 prog_6_method_2_code 7 "KeyPath$PathFinder") (hR : kRet X none q) (x3 x4 : Int) (σ : KM) {Θ : ((Int × KM) ⊕ (Int × KM)) → Prop} (hT : ∀ z, Θ (.inr (z)) → z = q) (hb0 : ∀ s : Int × KM, Θ (.inl s) → kW X 10 [lq 8, lq 5, lq 6, li s.1, none, none, none] [] s.2) : kJ X 45 [lq 8, lq 5, lq 6, li x3, li x4, none, none] [] σ (fFi_judge_L45 x3 x4 σ) Θ :=
  k_iter (f := fun s => fFi_judge_B45 x3 s.1 s.2) (Lf := fun s => [lq 8, lq 5, lq 6, li x3, li s.1, none, none]) (mf := fun s => s.2) (Θ := Θ) (fun s => tFi_judge_B45 hX hR x3 s.1 s.2 hT (fun _ h9 => h9) hb0) kF (x4, σ)
set_option maxRecDepth 100000 in
set_option maxHeartbeats 4000000 in
theorem tFi_judge_J41 {X : KC} {q : Int × KM} (hX : kOk X 1 prog_6_method_2_code 7 "KeyPath$PathFinder") (hR : kRet X none q) (x3 t0 t1 : Int) (σ : KM) {Θ : ((Int × KM) ⊕ (Int × KM)) → Prop} (hT : ∀ z, Θ (.inr (z)) → z = q) (hb0 : ∀ s : Int × KM, Θ (.inl s) → kW X 10 [lq 8, lq 5, lq 6, li s.1, none, none, none] [] s.2) : kJ X 41 [lq 8, lq 5, lq 6, li x3, none, none, none] [ki t0, ki t1, kr 35] σ (fFi_judge_J41 x3 t0 t1 σ) Θ := by
  refine k_zast hX (by decide) rfl dFi_judge_41 rfl (fun τ1 => ?_)
  refine k_iconst hX dFi_judge_42 ?_
  refine k_istore (L' := [lq 8, lq 5, lq 6, li x3, li 0, none, none]) hX dFi_judge_43 rfl (by decide) rfl ?_
  exact tFi_judge_L45 hX hR x3 0 τ1 hT hb0
set_option maxRecDepth 100000 in
set_option maxHeartbeats 4000000 in
theorem tFi_judge_J40 {X : KC} {q : Int × KM} (hX : kOk X 1 prog_6_method_2_code 7 "KeyPath$PathFinder") (hR : kRet X none q) (x3 t0 : Int) (σ : KM) {Θ : ((Int × KM) ⊕ (Int × KM)) → Prop} (hT : ∀ z, Θ (.inr (z)) → z = q) (hb0 : ∀ s : Int × KM, Θ (.inl s) → kW X 10 [lq 8, lq 5, lq 6, li s.1, none, none, none] [] s.2) : kJ X 40 [lq 8, lq 5, lq 6, li x3, none, none, none] [ki t0, kr 35] σ (fFi_judge_J40 x3 t0 σ) Θ := by
  refine k_iconst hX dFi_judge_40 ?_
  exact tFi_judge_J41 hX hR x3 0 t0 σ hT hb0
set_option maxRecDepth 100000 in
set_option maxHeartbeats 4000000 in
theorem tFi_judge_B10 {X : KC} {q : Int × KM} (hX : kOk X 1 prog_6_method_2_code 7 "KeyPath$PathFinder") (hR : kRet X none q) (x3 : Int) (σ : KM) {Θ : ((Int × KM) ⊕ (Int × KM)) → Prop} (hT : ∀ z, Θ (.inr (z)) → z = q) (hb0 : ∀ s : Int × KM, Θ (.inl s) → kW X 10 [lq 8, lq 5, lq 6, li s.1, none, none, none] [] s.2) : kJ X 10 [lq 8, lq 5, lq 6, li x3, none, none, none] [] σ (fFi_judge_B10 x3 σ) Θ := by
  refine k_iload_n hX dFi_judge_10 rfl ?_
  refine k_aload_n hX dFi_judge_11 rfl ?_
  refine gf_43 hX dFi_judge_12 ?_
  refine k_icmp_ge (tgt := 132) hX dFi_judge_15 (by decide) ?_ ?_
  · refine k_exit ?_
    refine k_less [true, true, true, false, true, true, true] (L' := [lq 8, lq 5, lq 6, none, none, none, none]) rfl ?_
    exact tFi_judge_J132 hX hR σ hT
  · refine k_aload_n hX dFi_judge_18 rfl ?_
    refine gf_44 hX dFi_judge_19 ?_
    refine k_iload_n hX dFi_judge_22 rfl ?_
    refine k_iload_n hX dFi_judge_23 rfl ?_
    refine k_if_le (tgt := 40) hX dFi_judge_24 (by decide) ?_ ?_
    · exact tFi_judge_J40 hX hR x3 x3 σ hT hb0
    · refine k_aload_n hX dFi_judge_27 rfl ?_
      refine gf_49 hX dFi_judge_28 ?_
      refine k_iload_n hX dFi_judge_31 rfl ?_
      refine k_iald hX (by decide) rfl dFi_judge_32 rfl (fun y1 => ?_)
      refine k_if_ne (tgt := 40) hX dFi_judge_33 (by decide) ?_ ?_
      · exact tFi_judge_J40 hX hR x3 x3 σ hT hb0
      · refine k_iconst hX dFi_judge_36 ?_
        refine k_goto (tgt := 41) hX dFi_judge_37 (by decide) ?_
        exact tFi_judge_J41 hX hR x3 1 x3 σ hT hb0
set_option maxRecDepth 100000 in
set_option maxHeartbeats 4000000 in
theorem tFi_judge_L10 {X : KC} {q : Int × KM} (hX : kOk X 1 prog_6_method_2_code 7 "KeyPath$PathFinder") (hR : kRet X none q) (x3 : Int) (σ : KM) {Θ : (Int × KM) → Prop} (hT : ∀ z, Θ (z) → z = q) : kJ X 10 [lq 8, lq 5, lq 6, li x3, none, none, none] [] σ (fFi_judge_L10 x3 σ) Θ :=
  k_iter (f := fun s => fFi_judge_B10 s.1 s.2) (Lf := fun s => [lq 8, lq 5, lq 6, li s.1, none, none, none]) (mf := fun s => s.2) (Θ := Θ) (fun s => tFi_judge_B10 hX hR s.1 s.2 hT (fun _ h9 => h9)) kF (x3, σ)
set_option maxRecDepth 100000 in
set_option maxHeartbeats 4000000 in
theorem sFi_judge (σ : KM) : kSem 1 (⟨"KeyPath$PathFinder", "judge", "(LKeyPath$Windows;LKeyPath$Profiles;)V"⟩ : MethodName) prog_6_method_2_code 7 none [kr 8, kr 5, kr 6] σ (fFi_judge σ) := by
  refine kSem.of (L0 := [lq 8, lq 5, lq 6, none, none, none, none]) (by decide) (Nat.le_of_ble_eq_true rfl) rfl (fun X q hX hR => ?_)
  have hT : ∀ z : Int × KM, (fun z => z = q) z → z = q := fun _ h => h
  refine k_aload_n hX dFi_judge_0 rfl ?_
  refine k_aload_n hX dFi_judge_1 rfl ?_
  refine gf_41 hX dFi_judge_2 ?_
  refine gp_42 hX dFi_judge_5 (fun τ1 => ?_)
  refine k_iconst hX dFi_judge_8 ?_
  refine k_istore_n (L' := [lq 8, lq 5, lq 6, li 0, none, none, none]) hX dFi_judge_9 rfl (by decide) rfl ?_
  exact tFi_judge_L10 hX hR 0 τ1 hT
theorem cl_23 {X : KC} {d n : Nat} {cc : ByteArray} {pc : Nat} {L : List (Option KV)} {st : List KV} {σ : KM} {Z : Type} {Θ : Z → Prop} {G : Int → KM → Option Z} (hX : kOk X d cc n "KeyPath") (hdd : 1 + 1 ≤ d) (hst : k_cat st ≤ 8) (hd : decode cc pc = .ok (.invokevirtual 339, 3)) (h : ∀ r τ, kJ X (pc + 3) L (st) τ (G r τ) Θ) : kJ X pc L (kr 6 :: kr 5 :: kr 8 :: st) σ (kCall (fFi_judge σ) G) Θ :=
  k_callV (np := 2) (av := [kr 5, kr 6]) (ret := none) hX (by decide) rfl rfl rfl (sFi_judge σ) ⟨⟨hdd, by decide⟩, tw_707, tw_8, by decide +kernel⟩ rfl tw_704 tw_705 tw_706 hst hd h
theorem dFi_findLeast_0 : decode prog_6_method_5_code 0 = .ok (.aload_n 0, 1) := by decide +kernel
theorem dFi_findLeast_1 : decode prog_6_method_5_code 1 = .ok (.aload_n 0, 1) := by decide +kernel
theorem dFi_findLeast_2 : decode prog_6_method_5_code 2 = .ok (.getfield 53, 3) := by decide +kernel
theorem dFi_findLeast_5 : decode prog_6_method_5_code 5 = .ok (.ifCond .ne 7, 3) := by decide +kernel
theorem dFi_findLeast_8 : decode prog_6_method_5_code 8 = .ok (.iconst 0, 1) := by decide +kernel
theorem dFi_findLeast_9 : decode prog_6_method_5_code 9 = .ok (.goto 5, 3) := by decide +kernel
theorem dFi_findLeast_12 : decode prog_6_method_5_code 12 = .ok (.ldc 65, 2) := by decide +kernel
theorem dFi_findLeast_14 : decode prog_6_method_5_code 14 = .ok (.putfield 97, 3) := by decide +kernel
theorem dFi_findLeast_17 : decode prog_6_method_5_code 17 = .ok (.aload_n 0, 1) := by decide +kernel
theorem dFi_findLeast_18 : decode prog_6_method_5_code 18 = .ok (.aload_n 0, 1) := by decide +kernel
theorem dFi_findLeast_19 : decode prog_6_method_5_code 19 = .ok (.getfield 53, 3) := by decide +kernel
theorem dFi_findLeast_22 : decode prog_6_method_5_code 22 = .ok (.ifCond .ne 7, 3) := by decide +kernel
theorem dFi_findLeast_25 : decode prog_6_method_5_code 25 = .ok (.iconst 1, 1) := by decide +kernel
theorem dFi_findLeast_26 : decode prog_6_method_5_code 26 = .ok (.goto 4, 3) := by decide +kernel
theorem dFi_findLeast_29 : decode prog_6_method_5_code 29 = .ok (.iconst 0, 1) := by decide +kernel
theorem dFi_findLeast_30 : decode prog_6_method_5_code 30 = .ok (.putfield 100, 3) := by decide +kernel
theorem dFi_findLeast_33 : decode prog_6_method_5_code 33 = .ok (.iconst 0, 1) := by decide +kernel
theorem dFi_findLeast_34 : decode prog_6_method_5_code 34 = .ok (.istore_n 1, 1) := by decide +kernel
theorem dFi_findLeast_35 : decode prog_6_method_5_code 35 = .ok (.iload_n 1, 1) := by decide +kernel
theorem dFi_findLeast_36 : decode prog_6_method_5_code 36 = .ok (.bipush 24, 2) := by decide +kernel
theorem dFi_findLeast_38 : decode prog_6_method_5_code 38 = .ok (.if_icmp .ge 85, 3) := by decide +kernel
theorem dFi_findLeast_41 : decode prog_6_method_5_code 41 = .ok (.aload_n 0, 1) := by decide +kernel
theorem dFi_findLeast_42 : decode prog_6_method_5_code 42 = .ok (.getfield 53, 3) := by decide +kernel
theorem dFi_findLeast_45 : decode prog_6_method_5_code 45 = .ok (.ifCond .le 78, 3) := by decide +kernel
theorem dFi_findLeast_48 : decode prog_6_method_5_code 48 = .ok (.aload_n 0, 1) := by decide +kernel
theorem dFi_findLeast_49 : decode prog_6_method_5_code 49 = .ok (.getfield 25, 3) := by decide +kernel
theorem dFi_findLeast_52 : decode prog_6_method_5_code 52 = .ok (.iload_n 1, 1) := by decide +kernel
theorem dFi_findLeast_53 : decode prog_6_method_5_code 53 = .ok (.iaload, 1) := by decide +kernel
theorem dFi_findLeast_54 : decode prog_6_method_5_code 54 = .ok (.aload_n 0, 1) := by decide +kernel
theorem dFi_findLeast_55 : decode prog_6_method_5_code 55 = .ok (.getfield 97, 3) := by decide +kernel
theorem dFi_findLeast_58 : decode prog_6_method_5_code 58 = .ok (.if_icmp .ge 26, 3) := by decide +kernel
theorem dFi_findLeast_61 : decode prog_6_method_5_code 61 = .ok (.aload_n 0, 1) := by decide +kernel
theorem dFi_findLeast_62 : decode prog_6_method_5_code 62 = .ok (.aload_n 0, 1) := by decide +kernel
theorem dFi_findLeast_63 : decode prog_6_method_5_code 63 = .ok (.getfield 25, 3) := by decide +kernel
theorem dFi_findLeast_66 : decode prog_6_method_5_code 66 = .ok (.iload_n 1, 1) := by decide +kernel
theorem dFi_findLeast_67 : decode prog_6_method_5_code 67 = .ok (.iaload, 1) := by decide +kernel
theorem dFi_findLeast_68 : decode prog_6_method_5_code 68 = .ok (.putfield 97, 3) := by decide +kernel
theorem dFi_findLeast_71 : decode prog_6_method_5_code 71 = .ok (.aload_n 0, 1) := by decide +kernel
theorem dFi_findLeast_72 : decode prog_6_method_5_code 72 = .ok (.aload_n 0, 1) := by decide +kernel
theorem dFi_findLeast_73 : decode prog_6_method_5_code 73 = .ok (.getfield 28, 3) := by decide +kernel
theorem dFi_findLeast_76 : decode prog_6_method_5_code 76 = .ok (.iload_n 1, 1) := by decide +kernel
theorem dFi_findLeast_77 : decode prog_6_method_5_code 77 = .ok (.iaload, 1) := by decide +kernel
theorem dFi_findLeast_78 : decode prog_6_method_5_code 78 = .ok (.putfield 100, 3) := by decide +kernel
theorem dFi_findLeast_81 : decode prog_6_method_5_code 81 = .ok (.goto 36, 3) := by decide +kernel
theorem dFi_findLeast_84 : decode prog_6_method_5_code 84 = .ok (.aload_n 0, 1) := by decide +kernel
theorem dFi_findLeast_85 : decode prog_6_method_5_code 85 = .ok (.getfield 25, 3) := by decide +kernel
theorem dFi_findLeast_88 : decode prog_6_method_5_code 88 = .ok (.iload_n 1, 1) := by decide +kernel
theorem dFi_findLeast_89 : decode prog_6_method_5_code 89 = .ok (.iaload, 1) := by decide +kernel
theorem dFi_findLeast_90 : decode prog_6_method_5_code 90 = .ok (.aload_n 0, 1) := by decide +kernel
theorem dFi_findLeast_91 : decode prog_6_method_5_code 91 = .ok (.getfield 97, 3) := by decide +kernel
theorem dFi_findLeast_94 : decode prog_6_method_5_code 94 = .ok (.if_icmp .ne 23, 3) := by decide +kernel
theorem dFi_findLeast_97 : decode prog_6_method_5_code 97 = .ok (.aload_n 0, 1) := by decide +kernel
theorem dFi_findLeast_98 : decode prog_6_method_5_code 98 = .ok (.ldc 91, 2) := by decide +kernel
theorem dFi_findLeast_100 : decode prog_6_method_5_code 100 = .ok (.aload_n 0, 1) := by decide +kernel
theorem dFi_findLeast_101 : decode prog_6_method_5_code 101 = .ok (.getfield 100, 3) := by decide +kernel
theorem dFi_findLeast_104 : decode prog_6_method_5_code 104 = .ok (.aload_n 0, 1) := by decide +kernel
theorem dFi_findLeast_105 : decode prog_6_method_5_code 105 = .ok (.getfield 28, 3) := by decide +kernel
theorem dFi_findLeast_108 : decode prog_6_method_5_code 108 = .ok (.iload_n 1, 1) := by decide +kernel
theorem dFi_findLeast_109 : decode prog_6_method_5_code 109 = .ok (.iaload, 1) := by decide +kernel
theorem dFi_findLeast_110 : decode prog_6_method_5_code 110 = .ok (.iadd, 1) := by decide +kernel
theorem dFi_findLeast_111 : decode prog_6_method_5_code 111 = .ok (.invokestatic 92, 3) := by decide +kernel
theorem dFi_findLeast_114 : decode prog_6_method_5_code 114 = .ok (.putfield 100, 3) := by decide +kernel
theorem dFi_findLeast_117 : decode prog_6_method_5_code 117 = .ok (.iinc 1 1, 3) := by decide +kernel
theorem dFi_findLeast_120 : decode prog_6_method_5_code 120 = .ok (.goto (-85), 3) := by decide +kernel
theorem dFi_findLeast_123 : decode prog_6_method_5_code 123 = .ok (.aload_n 0, 1) := by decide +kernel
theorem dFi_findLeast_124 : decode prog_6_method_5_code 124 = .ok (.aload_n 0, 1) := by decide +kernel
theorem dFi_findLeast_125 : decode prog_6_method_5_code 125 = .ok (.getfield 97, 3) := by decide +kernel
theorem dFi_findLeast_128 : decode prog_6_method_5_code 128 = .ok (.ldc 65, 2) := by decide +kernel
theorem dFi_findLeast_130 : decode prog_6_method_5_code 130 = .ok (.if_icmp .ge 7, 3) := by decide +kernel
theorem dFi_findLeast_133 : decode prog_6_method_5_code 133 = .ok (.iconst 1, 1) := by decide +kernel
theorem dFi_findLeast_134 : decode prog_6_method_5_code 134 = .ok (.goto 4, 3) := by decide +kernel
theorem dFi_findLeast_137 : decode prog_6_method_5_code 137 = .ok (.iconst 0, 1) := by decide +kernel
theorem dFi_findLeast_138 : decode prog_6_method_5_code 138 = .ok (.putfield 78, 3) := by decide +kernel
theorem dFi_findLeast_141 : decode prog_6_method_5_code 141 = .ok (.return_, 1) := by decide +kernel
set_option maxRecDepth 100000 in
set_option maxHeartbeats 4000000 in
theorem tFi_findLeast_J138 {X : KC} {q : Int × KM} (hX : kOk X 1 prog_6_method_5_code 2 "KeyPath$PathFinder") (hR : kRet X none q) (t0 : Int) (σ : KM) {Θ : (Int × KM) → Prop} (hT : ∀ z, Θ (z) → z = q) : kJ X 138 [lq 8, none] [ki t0, kr 8] σ (fFi_findLeast_J138 t0 σ) Θ := by
  refine gz_54 hX dFi_findLeast_138 (fun τ1 => ?_)
  exact k_vret hX hR hT dFi_findLeast_141
set_option maxRecDepth 100000 in
set_option maxHeartbeats 4000000 in
theorem tFi_findLeast_J123 {X : KC} {q : Int × KM} (hX : kOk X 1 prog_6_method_5_code 2 "KeyPath$PathFinder") (hR : kRet X none q) (σ : KM) {Θ : (Int × KM) → Prop} (hT : ∀ z, Θ (z) → z = q) : kJ X 123 [lq 8, none] [] σ (fFi_findLeast_J123 σ) Θ := by
  refine k_aload_n hX dFi_findLeast_123 rfl ?_
  refine k_aload_n hX dFi_findLeast_124 rfl ?_
  refine gf_53 hX dFi_findLeast_125 ?_
  refine k_ldc (v := 1000000000) (w := 0) hX dFi_findLeast_128 tw_708 ?_
  refine k_icmp_ge (tgt := 137) hX dFi_findLeast_130 (by decide) ?_ ?_
  · refine k_iconst hX dFi_findLeast_137 ?_
    exact tFi_findLeast_J138 hX hR 0 σ hT
  · refine k_iconst hX dFi_findLeast_133 ?_
    refine k_goto (tgt := 138) hX dFi_findLeast_134 (by decide) ?_
    exact tFi_findLeast_J138 hX hR 1 σ hT
set_option maxRecDepth 100000 in
set_option maxHeartbeats 4000000 in
theorem tFi_findLeast_J117 {X : KC} {q : Int × KM} (hX : kOk X 1 prog_6_method_5_code 2 "KeyPath$PathFinder") (hR : kRet X none q) (x1 : Int) (σ : KM) {Θ : ((Int × KM) ⊕ (Int × KM)) → Prop} (hT : ∀ z, Θ (.inr (z)) → z = q) (hb0 : ∀ s : Int × KM, Θ (.inl s) → kW X 35 [lq 8, li s.1] [] s.2) : kJ X 117 [lq 8, li x1] [] σ (fFi_findLeast_J117 x1 σ) Θ := by
  refine k_iincL (Lf := fun y1 => [lq 8, li y1]) hX dFi_findLeast_117 rfl (by decide) rfl (fun _ => rfl) (fun y1 => ?_)
  refine k_goto (tgt := 35) hX dFi_findLeast_120 (by decide) ?_
  exact k_back (hb0 (y1, σ))
set_option maxRecDepth 100000 in
set_option maxHeartbeats 4000000 in
theorem tFi_findLeast_B35 {X : KC} {q : Int × KM} (hX : kOk X 1 prog_6_method_5_code 2 "KeyPath$PathFinder") (hR : kRet X none q) (x1 : Int) (σ : KM) {Θ : ((Int × KM) ⊕ (Int × KM)) → Prop} (hT : ∀ z, Θ (.inr (z)) → z = q) (hb0 : ∀ s : Int × KM, Θ (.inl s) → kW X 35 [lq 8, li s.1] [] s.2) : kJ X 35 [lq 8, li x1] [] σ (fFi_findLeast_B35 x1 σ) Θ := by
  refine k_iload_n hX dFi_findLeast_35 rfl ?_
  refine k_bipush hX dFi_findLeast_36 (by decide) ?_
  refine k_icmp_ge (tgt := 123) hX dFi_findLeast_38 (by decide) ?_ ?_
  · refine k_exit ?_
    refine k_less [true, false] (L' := [lq 8, none]) rfl ?_
    exact tFi_findLeast_J123 hX hR σ hT
  · refine k_aload_n hX dFi_findLeast_41 rfl ?_
    refine gf_43 hX dFi_findLeast_42 ?_
    refine k_if_le (tgt := 123) hX dFi_findLeast_45 (by decide) ?_ ?_
    · refine k_exit ?_
      refine k_less [true, false] (L' := [lq 8, none]) rfl ?_
      exact tFi_findLeast_J123 hX hR σ hT
    · refine k_aload_n hX dFi_findLeast_48 rfl ?_
      refine gf_55 hX dFi_findLeast_49 ?_
      refine k_iload_n hX dFi_findLeast_52 rfl ?_
      refine k_iald hX (by decide) rfl dFi_findLeast_53 rfl (fun y1 => ?_)
      refine k_aload_n hX dFi_findLeast_54 rfl ?_
      refine gf_53 hX dFi_findLeast_55 ?_
      refine k_icmp_ge (tgt := 84) hX dFi_findLeast_58 (by decide) ?_ ?_
      · refine k_aload_n hX dFi_findLeast_84 rfl ?_
        refine gf_55 hX dFi_findLeast_85 ?_
        refine k_iload_n hX dFi_findLeast_88 rfl ?_
        refine k_iald hX (by decide) rfl dFi_findLeast_89 rfl (fun y2 => ?_)
        refine k_aload_n hX dFi_findLeast_90 rfl ?_
        refine gf_53 hX dFi_findLeast_91 ?_
        refine k_icmp_ne (tgt := 117) hX dFi_findLeast_94 (by decide) ?_ ?_
        · exact tFi_findLeast_J117 hX hR x1 σ hT hb0
        · refine k_aload_n hX dFi_findLeast_97 rfl ?_
          refine k_ldc (v := 1000000) (w := 0) hX dFi_findLeast_98 tw_722 ?_
          refine k_aload_n hX dFi_findLeast_100 rfl ?_
          refine gf_56 hX dFi_findLeast_101 ?_
          refine k_aload_n hX dFi_findLeast_104 rfl ?_
          refine gf_57 hX dFi_findLeast_105 ?_
          refine k_iload_n hX dFi_findLeast_108 rfl ?_
          refine k_iald hX (by decide) rfl dFi_findLeast_109 rfl (fun y3 => ?_)
          refine k_iadd hX dFi_findLeast_110 ?_
          refine k_mmin hX (by decide) (Nat.le_of_ble_eq_true rfl) tw_723 tw_379 tw_12 tw_380 dFi_findLeast_111 (fun y4 => ?_)
          refine gp_52 hX dFi_findLeast_114 (fun τ5 => ?_)
          exact tFi_findLeast_J117 hX hR x1 τ5 hT hb0
      · refine k_aload_n hX dFi_findLeast_61 rfl ?_
        refine k_aload_n hX dFi_findLeast_62 rfl ?_
        refine gf_55 hX dFi_findLeast_63 ?_
        refine k_iload_n hX dFi_findLeast_66 rfl ?_
        refine k_iald hX (by decide) rfl dFi_findLeast_67 rfl (fun y6 => ?_)
        refine gp_51 hX dFi_findLeast_68 (fun τ7 => ?_)
        refine k_aload_n hX dFi_findLeast_71 rfl ?_
        refine k_aload_n hX dFi_findLeast_72 rfl ?_
        refine gf_57 hX dFi_findLeast_73 ?_
        refine k_iload_n hX dFi_findLeast_76 rfl ?_
        refine k_iald hX (by decide) rfl dFi_findLeast_77 rfl (fun y8 => ?_)
        refine gp_52 hX dFi_findLeast_78 (fun τ9 => ?_)
        refine k_goto (tgt := 117) hX dFi_findLeast_81 (by decide) ?_
        exact tFi_findLeast_J117 hX hR x1 τ9 hT hb0
set_option maxRecDepth 100000 in
set_option maxHeartbeats 4000000 in
theorem tFi_findLeast_L35 {X : KC} {q : Int × KM} (hX : kOk X 1 prog_6_method_5_code 2 "KeyPath$PathFinder") (hR : kRet X none q) (x1 : Int) (σ : KM) {Θ : (Int × KM) → Prop} (hT : ∀ z, Θ (z) → z = q) : kJ X 35 [lq 8, li x1] [] σ (fFi_findLeast_L35 x1 σ) Θ :=
  k_iter (f := fun s => fFi_findLeast_B35 s.1 s.2) (Lf := fun s => [lq 8, li s.1]) (mf := fun s => s.2) (Θ := Θ) (fun s => tFi_findLeast_B35 hX hR s.1 s.2 hT (fun _ h9 => h9)) kF (x1, σ)
set_option maxRecDepth 100000 in
set_option maxHeartbeats 4000000 in
theorem tFi_findLeast_J30 {X : KC} {q : Int × KM} (hX : kOk X 1 prog_6_method_5_code 2 "KeyPath$PathFinder") (hR : kRet X none q) (t0 : Int) (σ : KM) {Θ : (Int × KM) → Prop} (hT : ∀ z, Θ (z) → z = q) : kJ X 30 [lq 8, none] [ki t0, kr 8] σ (fFi_findLeast_J30 t0 σ) Θ := by
  refine gp_52 hX dFi_findLeast_30 (fun τ1 => ?_)
  refine k_iconst hX dFi_findLeast_33 ?_
  refine k_istore_n (L' := [lq 8, li 0]) hX dFi_findLeast_34 rfl (by decide) rfl ?_
  exact tFi_findLeast_L35 hX hR 0 τ1 hT
set_option maxRecDepth 100000 in
set_option maxHeartbeats 4000000 in
theorem tFi_findLeast_J14 {X : KC} {q : Int × KM} (hX : kOk X 1 prog_6_method_5_code 2 "KeyPath$PathFinder") (hR : kRet X none q) (t0 : Int) (σ : KM) {Θ : (Int × KM) → Prop} (hT : ∀ z, Θ (z) → z = q) : kJ X 14 [lq 8, none] [ki t0, kr 8] σ (fFi_findLeast_J14 t0 σ) Θ := by
  refine gp_51 hX dFi_findLeast_14 (fun τ1 => ?_)
  refine k_aload_n hX dFi_findLeast_17 rfl ?_
  refine k_aload_n hX dFi_findLeast_18 rfl ?_
  refine gf_43 hX dFi_findLeast_19 ?_
  refine k_if_ne (tgt := 29) hX dFi_findLeast_22 (by decide) ?_ ?_
  · refine k_iconst hX dFi_findLeast_29 ?_
    exact tFi_findLeast_J30 hX hR 0 τ1 hT
  · refine k_iconst hX dFi_findLeast_25 ?_
    refine k_goto (tgt := 30) hX dFi_findLeast_26 (by decide) ?_
    exact tFi_findLeast_J30 hX hR 1 τ1 hT
set_option maxRecDepth 100000 in
set_option maxHeartbeats 4000000 in
theorem sFi_findLeast (σ : KM) : kSem 1 (⟨"KeyPath$PathFinder", "findLeast", "()V"⟩ : MethodName) prog_6_method_5_code 2 none [kr 8] σ (fFi_findLeast σ) := by
  refine kSem.of (L0 := [lq 8, none]) (by decide) (Nat.le_of_ble_eq_true rfl) rfl (fun X q hX hR => ?_)
  have hT : ∀ z : Int × KM, (fun z => z = q) z → z = q := fun _ h => h
  refine k_aload_n hX dFi_findLeast_0 rfl ?_
  refine k_aload_n hX dFi_findLeast_1 rfl ?_
  refine gf_43 hX dFi_findLeast_2 ?_
  refine k_if_ne (tgt := 12) hX dFi_findLeast_5 (by decide) ?_ ?_
  · refine k_ldc (v := 1000000000) (w := 0) hX dFi_findLeast_12 tw_708 ?_
    exact tFi_findLeast_J14 hX hR 1000000000 σ hT
  · refine k_iconst hX dFi_findLeast_8 ?_
    refine k_goto (tgt := 14) hX dFi_findLeast_9 (by decide) ?_
    exact tFi_findLeast_J14 hX hR 0 σ hT
theorem cl_24 {X : KC} {d n : Nat} {cc : ByteArray} {pc : Nat} {L : List (Option KV)} {st : List KV} {σ : KM} {Z : Type} {Θ : Z → Prop} {G : Int → KM → Option Z} (hX : kOk X d cc n "KeyPath$PathFinder") (hdd : 1 + 1 ≤ d) (hst : k_cat st ≤ 8) (hd : decode cc pc = .ok (.invokevirtual 75, 3)) (h : ∀ r τ, kJ X (pc + 3) L (st) τ (G r τ) Θ) : kJ X pc L (kr 8 :: st) σ (kCall (fFi_findLeast σ) G) Θ :=
  k_callV (np := 0) (av := []) (ret := none) hX (by decide) rfl rfl rfl (sFi_findLeast σ) ⟨⟨hdd, by decide⟩, tw_727, tw_8, by decide +kernel⟩ rfl tw_724 tw_726 ts_28 hst hd h
theorem dFi_splitSegments_0 : decode prog_6_method_9_code 0 = .ok (.aload_n 0, 1) := by decide +kernel
theorem dFi_splitSegments_1 : decode prog_6_method_9_code 1 = .ok (.iconst 0, 1) := by decide +kernel
theorem dFi_splitSegments_2 : decode prog_6_method_9_code 2 = .ok (.putfield 111, 3) := by decide +kernel
theorem dFi_splitSegments_5 : decode prog_6_method_9_code 5 = .ok (.iconst 0, 1) := by decide +kernel
theorem dFi_splitSegments_6 : decode prog_6_method_9_code 6 = .ok (.istore_n 1, 1) := by decide +kernel
theorem dFi_splitSegments_7 : decode prog_6_method_9_code 7 = .ok (.iload_n 1, 1) := by decide +kernel
theorem dFi_splitSegments_8 : decode prog_6_method_9_code 8 = .ok (.aload_n 0, 1) := by decide +kernel
theorem dFi_splitSegments_9 : decode prog_6_method_9_code 9 = .ok (.getfield 53, 3) := by decide +kernel
theorem dFi_splitSegments_12 : decode prog_6_method_9_code 12 = .ok (.if_icmp .ge 57, 3) := by decide +kernel
theorem dFi_splitSegments_15 : decode prog_6_method_9_code 15 = .ok (.aload_n 0, 1) := by decide +kernel
theorem dFi_splitSegments_16 : decode prog_6_method_9_code 16 = .ok (.getfield 78, 3) := by decide +kernel
theorem dFi_splitSegments_19 : decode prog_6_method_9_code 19 = .ok (.ifCond .eq 50, 3) := by decide +kernel
theorem dFi_splitSegments_22 : decode prog_6_method_9_code 22 = .ok (.iload_n 1, 1) := by decide +kernel
theorem dFi_splitSegments_23 : decode prog_6_method_9_code 23 = .ok (.ifCond .eq 20, 3) := by decide +kernel
theorem dFi_splitSegments_26 : decode prog_6_method_9_code 26 = .ok (.aload_n 0, 1) := by decide +kernel
theorem dFi_splitSegments_27 : decode prog_6_method_9_code 27 = .ok (.getfield 31, 3) := by decide +kernel
theorem dFi_splitSegments_30 : decode prog_6_method_9_code 30 = .ok (.iload_n 1, 1) := by decide +kernel
theorem dFi_splitSegments_31 : decode prog_6_method_9_code 31 = .ok (.iaload, 1) := by decide +kernel
theorem dFi_splitSegments_32 : decode prog_6_method_9_code 32 = .ok (.aload_n 0, 1) := by decide +kernel
theorem dFi_splitSegments_33 : decode prog_6_method_9_code 33 = .ok (.getfield 31, 3) := by decide +kernel
theorem dFi_splitSegments_36 : decode prog_6_method_9_code 36 = .ok (.iload_n 1, 1) := by decide +kernel
theorem dFi_splitSegments_37 : decode prog_6_method_9_code 37 = .ok (.iconst 1, 1) := by decide +kernel
theorem dFi_splitSegments_38 : decode prog_6_method_9_code 38 = .ok (.isub, 1) := by decide +kernel
theorem dFi_splitSegments_39 : decode prog_6_method_9_code 39 = .ok (.iaload, 1) := by decide +kernel
theorem dFi_splitSegments_40 : decode prog_6_method_9_code 40 = .ok (.if_icmp .eq 23, 3) := by decide +kernel
theorem dFi_splitSegments_43 : decode prog_6_method_9_code 43 = .ok (.aload_n 0, 1) := by decide +kernel
theorem dFi_splitSegments_44 : decode prog_6_method_9_code 44 = .ok (.getfield 34, 3) := by decide +kernel
theorem dFi_splitSegments_47 : decode prog_6_method_9_code 47 = .ok (.aload_n 0, 1) := by decide +kernel
theorem dFi_splitSegments_48 : decode prog_6_method_9_code 48 = .ok (.getfield 111, 3) := by decide +kernel
theorem dFi_splitSegments_51 : decode prog_6_method_9_code 51 = .ok (.iload_n 1, 1) := by decide +kernel
theorem dFi_splitSegments_52 : decode prog_6_method_9_code 52 = .ok (.iastore, 1) := by decide +kernel
theorem dFi_splitSegments_53 : decode prog_6_method_9_code 53 = .ok (.aload_n 0, 1) := by decide +kernel
theorem dFi_splitSegments_54 : decode prog_6_method_9_code 54 = .ok (.dup, 1) := by decide +kernel
theorem dFi_splitSegments_55 : decode prog_6_method_9_code 55 = .ok (.getfield 111, 3) := by decide +kernel
theorem dFi_splitSegments_58 : decode prog_6_method_9_code 58 = .ok (.iconst 1, 1) := by decide +kernel
theorem dFi_splitSegments_59 : decode prog_6_method_9_code 59 = .ok (.iadd, 1) := by decide +kernel
theorem dFi_splitSegments_60 : decode prog_6_method_9_code 60 = .ok (.putfield 111, 3) := by decide +kernel
theorem dFi_splitSegments_63 : decode prog_6_method_9_code 63 = .ok (.iinc 1 1, 3) := by decide +kernel
theorem dFi_splitSegments_66 : decode prog_6_method_9_code 66 = .ok (.goto (-59), 3) := by decide +kernel
theorem dFi_splitSegments_69 : decode prog_6_method_9_code 69 = .ok (.return_, 1) := by decide +kernel
set_option maxRecDepth 100000 in
set_option maxHeartbeats 4000000 in
theorem tFi_splitSegments_J69 {X : KC} {q : Int × KM} (hX : kOk X 1 prog_6_method_9_code 2 "KeyPath$PathFinder") (hR : kRet X none q) (σ : KM) {Θ : (Int × KM) → Prop} (hT : ∀ z, Θ (z) → z = q) : kJ X 69 [lq 8, none] [] σ (fFi_splitSegments_J69 σ) Θ := by
  exact k_vret hX hR hT dFi_splitSegments_69
set_option maxRecDepth 100000 in
set_option maxHeartbeats 4000000 in
theorem tFi_splitSegments_J63 {X : KC} {q : Int × KM} (hX : kOk X 1 prog_6_method_9_code 2 "KeyPath$PathFinder") (hR : kRet X none q) (x1 : Int) (σ : KM) {Θ : ((Int × KM) ⊕ (Int × KM)) → Prop} (hT : ∀ z, Θ (.inr (z)) → z = q) (hb0 : ∀ s : Int × KM, Θ (.inl s) → kW X 7 [lq 8, li s.1] [] s.2) : kJ X 63 [lq 8, li x1] [] σ (fFi_splitSegments_J63 x1 σ) Θ := by
  refine k_iincL (Lf := fun y1 => [lq 8, li y1]) hX dFi_splitSegments_63 rfl (by decide) rfl (fun _ => rfl) (fun y1 => ?_)
  refine k_goto (tgt := 7) hX dFi_splitSegments_66 (by decide) ?_
  exact k_back (hb0 (y1, σ))
set_option maxRecDepth 100000 in
set_option maxHeartbeats 4000000 in
theorem tFi_splitSegments_J43 {X : KC} {q : Int × KM} (hX : kOk X 1 prog_6_method_9_code 2 "KeyPath$PathFinder") (hR : kRet X none q) (x1 : Int) (σ : KM) {Θ : ((Int × KM) ⊕ (Int × KM)) → Prop} (hT : ∀ z, Θ (.inr (z)) → z = q) (hb0 : ∀ s : Int × KM, Θ (.inl s) → kW X 7 [lq 8, li s.1] [] s.2) : kJ X 43 [lq 8, li x1] [] σ (fFi_splitSegments_J43 x1 σ) Θ := by
  refine k_aload_n hX dFi_splitSegments_43 rfl ?_
  refine gf_60 hX dFi_splitSegments_44 ?_
  refine k_aload_n hX dFi_splitSegments_47 rfl ?_
  refine gf_61 hX dFi_splitSegments_48 ?_
  refine k_iload_n hX dFi_splitSegments_51 rfl ?_
  refine k_iast hX (by decide) rfl dFi_splitSegments_52 rfl (fun τ1 => ?_)
  refine k_aload_n hX dFi_splitSegments_53 rfl ?_
  refine k_dupr hX dFi_splitSegments_54 ?_
  refine gf_61 hX dFi_splitSegments_55 ?_
  refine k_iconst hX dFi_splitSegments_58 ?_
  refine k_iadd hX dFi_splitSegments_59 ?_
  refine gp_59 hX dFi_splitSegments_60 (fun τ2 => ?_)
  exact tFi_splitSegments_J63 hX hR x1 τ2 hT hb0
set_option maxRecDepth 100000 in
set_option maxHeartbeats 4000000 in
theorem tFi_splitSegments_B7 {X : KC} {q : Int × KM} (hX : kOk X 1 prog_6_method_9_code 2 "KeyPath$PathFinder") (hR : kRet X none q) (x1 : Int) (σ : KM) {Θ : ((Int × KM) ⊕ (Int × KM)) → Prop} (hT : ∀ z, Θ (.inr (z)) → z = q) (hb0 : ∀ s : Int × KM, Θ (.inl s) → kW X 7 [lq 8, li s.1] [] s.2) : kJ X 7 [lq 8, li x1] [] σ (fFi_splitSegments_B7 x1 σ) Θ := by
  refine k_iload_n hX dFi_splitSegments_7 rfl ?_
  refine k_aload_n hX dFi_splitSegments_8 rfl ?_
  refine gf_43 hX dFi_splitSegments_9 ?_
  refine k_icmp_ge (tgt := 69) hX dFi_splitSegments_12 (by decide) ?_ ?_
  · refine k_exit ?_
    refine k_less [true, false] (L' := [lq 8, none]) rfl ?_
    exact tFi_splitSegments_J69 hX hR σ hT
  · refine k_aload_n hX dFi_splitSegments_15 rfl ?_
    refine gf_58 hX dFi_splitSegments_16 ?_
    refine k_if_eq (tgt := 69) hX dFi_splitSegments_19 (by decide) ?_ ?_
    · refine k_exit ?_
      refine k_less [true, false] (L' := [lq 8, none]) rfl ?_
      exact tFi_splitSegments_J69 hX hR σ hT
    · refine k_iload_n hX dFi_splitSegments_22 rfl ?_
      refine k_if_eq (tgt := 43) hX dFi_splitSegments_23 (by decide) ?_ ?_
      · exact tFi_splitSegments_J43 hX hR x1 σ hT hb0
      · refine k_aload_n hX dFi_splitSegments_26 rfl ?_
        refine gf_62 hX dFi_splitSegments_27 ?_
        refine k_iload_n hX dFi_splitSegments_30 rfl ?_
        refine k_iald hX (by decide) rfl dFi_splitSegments_31 rfl (fun y1 => ?_)
        refine k_aload_n hX dFi_splitSegments_32 rfl ?_
        refine gf_62 hX dFi_splitSegments_33 ?_
        refine k_iload_n hX dFi_splitSegments_36 rfl ?_
        refine k_iconst hX dFi_splitSegments_37 ?_
        refine k_isub hX dFi_splitSegments_38 ?_
        refine k_iald hX (by decide) rfl dFi_splitSegments_39 rfl (fun y2 => ?_)
        refine k_icmp_eq (tgt := 63) hX dFi_splitSegments_40 (by decide) ?_ ?_
        · exact tFi_splitSegments_J63 hX hR x1 σ hT hb0
        · exact tFi_splitSegments_J43 hX hR x1 σ hT hb0
set_option maxRecDepth 100000 in
set_option maxHeartbeats 4000000 in
theorem tFi_splitSegments_L7 {X : KC} {q : Int × KM} (hX : kOk X 1 prog_6_method_9_code 2 "KeyPath$PathFinder") (hR : kRet X none q) (x1 : Int) (σ : KM) {Θ : (Int × KM) → Prop} (hT : ∀ z, Θ (z) → z = q) : kJ X 7 [lq 8, li x1] [] σ (fFi_splitSegments_L7 x1 σ) Θ :=
  k_iter (f := fun s => fFi_splitSegments_B7 s.1 s.2) (Lf := fun s => [lq 8, li s.1]) (mf := fun s => s.2) (Θ := Θ) (fun s => tFi_splitSegments_B7 hX hR s.1 s.2 hT (fun _ h9 => h9)) kF (x1, σ)
set_option maxRecDepth 100000 in
set_option maxHeartbeats 4000000 in
theorem sFi_splitSegments (σ : KM) : kSem 1 (⟨"KeyPath$PathFinder", "splitSegments", "()V"⟩ : MethodName) prog_6_method_9_code 2 none [kr 8] σ (fFi_splitSegments σ) := by
  refine kSem.of (L0 := [lq 8, none]) (by decide) (Nat.le_of_ble_eq_true rfl) rfl (fun X q hX hR => ?_)
  have hT : ∀ z : Int × KM, (fun z => z = q) z → z = q := fun _ h => h
  refine k_aload_n hX dFi_splitSegments_0 rfl ?_
  refine k_iconst hX dFi_splitSegments_1 ?_
  refine gp_59 hX dFi_splitSegments_2 (fun τ1 => ?_)
  refine k_iconst hX dFi_splitSegments_5 ?_
  refine k_istore_n (L' := [lq 8, li 0]) hX dFi_splitSegments_6 rfl (by decide) rfl ?_
  exact tFi_splitSegments_L7 hX hR 0 τ1 hT
theorem cl_25 {X : KC} {d n : Nat} {cc : ByteArray} {pc : Nat} {L : List (Option KV)} {st : List KV} {σ : KM} {Z : Type} {Θ : Z → Prop} {G : Int → KM → Option Z} (hX : kOk X d cc n "KeyPath$PathFinder") (hdd : 1 + 1 ≤ d) (hst : k_cat st ≤ 8) (hd : decode cc pc = .ok (.invokevirtual 84, 3)) (h : ∀ r τ, kJ X (pc + 3) L (st) τ (G r τ) Θ) : kJ X pc L (kr 8 :: st) σ (kCall (fFi_splitSegments σ) G) Θ :=
  k_callV (np := 0) (av := []) (ret := none) hX (by decide) rfl rfl rfl (sFi_splitSegments σ) ⟨⟨hdd, by decide⟩, tw_743, tw_8, by decide +kernel⟩ rfl tw_740 tw_742 ts_32 hst hd h
theorem dFi_nextKey_0 : decode prog_6_method_8_code 0 = .ok (.aload_n 0, 1) := by decide +kernel
theorem dFi_nextKey_1 : decode prog_6_method_8_code 1 = .ok (.getfield 31, 3) := by decide +kernel
theorem dFi_nextKey_4 : decode prog_6_method_8_code 4 = .ok (.iload_n 1, 1) := by decide +kernel
theorem dFi_nextKey_5 : decode prog_6_method_8_code 5 = .ok (.iconst 1, 1) := by decide +kernel
theorem dFi_nextKey_6 : decode prog_6_method_8_code 6 = .ok (.isub, 1) := by decide +kernel
theorem dFi_nextKey_7 : decode prog_6_method_8_code 7 = .ok (.iaload, 1) := by decide +kernel
theorem dFi_nextKey_8 : decode prog_6_method_8_code 8 = .ok (.istore_n 2, 1) := by decide +kernel
theorem dFi_nextKey_9 : decode prog_6_method_8_code 9 = .ok (.aload_n 0, 1) := by decide +kernel
theorem dFi_nextKey_10 : decode prog_6_method_8_code 10 = .ok (.getfield 18, 3) := by decide +kernel
theorem dFi_nextKey_13 : decode prog_6_method_8_code 13 = .ok (.iload_n 1, 1) := by decide +kernel
theorem dFi_nextKey_14 : decode prog_6_method_8_code 14 = .ok (.baload, 1) := by decide +kernel
theorem dFi_nextKey_15 : decode prog_6_method_8_code 15 = .ok (.ifCond .eq 5, 3) := by decide +kernel
theorem dFi_nextKey_18 : decode prog_6_method_8_code 18 = .ok (.iload_n 2, 1) := by decide +kernel
theorem dFi_nextKey_19 : decode prog_6_method_8_code 19 = .ok (.ireturn, 1) := by decide +kernel
theorem dFi_nextKey_20 : decode prog_6_method_8_code 20 = .ok (.iload_n 1, 1) := by decide +kernel
theorem dFi_nextKey_21 : decode prog_6_method_8_code 21 = .ok (.iconst 1, 1) := by decide +kernel
theorem dFi_nextKey_22 : decode prog_6_method_8_code 22 = .ok (.isub, 1) := by decide +kernel
theorem dFi_nextKey_23 : decode prog_6_method_8_code 23 = .ok (.bipush 24, 2) := by decide +kernel
theorem dFi_nextKey_25 : decode prog_6_method_8_code 25 = .ok (.imul, 1) := by decide +kernel
theorem dFi_nextKey_26 : decode prog_6_method_8_code 26 = .ok (.iload_n 2, 1) := by decide +kernel
theorem dFi_nextKey_27 : decode prog_6_method_8_code 27 = .ok (.iadd, 1) := by decide +kernel
theorem dFi_nextKey_28 : decode prog_6_method_8_code 28 = .ok (.istore_n 3, 1) := by decide +kernel
theorem dFi_nextKey_29 : decode prog_6_method_8_code 29 = .ok (.aload_n 0, 1) := by decide +kernel
theorem dFi_nextKey_30 : decode prog_6_method_8_code 30 = .ok (.getfield 25, 3) := by decide +kernel
theorem dFi_nextKey_33 : decode prog_6_method_8_code 33 = .ok (.iload_n 3, 1) := by decide +kernel
theorem dFi_nextKey_34 : decode prog_6_method_8_code 34 = .ok (.iaload, 1) := by decide +kernel
theorem dFi_nextKey_35 : decode prog_6_method_8_code 35 = .ok (.aload_n 0, 1) := by decide +kernel
theorem dFi_nextKey_36 : decode prog_6_method_8_code 36 = .ok (.getfield 15, 3) := by decide +kernel
theorem dFi_nextKey_39 : decode prog_6_method_8_code 39 = .ok (.iload_n 3, 1) := by decide +kernel
theorem dFi_nextKey_40 : decode prog_6_method_8_code 40 = .ok (.iaload, 1) := by decide +kernel
theorem dFi_nextKey_41 : decode prog_6_method_8_code 41 = .ok (.isub, 1) := by decide +kernel
theorem dFi_nextKey_42 : decode prog_6_method_8_code 42 = .ok (.istore 4, 2) := by decide +kernel
theorem dFi_nextKey_44 : decode prog_6_method_8_code 44 = .ok (.iconst 0, 1) := by decide +kernel
theorem dFi_nextKey_45 : decode prog_6_method_8_code 45 = .ok (.istore 5, 2) := by decide +kernel
theorem dFi_nextKey_47 : decode prog_6_method_8_code 47 = .ok (.iload 5, 2) := by decide +kernel
theorem dFi_nextKey_49 : decode prog_6_method_8_code 49 = .ok (.bipush 24, 2) := by decide +kernel
theorem dFi_nextKey_51 : decode prog_6_method_8_code 51 = .ok (.if_icmp .ge 42, 3) := by decide +kernel
theorem dFi_nextKey_54 : decode prog_6_method_8_code 54 = .ok (.aload_n 0, 1) := by decide +kernel
theorem dFi_nextKey_55 : decode prog_6_method_8_code 55 = .ok (.getfield 25, 3) := by decide +kernel
theorem dFi_nextKey_58 : decode prog_6_method_8_code 58 = .ok (.iload_n 1, 1) := by decide +kernel
theorem dFi_nextKey_59 : decode prog_6_method_8_code 59 = .ok (.bipush 24, 2) := by decide +kernel
theorem dFi_nextKey_61 : decode prog_6_method_8_code 61 = .ok (.imul, 1) := by decide +kernel
theorem dFi_nextKey_62 : decode prog_6_method_8_code 62 = .ok (.iload 5, 2) := by decide +kernel
theorem dFi_nextKey_64 : decode prog_6_method_8_code 64 = .ok (.iadd, 1) := by decide +kernel
theorem dFi_nextKey_65 : decode prog_6_method_8_code 65 = .ok (.iaload, 1) := by decide +kernel
theorem dFi_nextKey_66 : decode prog_6_method_8_code 66 = .ok (.aload_n 0, 1) := by decide +kernel
theorem dFi_nextKey_67 : decode prog_6_method_8_code 67 = .ok (.getfield 22, 3) := by decide +kernel
theorem dFi_nextKey_70 : decode prog_6_method_8_code 70 = .ok (.iload_n 2, 1) := by decide +kernel
theorem dFi_nextKey_71 : decode prog_6_method_8_code 71 = .ok (.bipush 24, 2) := by decide +kernel
theorem dFi_nextKey_73 : decode prog_6_method_8_code 73 = .ok (.imul, 1) := by decide +kernel
theorem dFi_nextKey_74 : decode prog_6_method_8_code 74 = .ok (.iload 5, 2) := by decide +kernel
theorem dFi_nextKey_76 : decode prog_6_method_8_code 76 = .ok (.iadd, 1) := by decide +kernel
theorem dFi_nextKey_77 : decode prog_6_method_8_code 77 = .ok (.iaload, 1) := by decide +kernel
theorem dFi_nextKey_78 : decode prog_6_method_8_code 78 = .ok (.iadd, 1) := by decide +kernel
theorem dFi_nextKey_79 : decode prog_6_method_8_code 79 = .ok (.iload 4, 2) := by decide +kernel
theorem dFi_nextKey_81 : decode prog_6_method_8_code 81 = .ok (.if_icmp .ne 6, 3) := by decide +kernel
theorem dFi_nextKey_84 : decode prog_6_method_8_code 84 = .ok (.iload 5, 2) := by decide +kernel
theorem dFi_nextKey_86 : decode prog_6_method_8_code 86 = .ok (.ireturn, 1) := by decide +kernel
theorem dFi_nextKey_87 : decode prog_6_method_8_code 87 = .ok (.iinc 5 1, 3) := by decide +kernel
theorem dFi_nextKey_90 : decode prog_6_method_8_code 90 = .ok (.goto (-43), 3) := by decide +kernel
theorem dFi_nextKey_93 : decode prog_6_method_8_code 93 = .ok (.iload_n 2, 1) := by decide +kernel
theorem dFi_nextKey_94 : decode prog_6_method_8_code 94 = .ok (.ireturn, 1) := by decide +kernel
set_option maxRecDepth 100000 in
set_option maxHeartbeats 4000000 in
theorem tFi_nextKey_J93 {X : KC} {q : Int × KM} (hX : kOk X 1 prog_6_method_8_code 6 "KeyPath$PathFinder") (hR : kRet X (some .int) q) (x2 : Int) (σ : KM) {Θ : (Int × KM) → Prop} (hT : ∀ z, Θ (z) → z = q) : kJ X 93 [lq 8, none, li x2, none, none, none] [] σ (fFi_nextKey_J93 x2 σ) Θ := by
  refine k_iload_n hX dFi_nextKey_93 rfl ?_
  exact k_iret hX hR hT dFi_nextKey_94
set_option maxRecDepth 100000 in
set_option maxHeartbeats 4000000 in
theorem tFi_nextKey_J84 {X : KC} {q : Int × KM} (hX : kOk X 1 prog_6_method_8_code 6 "KeyPath$PathFinder") (hR : kRet X (some .int) q) (x5 : Int) (σ : KM) {Θ : (Int × KM) → Prop} (hT : ∀ z, Θ (z) → z = q) : kJ X 84 [lq 8, none, none, none, none, li x5] [] σ (fFi_nextKey_J84 x5 σ) Θ := by
  refine k_iload hX dFi_nextKey_84 rfl ?_
  exact k_iret hX hR hT dFi_nextKey_86
set_option maxRecDepth 100000 in
set_option maxHeartbeats 4000000 in
theorem tFi_nextKey_B47 {X : KC} {q : Int × KM} (hX : kOk X 1 prog_6_method_8_code 6 "KeyPath$PathFinder") (hR : kRet X (some .int) q) (x1 x2 x4 x5 : Int) (σ : KM) {Θ : ((Int × KM) ⊕ (Int × KM)) → Prop} (hT : ∀ z, Θ (.inr (z)) → z = q) (hb0 : ∀ s : Int × KM, Θ (.inl s) → kW X 47 [lq 8, li x1, li x2, none, li x4, li s.1] [] s.2) : kJ X 47 [lq 8, li x1, li x2, none, li x4, li x5] [] σ (fFi_nextKey_B47 x1 x2 x4 x5 σ) Θ := by
  refine k_iload hX dFi_nextKey_47 rfl ?_
  refine k_bipush hX dFi_nextKey_49 (by decide) ?_
  refine k_icmp_ge (tgt := 93) hX dFi_nextKey_51 (by decide) ?_ ?_
  · refine k_exit ?_
    refine k_less [true, false, true, true, false, false] (L' := [lq 8, none, li x2, none, none, none]) rfl ?_
    exact tFi_nextKey_J93 hX hR x2 σ hT
  · refine k_aload_n hX dFi_nextKey_54 rfl ?_
    refine gf_55 hX dFi_nextKey_55 ?_
    refine k_iload_n hX dFi_nextKey_58 rfl ?_
    refine k_bipush hX dFi_nextKey_59 (by decide) ?_
    refine k_imul hX dFi_nextKey_61 ?_
    refine k_iload hX dFi_nextKey_62 rfl ?_
    refine k_iadd hX dFi_nextKey_64 ?_
    refine k_iald hX (by decide) rfl dFi_nextKey_65 rfl (fun y1 => ?_)
    refine k_aload_n hX dFi_nextKey_66 rfl ?_
    refine gf_63 hX dFi_nextKey_67 ?_
    refine k_iload_n hX dFi_nextKey_70 rfl ?_
    refine k_bipush hX dFi_nextKey_71 (by decide) ?_
    refine k_imul hX dFi_nextKey_73 ?_
    refine k_iload hX dFi_nextKey_74 rfl ?_
    refine k_iadd hX dFi_nextKey_76 ?_
    refine k_iald hX (by decide) rfl dFi_nextKey_77 rfl (fun y2 => ?_)
    refine k_iadd hX dFi_nextKey_78 ?_
    refine k_iload hX dFi_nextKey_79 rfl ?_
    refine k_icmp_ne (tgt := 87) hX dFi_nextKey_81 (by decide) ?_ ?_
    · refine k_iincL (Lf := fun y3 => [lq 8, li x1, li x2, none, li x4, li y3]) hX dFi_nextKey_87 rfl (by decide) rfl (fun _ => rfl) (fun y3 => ?_)
      refine k_goto (tgt := 47) hX dFi_nextKey_90 (by decide) ?_
      exact k_back (hb0 (y3, σ))
    · refine k_exit ?_
      refine k_less [true, false, false, true, false, true] (L' := [lq 8, none, none, none, none, li x5]) rfl ?_
      exact tFi_nextKey_J84 hX hR x5 σ hT
set_option maxRecDepth 100000 in
set_option maxHeartbeats 4000000 in
theorem tFi_nextKey_L47 {X : KC} {q : Int × KM} (hX : kOk X 1 prog_6_method_8_code 6 "KeyPath$PathFinder") (hR : kRet X (some .int) q) (x1 x2 x4 x5 : Int) (σ : KM) {Θ : (Int × KM) → Prop} (hT : ∀ z, Θ (z) → z = q) : kJ X 47 [lq 8, li x1, li x2, none, li x4, li x5] [] σ (fFi_nextKey_L47 x1 x2 x4 x5 σ) Θ :=
  k_iter (f := fun s => fFi_nextKey_B47 x1 x2 x4 s.1 s.2) (Lf := fun s => [lq 8, li x1, li x2, none, li x4, li s.1]) (mf := fun s => s.2) (Θ := Θ) (fun s => tFi_nextKey_B47 hX hR x1 x2 x4 s.1 s.2 hT (fun _ h9 => h9)) kF (x5, σ)
set_option maxRecDepth 100000 in
set_option maxHeartbeats 4000000 in
theorem sFi_nextKey (x1 : Int) (σ : KM) : kSem 1 (⟨"KeyPath$PathFinder", "nextKey", "(I)I"⟩ : MethodName) prog_6_method_8_code 6 (some .int) [kr 8, ki x1] σ (fFi_nextKey x1 σ) := by
  refine kSem.of (L0 := [lq 8, li x1, none, none, none, none]) (by decide) (Nat.le_of_ble_eq_true rfl) rfl (fun X q hX hR => ?_)
  have hT : ∀ z : Int × KM, (fun z => z = q) z → z = q := fun _ h => h
  refine k_aload_n hX dFi_nextKey_0 rfl ?_
  refine gf_62 hX dFi_nextKey_1 ?_
  refine k_iload_n hX dFi_nextKey_4 rfl ?_
  refine k_iconst hX dFi_nextKey_5 ?_
  refine k_isub hX dFi_nextKey_6 ?_
  refine k_iald hX (by decide) rfl dFi_nextKey_7 rfl (fun y1 => ?_)
  refine k_istore_n (L' := [lq 8, li x1, li y1, none, none, none]) hX dFi_nextKey_8 rfl (by decide) rfl ?_
  refine k_aload_n hX dFi_nextKey_9 rfl ?_
  refine gf_44 hX dFi_nextKey_10 ?_
  refine k_iload_n hX dFi_nextKey_13 rfl ?_
  refine k_zald hX (by decide) rfl dFi_nextKey_14 rfl (fun y2 => ?_)
  refine k_if_eq (tgt := 20) hX dFi_nextKey_15 (by decide) ?_ ?_
  · refine k_iload_n hX dFi_nextKey_20 rfl ?_
    refine k_iconst hX dFi_nextKey_21 ?_
    refine k_isub hX dFi_nextKey_22 ?_
    refine k_bipush hX dFi_nextKey_23 (by decide) ?_
    refine k_imul hX dFi_nextKey_25 ?_
    refine k_iload_n hX dFi_nextKey_26 rfl ?_
    refine k_iadd hX dFi_nextKey_27 ?_
    refine k_istoreL_n (Lf := fun y3 => [lq 8, li x1, li y1, li y3, none, none]) hX dFi_nextKey_28 rfl (by decide) (fun _ => rfl) (fun y3 => ?_)
    refine k_aload_n hX dFi_nextKey_29 rfl ?_
    refine gf_55 hX dFi_nextKey_30 ?_
    refine k_iload_n hX dFi_nextKey_33 rfl ?_
    refine k_iald hX (by decide) rfl dFi_nextKey_34 rfl (fun y4 => ?_)
    refine k_aload_n hX dFi_nextKey_35 rfl ?_
    refine gf_46 hX dFi_nextKey_36 ?_
    refine k_iload_n hX dFi_nextKey_39 rfl ?_
    refine k_iald hX (by decide) rfl dFi_nextKey_40 rfl (fun y5 => ?_)
    refine k_isub hX dFi_nextKey_41 ?_
    refine k_istoreL (Lf := fun y6 => [lq 8, li x1, li y1, li y3, li y6, none]) hX dFi_nextKey_42 rfl (by decide) (fun _ => rfl) (fun y6 => ?_)
    refine k_iconst hX dFi_nextKey_44 ?_
    refine k_istore (L' := [lq 8, li x1, li y1, li y3, li y6, li 0]) hX dFi_nextKey_45 rfl (by decide) rfl ?_
    refine k_less [true, true, true, false, true, true] (L' := [lq 8, li x1, li y1, none, li y6, li 0]) rfl ?_
    exact tFi_nextKey_L47 hX hR x1 y1 y6 0 σ hT
  · refine k_iload_n hX dFi_nextKey_18 rfl ?_
    exact k_iret hX hR hT dFi_nextKey_19
theorem cl_26 {X : KC} {d n : Nat} {cc : ByteArray} {pc : Nat} {L : List (Option KV)} {st : List KV} {σ : KM} {Z : Type} {Θ : Z → Prop} {G : Int → KM → Option Z} {x1 : Int} (hX : kOk X d cc n "KeyPath$PathFinder") (hdd : 1 + 1 ≤ d) (hst : k_cat st ≤ 8) (hd : decode cc pc = .ok (.invokevirtual 107, 3)) (h : ∀ r τ, kJ X (pc + 3) L (ki r :: st) τ (G r τ) Θ) : kJ X pc L (ki x1 :: kr 8 :: st) σ (kCall (fFi_nextKey x1 σ) G) Θ :=
  k_callV (np := 1) (av := [ki x1]) (ret := (some .int)) hX (by decide) rfl rfl rfl (sFi_nextKey _ σ) ⟨⟨hdd, by decide⟩, tw_739, tw_8, by decide +kernel⟩ rfl tw_736 tw_738 ts_31 hst hd h
