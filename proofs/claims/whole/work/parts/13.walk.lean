theorem dTR_append_0 : decode prog_8_method_2_code 0 = .ok (.bipush 24, 2) := by decide +kernel
theorem dTR_append_2 : decode prog_8_method_2_code 2 = .ok (.istore_n 2, 1) := by decide +kernel
theorem dTR_append_3 : decode prog_8_method_2_code 3 = .ok (.iload_n 2, 1) := by decide +kernel
theorem dTR_append_4 : decode prog_8_method_2_code 4 = .ok (.ifCond .lt 45, 3) := by decide +kernel
theorem dTR_append_7 : decode prog_8_method_2_code 7 = .ok (.aload_n 0, 1) := by decide +kernel
theorem dTR_append_8 : decode prog_8_method_2_code 8 = .ok (.getfield 29, 3) := by decide +kernel
theorem dTR_append_11 : decode prog_8_method_2_code 11 = .ok (.sipush 700, 3) := by decide +kernel
theorem dTR_append_14 : decode prog_8_method_2_code 14 = .ok (.if_icmp .ge 35, 3) := by decide +kernel
theorem dTR_append_17 : decode prog_8_method_2_code 17 = .ok (.aload_n 0, 1) := by decide +kernel
theorem dTR_append_18 : decode prog_8_method_2_code 18 = .ok (.getfield 9, 3) := by decide +kernel
theorem dTR_append_21 : decode prog_8_method_2_code 21 = .ok (.aload_n 0, 1) := by decide +kernel
theorem dTR_append_22 : decode prog_8_method_2_code 22 = .ok (.getfield 29, 3) := by decide +kernel
theorem dTR_append_25 : decode prog_8_method_2_code 25 = .ok (.iload_n 1, 1) := by decide +kernel
theorem dTR_append_26 : decode prog_8_method_2_code 26 = .ok (.iload_n 2, 1) := by decide +kernel
theorem dTR_append_27 : decode prog_8_method_2_code 27 = .ok (.iushr, 1) := by decide +kernel
theorem dTR_append_28 : decode prog_8_method_2_code 28 = .ok (.sipush 255, 3) := by decide +kernel
theorem dTR_append_31 : decode prog_8_method_2_code 31 = .ok (.iand, 1) := by decide +kernel
theorem dTR_append_32 : decode prog_8_method_2_code 32 = .ok (.iastore, 1) := by decide +kernel
theorem dTR_append_33 : decode prog_8_method_2_code 33 = .ok (.aload_n 0, 1) := by decide +kernel
theorem dTR_append_34 : decode prog_8_method_2_code 34 = .ok (.dup, 1) := by decide +kernel
theorem dTR_append_35 : decode prog_8_method_2_code 35 = .ok (.getfield 29, 3) := by decide +kernel
theorem dTR_append_38 : decode prog_8_method_2_code 38 = .ok (.iconst 1, 1) := by decide +kernel
theorem dTR_append_39 : decode prog_8_method_2_code 39 = .ok (.iadd, 1) := by decide +kernel
theorem dTR_append_40 : decode prog_8_method_2_code 40 = .ok (.putfield 29, 3) := by decide +kernel
theorem dTR_append_43 : decode prog_8_method_2_code 43 = .ok (.iinc 2 (-8), 3) := by decide +kernel
theorem dTR_append_46 : decode prog_8_method_2_code 46 = .ok (.goto (-43), 3) := by decide +kernel
theorem dTR_append_49 : decode prog_8_method_2_code 49 = .ok (.return_, 1) := by decide +kernel
set_option maxRecDepth 100000 in
set_option maxHeartbeats 4000000 in
theorem tTR_append_J49 {X : KC} {q : Int × KM} (hX : kOk X 1 prog_8_method_2_code 3 "KeyPath$TextReader") (hR : kRet X none q) (σ : KM) {Θ : (Int × KM) → Prop} (hT : ∀ z, Θ (z) → z = q) : kJ X 49 [lq 1, none, none] [] σ (fTR_append_J49 σ) Θ := by
  exact k_vret hX hR hT dTR_append_49
set_option maxRecDepth 100000 in
set_option maxHeartbeats 4000000 in
theorem tTR_append_B3 {X : KC} {q : Int × KM} (hX : kOk X 1 prog_8_method_2_code 3 "KeyPath$TextReader") (hR : kRet X none q) (x1 x2 : Int) (σ : KM) {Θ : ((Int × KM) ⊕ (Int × KM)) → Prop} (hT : ∀ z, Θ (.inr (z)) → z = q) (hb0 : ∀ s : Int × KM, Θ (.inl s) → kW X 3 [lq 1, li x1, li s.1] [] s.2) : kJ X 3 [lq 1, li x1, li x2] [] σ (fTR_append_B3 x1 x2 σ) Θ := by
  refine k_iload_n hX dTR_append_3 rfl ?_
  refine k_if_lt (tgt := 49) hX dTR_append_4 (by decide) ?_ ?_
  · refine k_exit ?_
    refine k_less [true, false, false] (L' := [lq 1, none, none]) rfl ?_
    exact tTR_append_J49 hX hR σ hT
  · refine k_aload_n hX dTR_append_7 rfl ?_
    refine gf_101 hX dTR_append_8 ?_
    refine k_sipush hX dTR_append_11 (by decide) ?_
    refine k_icmp_ge (tgt := 49) hX dTR_append_14 (by decide) ?_ ?_
    · refine k_exit ?_
      refine k_less [true, false, false] (L' := [lq 1, none, none]) rfl ?_
      exact tTR_append_J49 hX hR σ hT
    · refine k_aload_n hX dTR_append_17 rfl ?_
      refine gf_102 hX dTR_append_18 ?_
      refine k_aload_n hX dTR_append_21 rfl ?_
      refine gf_101 hX dTR_append_22 ?_
      refine k_iload_n hX dTR_append_25 rfl ?_
      refine k_iload_n hX dTR_append_26 rfl ?_
      refine k_iushr hX dTR_append_27 (fun y1 => ?_)
      refine k_sipush hX dTR_append_28 (by decide) ?_
      refine k_iand hX dTR_append_31 (fun y2 => ?_)
      refine k_iast hX (by decide) rfl dTR_append_32 rfl (fun τ3 => ?_)
      refine k_aload_n hX dTR_append_33 rfl ?_
      refine k_dupr hX dTR_append_34 ?_
      refine gf_101 hX dTR_append_35 ?_
      refine k_iconst hX dTR_append_38 ?_
      refine k_iadd hX dTR_append_39 ?_
      refine gp_103 hX dTR_append_40 (fun τ4 => ?_)
      refine k_iincL (Lf := fun y5 => [lq 1, li x1, li y5]) hX dTR_append_43 rfl (by decide) rfl (fun _ => rfl) (fun y5 => ?_)
      refine k_goto (tgt := 3) hX dTR_append_46 (by decide) ?_
      exact k_back (hb0 (y5, τ4))
set_option maxRecDepth 100000 in
set_option maxHeartbeats 4000000 in
theorem tTR_append_L3 {X : KC} {q : Int × KM} (hX : kOk X 1 prog_8_method_2_code 3 "KeyPath$TextReader") (hR : kRet X none q) (x1 x2 : Int) (σ : KM) {Θ : (Int × KM) → Prop} (hT : ∀ z, Θ (z) → z = q) : kJ X 3 [lq 1, li x1, li x2] [] σ (fTR_append_L3 x1 x2 σ) Θ :=
  k_iter (f := fun s => fTR_append_B3 x1 s.1 s.2) (Lf := fun s => [lq 1, li x1, li s.1]) (mf := fun s => s.2) (Θ := Θ) (fun s => tTR_append_B3 hX hR x1 s.1 s.2 hT (fun _ h9 => h9)) kF (x2, σ)
set_option maxRecDepth 100000 in
set_option maxHeartbeats 4000000 in
theorem sTR_append (x1 : Int) (σ : KM) : kSem 1 (⟨"KeyPath$TextReader", "append", "(I)V"⟩ : MethodName) prog_8_method_2_code 3 none [kr 1, ki x1] σ (fTR_append x1 σ) := by
  refine kSem.of (L0 := [lq 1, li x1, none]) (by decide) (Nat.le_of_ble_eq_true rfl) rfl (fun X q hX hR => ?_)
  have hT : ∀ z : Int × KM, (fun z => z = q) z → z = q := fun _ h => h
  refine k_bipush hX dTR_append_0 (by decide) ?_
  refine k_istore_n (L' := [lq 1, li x1, li 24]) hX dTR_append_2 rfl (by decide) rfl ?_
  exact tTR_append_L3 hX hR x1 24 σ hT
theorem cl_51 {X : KC} {d n : Nat} {cc : ByteArray} {pc : Nat} {L : List (Option KV)} {st : List KV} {σ : KM} {Z : Type} {Θ : Z → Prop} {G : Int → KM → Option Z} {x1 : Int} (hX : kOk X d cc n "KeyPath") (hdd : 1 + 1 ≤ d) (hst : k_cat st ≤ 8) (hd : decode cc pc = .ok (.invokevirtual 69, 3)) (h : ∀ r τ, kJ X (pc + 3) L (st) τ (G r τ) Θ) : kJ X pc L (ki x1 :: kr 1 :: st) σ (kCall (fTR_append x1 σ) G) Θ :=
  k_callV (np := 1) (av := [ki x1]) (ret := none) hX (by decide) rfl rfl rfl (sTR_append _ σ) ⟨⟨hdd, by decide⟩, tw_369, tw_2, by decide +kernel⟩ rfl tw_366 tw_367 tw_368 hst hd h
theorem dP_feed_0 : decode prog_1_method_2_code 0 = .ok (.aload_n 0, 1) := by decide +kernel
theorem dP_feed_1 : decode prog_1_method_2_code 1 = .ok (.getfield 12, 3) := by decide +kernel
theorem dP_feed_4 : decode prog_1_method_2_code 4 = .ok (.getfield 65, 3) := by decide +kernel
theorem dP_feed_7 : decode prog_1_method_2_code 7 = .ok (.sipush 680, 3) := by decide +kernel
theorem dP_feed_10 : decode prog_1_method_2_code 10 = .ok (.if_icmp .le 6, 3) := by decide +kernel
theorem dP_feed_13 : decode prog_1_method_2_code 13 = .ok (.bipush (-4), 2) := by decide +kernel
theorem dP_feed_15 : decode prog_1_method_2_code 15 = .ok (.ireturn, 1) := by decide +kernel
theorem dP_feed_16 : decode prog_1_method_2_code 16 = .ok (.aload_n 0, 1) := by decide +kernel
theorem dP_feed_17 : decode prog_1_method_2_code 17 = .ok (.getfield 12, 3) := by decide +kernel
theorem dP_feed_20 : decode prog_1_method_2_code 20 = .ok (.iload_n 1, 1) := by decide +kernel
theorem dP_feed_21 : decode prog_1_method_2_code 21 = .ok (.invokevirtual 69, 3) := by decide +kernel
theorem dP_feed_24 : decode prog_1_method_2_code 24 = .ok (.aload_n 0, 1) := by decide +kernel
theorem dP_feed_25 : decode prog_1_method_2_code 25 = .ok (.getfield 12, 3) := by decide +kernel
theorem dP_feed_28 : decode prog_1_method_2_code 28 = .ok (.iload_n 2, 1) := by decide +kernel
theorem dP_feed_29 : decode prog_1_method_2_code 29 = .ok (.invokevirtual 69, 3) := by decide +kernel
theorem dP_feed_32 : decode prog_1_method_2_code 32 = .ok (.aload_n 0, 1) := by decide +kernel
theorem dP_feed_33 : decode prog_1_method_2_code 33 = .ok (.getfield 12, 3) := by decide +kernel
theorem dP_feed_36 : decode prog_1_method_2_code 36 = .ok (.iload_n 3, 1) := by decide +kernel
theorem dP_feed_37 : decode prog_1_method_2_code 37 = .ok (.invokevirtual 69, 3) := by decide +kernel
theorem dP_feed_40 : decode prog_1_method_2_code 40 = .ok (.aload_n 0, 1) := by decide +kernel
theorem dP_feed_41 : decode prog_1_method_2_code 41 = .ok (.getfield 12, 3) := by decide +kernel
theorem dP_feed_44 : decode prog_1_method_2_code 44 = .ok (.iload 4, 2) := by decide +kernel
theorem dP_feed_46 : decode prog_1_method_2_code 46 = .ok (.invokevirtual 69, 3) := by decide +kernel
theorem dP_feed_49 : decode prog_1_method_2_code 49 = .ok (.aload_n 0, 1) := by decide +kernel
theorem dP_feed_50 : decode prog_1_method_2_code 50 = .ok (.getfield 12, 3) := by decide +kernel
theorem dP_feed_53 : decode prog_1_method_2_code 53 = .ok (.iload 5, 2) := by decide +kernel
theorem dP_feed_55 : decode prog_1_method_2_code 55 = .ok (.invokevirtual 69, 3) := by decide +kernel
theorem dP_feed_58 : decode prog_1_method_2_code 58 = .ok (.aload_n 0, 1) := by decide +kernel
theorem dP_feed_59 : decode prog_1_method_2_code 59 = .ok (.getfield 12, 3) := by decide +kernel
theorem dP_feed_62 : decode prog_1_method_2_code 62 = .ok (.getfield 65, 3) := by decide +kernel
theorem dP_feed_65 : decode prog_1_method_2_code 65 = .ok (.ireturn, 1) := by decide +kernel
set_option maxRecDepth 100000 in
set_option maxHeartbeats 4000000 in
theorem sP_feed (x1 x2 x3 x4 x5 : Int) (σ : KM) : kSem 2 (⟨"KeyPath", "feed", "(IIIII)I"⟩ : MethodName) prog_1_method_2_code 6 (some .int) [kr 0, ki x1, ki x2, ki x3, ki x4, ki x5] σ (fP_feed x1 x2 x3 x4 x5 σ) := by
  refine kSem.of (L0 := [lq 0, li x1, li x2, li x3, li x4, li x5]) (by decide) (Nat.le_of_ble_eq_true rfl) rfl (fun X q hX hR => ?_)
  have hT : ∀ z : Int × KM, (fun z => z = q) z → z = q := fun _ h => h
  refine k_aload_n hX dP_feed_0 rfl ?_
  refine gf_77 hX dP_feed_1 ?_
  refine gf_78 hX dP_feed_4 ?_
  refine k_sipush hX dP_feed_7 (by decide) ?_
  refine k_icmp_le (tgt := 16) hX dP_feed_10 (by decide) ?_ ?_
  · refine k_aload_n hX dP_feed_16 rfl ?_
    refine gf_77 hX dP_feed_17 ?_
    refine k_iload_n hX dP_feed_20 rfl ?_
    refine cl_51 hX (by decide) (Nat.le_of_ble_eq_true rfl) dP_feed_21 (fun _ τ1 => ?_)
    refine k_aload_n hX dP_feed_24 rfl ?_
    refine gf_77 hX dP_feed_25 ?_
    refine k_iload_n hX dP_feed_28 rfl ?_
    refine cl_51 hX (by decide) (Nat.le_of_ble_eq_true rfl) dP_feed_29 (fun _ τ2 => ?_)
    refine k_aload_n hX dP_feed_32 rfl ?_
    refine gf_77 hX dP_feed_33 ?_
    refine k_iload_n hX dP_feed_36 rfl ?_
    refine cl_51 hX (by decide) (Nat.le_of_ble_eq_true rfl) dP_feed_37 (fun _ τ3 => ?_)
    refine k_aload_n hX dP_feed_40 rfl ?_
    refine gf_77 hX dP_feed_41 ?_
    refine k_iload hX dP_feed_44 rfl ?_
    refine cl_51 hX (by decide) (Nat.le_of_ble_eq_true rfl) dP_feed_46 (fun _ τ4 => ?_)
    refine k_aload_n hX dP_feed_49 rfl ?_
    refine gf_77 hX dP_feed_50 ?_
    refine k_iload hX dP_feed_53 rfl ?_
    refine cl_51 hX (by decide) (Nat.le_of_ble_eq_true rfl) dP_feed_55 (fun _ τ5 => ?_)
    refine k_aload_n hX dP_feed_58 rfl ?_
    refine gf_77 hX dP_feed_59 ?_
    refine gf_78 hX dP_feed_62 ?_
    exact k_iret hX hR hT dP_feed_65
  · refine k_bipush hX dP_feed_13 (by decide) ?_
    exact k_iret hX hR hT dP_feed_15
theorem dFi_isFirm_0 : decode prog_6_method_14_code 0 = .ok (.aload_n 0, 1) := by decide +kernel
theorem dFi_isFirm_1 : decode prog_6_method_14_code 1 = .ok (.aload_n 1, 1) := by decide +kernel
theorem dFi_isFirm_2 : decode prog_6_method_14_code 2 = .ok (.iload_n 2, 1) := by decide +kernel
theorem dFi_isFirm_3 : decode prog_6_method_14_code 3 = .ok (.invokevirtual 130, 3) := by decide +kernel
theorem dFi_isFirm_6 : decode prog_6_method_14_code 6 = .ok (.aload_n 0, 1) := by decide +kernel
theorem dFi_isFirm_7 : decode prog_6_method_14_code 7 = .ok (.getfield 111, 3) := by decide +kernel
theorem dFi_isFirm_10 : decode prog_6_method_14_code 10 = .ok (.iconst 2, 1) := by decide +kernel
theorem dFi_isFirm_11 : decode prog_6_method_14_code 11 = .ok (.if_icmp .ge 7, 3) := by decide +kernel
theorem dFi_isFirm_14 : decode prog_6_method_14_code 14 = .ok (.iconst 1, 1) := by decide +kernel
theorem dFi_isFirm_15 : decode prog_6_method_14_code 15 = .ok (.goto 4, 3) := by decide +kernel
theorem dFi_isFirm_18 : decode prog_6_method_14_code 18 = .ok (.iconst 0, 1) := by decide +kernel
theorem dFi_isFirm_19 : decode prog_6_method_14_code 19 = .ok (.ireturn, 1) := by decide +kernel
set_option maxRecDepth 100000 in
set_option maxHeartbeats 4000000 in
theorem tFi_isFirm_J19 {X : KC} {q : Int × KM} (hX : kOk X 4 prog_6_method_14_code 3 "KeyPath$PathFinder") (hR : kRet X (some .boolean) q) (t0 : Int) (σ : KM) {Θ : (Int × KM) → Prop} (hT : ∀ z, Θ (z) → z = q) : kJ X 19 [lq 8, lq 7, none] [ki t0] σ (fFi_isFirm_J19 t0 σ) Θ := by
  exact k_zret hX hR hT dFi_isFirm_19
set_option maxRecDepth 100000 in
set_option maxHeartbeats 4000000 in
theorem sFi_isFirm (x2 : Int) (σ : KM) : kSem 4 (⟨"KeyPath$PathFinder", "isFirm", "(LKeyPath$Net;I)Z"⟩ : MethodName) prog_6_method_14_code 3 (some .boolean) [kr 8, kr 7, ki x2] σ (fFi_isFirm x2 σ) := by
  refine kSem.of (L0 := [lq 8, lq 7, li x2]) (by decide) (Nat.le_of_ble_eq_true rfl) rfl (fun X q hX hR => ?_)
  have hT : ∀ z : Int × KM, (fun z => z = q) z → z = q := fun _ h => h
  refine k_aload_n hX dFi_isFirm_0 rfl ?_
  refine k_aload_n hX dFi_isFirm_1 rfl ?_
  refine k_iload_n hX dFi_isFirm_2 rfl ?_
  refine cl_52 hX (by decide) (Nat.le_of_ble_eq_true rfl) dFi_isFirm_3 (fun _ τ1 => ?_)
  refine k_aload_n hX dFi_isFirm_6 rfl ?_
  refine gf_61 hX dFi_isFirm_7 ?_
  refine k_iconst hX dFi_isFirm_10 ?_
  refine k_icmp_ge (tgt := 18) hX dFi_isFirm_11 (by decide) ?_ ?_
  · refine k_iconst hX dFi_isFirm_18 ?_
    refine k_less [true, true, false] (L' := [lq 8, lq 7, none]) rfl ?_
    exact tFi_isFirm_J19 hX hR 0 τ1 hT
  · refine k_iconst hX dFi_isFirm_14 ?_
    refine k_goto (tgt := 19) hX dFi_isFirm_15 (by decide) ?_
    refine k_less [true, true, false] (L' := [lq 8, lq 7, none]) rfl ?_
    exact tFi_isFirm_J19 hX hR 1 τ1 hT
theorem cl_53 {X : KC} {d n : Nat} {cc : ByteArray} {pc : Nat} {L : List (Option KV)} {st : List KV} {σ : KM} {Z : Type} {Θ : Z → Prop} {G : Int → KM → Option Z} {x2 : Int} (hX : kOk X d cc n "KeyPath$PathFinder") (hdd : 4 + 1 ≤ d) (hst : k_cat st ≤ 8) (hd : decode cc pc = .ok (.invokevirtual 134, 3)) (h : ∀ r τ, kJ X (pc + 3) L (ki r :: st) τ (G r τ) Θ) : kJ X pc L (ki x2 :: kr 7 :: kr 8 :: st) σ (kCall (fFi_isFirm x2 σ) G) Θ :=
  k_callV (np := 2) (av := [kr 7, ki x2]) (ret := (some .boolean)) hX (by decide) rfl rfl rfl (sFi_isFirm _ σ) ⟨⟨hdd, by decide⟩, tw_842, tw_8, by decide +kernel⟩ rfl tw_839 tw_841 ts_36 hst hd h
theorem dFi_searchFirm_0 : decode prog_6_method_13_code 0 = .ok (.aload_n 0, 1) := by decide +kernel
theorem dFi_searchFirm_1 : decode prog_6_method_13_code 1 = .ok (.aload_n 1, 1) := by decide +kernel
theorem dFi_searchFirm_2 : decode prog_6_method_13_code 2 = .ok (.bipush 100, 2) := by decide +kernel
theorem dFi_searchFirm_4 : decode prog_6_method_13_code 4 = .ok (.invokevirtual 134, 3) := by decide +kernel
theorem dFi_searchFirm_7 : decode prog_6_method_13_code 7 = .ok (.ifCond .ne 5, 3) := by decide +kernel
theorem dFi_searchFirm_10 : decode prog_6_method_13_code 10 = .ok (.iconst (-1), 1) := by decide +kernel
theorem dFi_searchFirm_11 : decode prog_6_method_13_code 11 = .ok (.ireturn, 1) := by decide +kernel
theorem dFi_searchFirm_12 : decode prog_6_method_13_code 12 = .ok (.iconst 0, 1) := by decide +kernel
theorem dFi_searchFirm_13 : decode prog_6_method_13_code 13 = .ok (.istore_n 2, 1) := by decide +kernel
theorem dFi_searchFirm_14 : decode prog_6_method_13_code 14 = .ok (.bipush 100, 2) := by decide +kernel
theorem dFi_searchFirm_16 : decode prog_6_method_13_code 16 = .ok (.istore_n 3, 1) := by decide +kernel
theorem dFi_searchFirm_17 : decode prog_6_method_13_code 17 = .ok (.iconst 0, 1) := by decide +kernel
theorem dFi_searchFirm_18 : decode prog_6_method_13_code 18 = .ok (.istore 4, 2) := by decide +kernel
theorem dFi_searchFirm_20 : decode prog_6_method_13_code 20 = .ok (.iload 4, 2) := by decide +kernel
theorem dFi_searchFirm_22 : decode prog_6_method_13_code 22 = .ok (.bipush 8, 2) := by decide +kernel
theorem dFi_searchFirm_24 : decode prog_6_method_13_code 24 = .ok (.if_icmp .ge 42, 3) := by decide +kernel
theorem dFi_searchFirm_27 : decode prog_6_method_13_code 27 = .ok (.iload_n 2, 1) := by decide +kernel
theorem dFi_searchFirm_28 : decode prog_6_method_13_code 28 = .ok (.iload_n 3, 1) := by decide +kernel
theorem dFi_searchFirm_29 : decode prog_6_method_13_code 29 = .ok (.if_icmp .ge 37, 3) := by decide +kernel
theorem dFi_searchFirm_32 : decode prog_6_method_13_code 32 = .ok (.iload_n 2, 1) := by decide +kernel
theorem dFi_searchFirm_33 : decode prog_6_method_13_code 33 = .ok (.iload_n 3, 1) := by decide +kernel
theorem dFi_searchFirm_34 : decode prog_6_method_13_code 34 = .ok (.iadd, 1) := by decide +kernel
theorem dFi_searchFirm_35 : decode prog_6_method_13_code 35 = .ok (.iconst 2, 1) := by decide +kernel
theorem dFi_searchFirm_36 : decode prog_6_method_13_code 36 = .ok (.idiv, 1) := by decide +kernel
theorem dFi_searchFirm_37 : decode prog_6_method_13_code 37 = .ok (.istore 5, 2) := by decide +kernel
theorem dFi_searchFirm_39 : decode prog_6_method_13_code 39 = .ok (.aload_n 0, 1) := by decide +kernel
theorem dFi_searchFirm_40 : decode prog_6_method_13_code 40 = .ok (.aload_n 1, 1) := by decide +kernel
theorem dFi_searchFirm_41 : decode prog_6_method_13_code 41 = .ok (.iload 5, 2) := by decide +kernel
theorem dFi_searchFirm_43 : decode prog_6_method_13_code 43 = .ok (.invokevirtual 134, 3) := by decide +kernel
theorem dFi_searchFirm_46 : decode prog_6_method_13_code 46 = .ok (.ifCond .eq 9, 3) := by decide +kernel
theorem dFi_searchFirm_49 : decode prog_6_method_13_code 49 = .ok (.iload 5, 2) := by decide +kernel
theorem dFi_searchFirm_51 : decode prog_6_method_13_code 51 = .ok (.istore_n 3, 1) := by decide +kernel
theorem dFi_searchFirm_52 : decode prog_6_method_13_code 52 = .ok (.goto 8, 3) := by decide +kernel
theorem dFi_searchFirm_55 : decode prog_6_method_13_code 55 = .ok (.iload 5, 2) := by decide +kernel
theorem dFi_searchFirm_57 : decode prog_6_method_13_code 57 = .ok (.iconst 1, 1) := by decide +kernel
theorem dFi_searchFirm_58 : decode prog_6_method_13_code 58 = .ok (.iadd, 1) := by decide +kernel
theorem dFi_searchFirm_59 : decode prog_6_method_13_code 59 = .ok (.istore_n 2, 1) := by decide +kernel
theorem dFi_searchFirm_60 : decode prog_6_method_13_code 60 = .ok (.iinc 4 1, 3) := by decide +kernel
theorem dFi_searchFirm_63 : decode prog_6_method_13_code 63 = .ok (.goto (-43), 3) := by decide +kernel
theorem dFi_searchFirm_66 : decode prog_6_method_13_code 66 = .ok (.iload_n 3, 1) := by decide +kernel
theorem dFi_searchFirm_67 : decode prog_6_method_13_code 67 = .ok (.ireturn, 1) := by decide +kernel
set_option maxRecDepth 100000 in
set_option maxHeartbeats 4000000 in
theorem tFi_searchFirm_J66 {X : KC} {q : Int × KM} (hX : kOk X 5 prog_6_method_13_code 6 "KeyPath$PathFinder") (hR : kRet X (some .int) q) (x3 : Int) (σ : KM) {Θ : (Int × KM) → Prop} (hT : ∀ z, Θ (z) → z = q) : kJ X 66 [lq 8, lq 7, none, li x3, none, none] [] σ (fFi_searchFirm_J66 x3 σ) Θ := by
  refine k_iload_n hX dFi_searchFirm_66 rfl ?_
  exact k_iret hX hR hT dFi_searchFirm_67
set_option maxRecDepth 100000 in
set_option maxHeartbeats 4000000 in
theorem tFi_searchFirm_J60 {X : KC} {q : Int × KM} (hX : kOk X 5 prog_6_method_13_code 6 "KeyPath$PathFinder") (hR : kRet X (some .int) q) (x2 x3 x4 : Int) (σ : KM) {Θ : ((Int × Int × Int × KM) ⊕ (Int × KM)) → Prop} (hT : ∀ z, Θ (.inr (z)) → z = q) (hb0 : ∀ s : Int × Int × Int × KM, Θ (.inl s) → kW X 20 [lq 8, lq 7, li s.1, li s.2.1, li s.2.2.1, none] [] s.2.2.2) : kJ X 60 [lq 8, lq 7, li x2, li x3, li x4, none] [] σ (fFi_searchFirm_J60 x2 x3 x4 σ) Θ := by
  refine k_iincL (Lf := fun y1 => [lq 8, lq 7, li x2, li x3, li y1, none]) hX dFi_searchFirm_60 rfl (by decide) rfl (fun _ => rfl) (fun y1 => ?_)
  refine k_goto (tgt := 20) hX dFi_searchFirm_63 (by decide) ?_
  exact k_back (hb0 (x2, x3, y1, σ))
set_option maxRecDepth 100000 in
set_option maxHeartbeats 4000000 in
theorem tFi_searchFirm_B20 {X : KC} {q : Int × KM} (hX : kOk X 5 prog_6_method_13_code 6 "KeyPath$PathFinder") (hR : kRet X (some .int) q) (x2 x3 x4 : Int) (σ : KM) {Θ : ((Int × Int × Int × KM) ⊕ (Int × KM)) → Prop} (hT : ∀ z, Θ (.inr (z)) → z = q) (hb0 : ∀ s : Int × Int × Int × KM, Θ (.inl s) → kW X 20 [lq 8, lq 7, li s.1, li s.2.1, li s.2.2.1, none] [] s.2.2.2) : kJ X 20 [lq 8, lq 7, li x2, li x3, li x4, none] [] σ (fFi_searchFirm_B20 x2 x3 x4 σ) Θ := by
  refine k_iload hX dFi_searchFirm_20 rfl ?_
  refine k_bipush hX dFi_searchFirm_22 (by decide) ?_
  refine k_icmp_ge (tgt := 66) hX dFi_searchFirm_24 (by decide) ?_ ?_
  · refine k_exit ?_
    refine k_less [true, true, false, true, false, true] (L' := [lq 8, lq 7, none, li x3, none, none]) rfl ?_
    exact tFi_searchFirm_J66 hX hR x3 σ hT
  · refine k_iload_n hX dFi_searchFirm_27 rfl ?_
    refine k_iload_n hX dFi_searchFirm_28 rfl ?_
    refine k_icmp_ge (tgt := 66) hX dFi_searchFirm_29 (by decide) ?_ ?_
    · refine k_exit ?_
      refine k_less [true, true, false, true, false, true] (L' := [lq 8, lq 7, none, li x3, none, none]) rfl ?_
      exact tFi_searchFirm_J66 hX hR x3 σ hT
    · refine k_iload_n hX dFi_searchFirm_32 rfl ?_
      refine k_iload_n hX dFi_searchFirm_33 rfl ?_
      refine k_iadd hX dFi_searchFirm_34 ?_
      refine k_iconst hX dFi_searchFirm_35 ?_
      refine k_idiv hX dFi_searchFirm_36 (fun y1 => ?_)
      refine k_istore (L' := [lq 8, lq 7, li x2, li x3, li x4, li y1]) hX dFi_searchFirm_37 rfl (by decide) rfl ?_
      refine k_aload_n hX dFi_searchFirm_39 rfl ?_
      refine k_aload_n hX dFi_searchFirm_40 rfl ?_
      refine k_iload hX dFi_searchFirm_41 rfl ?_
      refine cl_53 hX (by decide) (Nat.le_of_ble_eq_true rfl) dFi_searchFirm_43 (fun r3 τ2 => ?_)
      refine k_if_eq (tgt := 55) hX dFi_searchFirm_46 (by decide) ?_ ?_
      · refine k_iload hX dFi_searchFirm_55 rfl ?_
        refine k_iconst hX dFi_searchFirm_57 ?_
        refine k_iadd hX dFi_searchFirm_58 ?_
        refine k_istoreL_n (Lf := fun y4 => [lq 8, lq 7, li y4, li x3, li x4, li y1]) hX dFi_searchFirm_59 rfl (by decide) (fun _ => rfl) (fun y4 => ?_)
        refine k_less [true, true, true, true, true, false] (L' := [lq 8, lq 7, li y4, li x3, li x4, none]) rfl ?_
        exact tFi_searchFirm_J60 hX hR y4 x3 x4 τ2 hT hb0
      · refine k_iload hX dFi_searchFirm_49 rfl ?_
        refine k_istore_n (L' := [lq 8, lq 7, li x2, li y1, li x4, li y1]) hX dFi_searchFirm_51 rfl (by decide) rfl ?_
        refine k_goto (tgt := 60) hX dFi_searchFirm_52 (by decide) ?_
        refine k_less [true, true, true, true, true, false] (L' := [lq 8, lq 7, li x2, li y1, li x4, none]) rfl ?_
        exact tFi_searchFirm_J60 hX hR x2 y1 x4 τ2 hT hb0
set_option maxRecDepth 100000 in
set_option maxHeartbeats 4000000 in
theorem tFi_searchFirm_L20 {X : KC} {q : Int × KM} (hX : kOk X 5 prog_6_method_13_code 6 "KeyPath$PathFinder") (hR : kRet X (some .int) q) (x2 x3 x4 : Int) (σ : KM) {Θ : (Int × KM) → Prop} (hT : ∀ z, Θ (z) → z = q) : kJ X 20 [lq 8, lq 7, li x2, li x3, li x4, none] [] σ (fFi_searchFirm_L20 x2 x3 x4 σ) Θ :=
  k_iter (f := fun s => fFi_searchFirm_B20 s.1 s.2.1 s.2.2.1 s.2.2.2) (Lf := fun s => [lq 8, lq 7, li s.1, li s.2.1, li s.2.2.1, none]) (mf := fun s => s.2.2.2) (Θ := Θ) (fun s => tFi_searchFirm_B20 hX hR s.1 s.2.1 s.2.2.1 s.2.2.2 hT (fun _ h9 => h9)) kF (x2, x3, x4, σ)
set_option maxRecDepth 100000 in
set_option maxHeartbeats 4000000 in
theorem sFi_searchFirm (σ : KM) : kSem 5 (⟨"KeyPath$PathFinder", "searchFirm", "(LKeyPath$Net;)I"⟩ : MethodName) prog_6_method_13_code 6 (some .int) [kr 8, kr 7] σ (fFi_searchFirm σ) := by
  refine kSem.of (L0 := [lq 8, lq 7, none, none, none, none]) (by decide) (Nat.le_of_ble_eq_true rfl) rfl (fun X q hX hR => ?_)
  have hT : ∀ z : Int × KM, (fun z => z = q) z → z = q := fun _ h => h
  refine k_aload_n hX dFi_searchFirm_0 rfl ?_
  refine k_aload_n hX dFi_searchFirm_1 rfl ?_
  refine k_bipush hX dFi_searchFirm_2 (by decide) ?_
  refine cl_53 hX (by decide) (Nat.le_of_ble_eq_true rfl) dFi_searchFirm_4 (fun r2 τ1 => ?_)
  refine k_if_ne (tgt := 12) hX dFi_searchFirm_7 (by decide) ?_ ?_
  · refine k_iconst hX dFi_searchFirm_12 ?_
    refine k_istore_n (L' := [lq 8, lq 7, li 0, none, none, none]) hX dFi_searchFirm_13 rfl (by decide) rfl ?_
    refine k_bipush hX dFi_searchFirm_14 (by decide) ?_
    refine k_istore_n (L' := [lq 8, lq 7, li 0, li 100, none, none]) hX dFi_searchFirm_16 rfl (by decide) rfl ?_
    refine k_iconst hX dFi_searchFirm_17 ?_
    refine k_istore (L' := [lq 8, lq 7, li 0, li 100, li 0, none]) hX dFi_searchFirm_18 rfl (by decide) rfl ?_
    exact tFi_searchFirm_L20 hX hR 0 100 0 τ1 hT
  · refine k_iconst hX dFi_searchFirm_10 ?_
    exact k_iret hX hR hT dFi_searchFirm_11
theorem cl_54 {X : KC} {d n : Nat} {cc : ByteArray} {pc : Nat} {L : List (Option KV)} {st : List KV} {σ : KM} {Z : Type} {Θ : Z → Prop} {G : Int → KM → Option Z} (hX : kOk X d cc n "KeyPath$PathFinder") (hdd : 5 + 1 ≤ d) (hst : k_cat st ≤ 8) (hd : decode cc pc = .ok (.invokevirtual 120, 3)) (h : ∀ r τ, kJ X (pc + 3) L (ki r :: st) τ (G r τ) Θ) : kJ X pc L (kr 7 :: kr 8 :: st) σ (kCall (fFi_searchFirm σ) G) Θ :=
  k_callV (np := 1) (av := [kr 7]) (ret := (some .int)) hX (by decide) rfl rfl rfl (sFi_searchFirm σ) ⟨⟨hdd, by decide⟩, tw_838, tw_8, by decide +kernel⟩ rfl tw_835 tw_837 ts_35 hst hd h
theorem dFi_firmFactor_0 : decode prog_6_method_12_code 0 = .ok (.aload_n 0, 1) := by decide +kernel
theorem dFi_firmFactor_1 : decode prog_6_method_12_code 1 = .ok (.getfield 117, 3) := by decide +kernel
theorem dFi_firmFactor_4 : decode prog_6_method_12_code 4 = .ok (.ifCond .ne 26, 3) := by decide +kernel
theorem dFi_firmFactor_7 : decode prog_6_method_12_code 7 = .ok (.aload_n 0, 1) := by decide +kernel
theorem dFi_firmFactor_8 : decode prog_6_method_12_code 8 = .ok (.aload_n 0, 1) := by decide +kernel
theorem dFi_firmFactor_9 : decode prog_6_method_12_code 9 = .ok (.aload_n 1, 1) := by decide +kernel
theorem dFi_firmFactor_10 : decode prog_6_method_12_code 10 = .ok (.invokevirtual 120, 3) := by decide +kernel
theorem dFi_firmFactor_13 : decode prog_6_method_12_code 13 = .ok (.putfield 124, 3) := by decide +kernel
theorem dFi_firmFactor_16 : decode prog_6_method_12_code 16 = .ok (.aload_n 0, 1) := by decide +kernel
theorem dFi_firmFactor_17 : decode prog_6_method_12_code 17 = .ok (.iconst 1, 1) := by decide +kernel
theorem dFi_firmFactor_18 : decode prog_6_method_12_code 18 = .ok (.putfield 117, 3) := by decide +kernel
theorem dFi_firmFactor_21 : decode prog_6_method_12_code 21 = .ok (.aload_n 0, 1) := by decide +kernel
theorem dFi_firmFactor_22 : decode prog_6_method_12_code 22 = .ok (.aload_n 1, 1) := by decide +kernel
theorem dFi_firmFactor_23 : decode prog_6_method_12_code 23 = .ok (.aload_n 1, 1) := by decide +kernel
theorem dFi_firmFactor_24 : decode prog_6_method_12_code 24 = .ok (.getfield 127, 3) := by decide +kernel
theorem dFi_firmFactor_27 : decode prog_6_method_12_code 27 = .ok (.invokevirtual 130, 3) := by decide +kernel
theorem dFi_firmFactor_30 : decode prog_6_method_12_code 30 = .ok (.aload_n 0, 1) := by decide +kernel
theorem dFi_firmFactor_31 : decode prog_6_method_12_code 31 = .ok (.getfield 124, 3) := by decide +kernel
theorem dFi_firmFactor_34 : decode prog_6_method_12_code 34 = .ok (.ireturn, 1) := by decide +kernel
set_option maxRecDepth 100000 in
set_option maxHeartbeats 4000000 in
theorem tFi_firmFactor_J30 {X : KC} {q : Int × KM} (hX : kOk X 6 prog_6_method_12_code 2 "KeyPath$PathFinder") (hR : kRet X (some .int) q) (σ : KM) {Θ : (Int × KM) → Prop} (hT : ∀ z, Θ (z) → z = q) : kJ X 30 [lq 8, lq 7] [] σ (fFi_firmFactor_J30 σ) Θ := by
  refine k_aload_n hX dFi_firmFactor_30 rfl ?_
  refine gf_105 hX dFi_firmFactor_31 ?_
  exact k_iret hX hR hT dFi_firmFactor_34
set_option maxRecDepth 100000 in
set_option maxHeartbeats 4000000 in
theorem sFi_firmFactor (σ : KM) : kSem 6 (⟨"KeyPath$PathFinder", "firmFactor", "(LKeyPath$Net;)I"⟩ : MethodName) prog_6_method_12_code 2 (some .int) [kr 8, kr 7] σ (fFi_firmFactor σ) := by
  refine kSem.of (L0 := [lq 8, lq 7]) (by decide) (Nat.le_of_ble_eq_true rfl) rfl (fun X q hX hR => ?_)
  have hT : ∀ z : Int × KM, (fun z => z = q) z → z = q := fun _ h => h
  refine k_aload_n hX dFi_firmFactor_0 rfl ?_
  refine gf_104 hX dFi_firmFactor_1 ?_
  refine k_if_ne (tgt := 30) hX dFi_firmFactor_4 (by decide) ?_ ?_
  · exact tFi_firmFactor_J30 hX hR σ hT
  · refine k_aload_n hX dFi_firmFactor_7 rfl ?_
    refine k_aload_n hX dFi_firmFactor_8 rfl ?_
    refine k_aload_n hX dFi_firmFactor_9 rfl ?_
    refine cl_54 hX (by decide) (Nat.le_of_ble_eq_true rfl) dFi_firmFactor_10 (fun r2 τ1 => ?_)
    refine gp_106 hX dFi_firmFactor_13 (fun τ3 => ?_)
    refine k_aload_n hX dFi_firmFactor_16 rfl ?_
    refine k_iconst hX dFi_firmFactor_17 ?_
    refine gz_107 hX dFi_firmFactor_18 (fun τ4 => ?_)
    refine k_aload_n hX dFi_firmFactor_21 rfl ?_
    refine k_aload_n hX dFi_firmFactor_22 rfl ?_
    refine k_aload_n hX dFi_firmFactor_23 rfl ?_
    refine gf_108 hX dFi_firmFactor_24 ?_
    refine cl_52 hX (by decide) (Nat.le_of_ble_eq_true rfl) dFi_firmFactor_27 (fun _ τ5 => ?_)
    exact tFi_firmFactor_J30 hX hR τ5 hT
theorem cl_55 {X : KC} {d n : Nat} {cc : ByteArray} {pc : Nat} {L : List (Option KV)} {st : List KV} {σ : KM} {Z : Type} {Θ : Z → Prop} {G : Int → KM → Option Z} (hX : kOk X d cc n "KeyPath") (hdd : 6 + 1 ≤ d) (hst : k_cat st ≤ 8) (hd : decode cc pc = .ok (.invokevirtual 279, 3)) (h : ∀ r τ, kJ X (pc + 3) L (ki r :: st) τ (G r τ) Θ) : kJ X pc L (kr 7 :: kr 8 :: st) σ (kCall (fFi_firmFactor σ) G) Θ :=
  k_callV (np := 1) (av := [kr 7]) (ret := (some .int)) hX (by decide) rfl rfl rfl (sFi_firmFactor σ) ⟨⟨hdd, by decide⟩, tw_834, tw_8, by decide +kernel⟩ rfl tw_831 tw_832 tw_833 hst hd h
theorem dP_firm_0 : decode prog_1_method_30_code 0 = .ok (.aload_n 0, 1) := by decide +kernel
theorem dP_firm_1 : decode prog_1_method_30_code 1 = .ok (.invokevirtual 233, 3) := by decide +kernel
theorem dP_firm_4 : decode prog_1_method_30_code 4 = .ok (.ifCond .eq 8, 3) := by decide +kernel
theorem dP_firm_7 : decode prog_1_method_30_code 7 = .ok (.bipush (-5), 2) := by decide +kernel
theorem dP_firm_9 : decode prog_1_method_30_code 9 = .ok (.goto 14, 3) := by decide +kernel
theorem dP_firm_12 : decode prog_1_method_30_code 12 = .ok (.aload_n 0, 1) := by decide +kernel
theorem dP_firm_13 : decode prog_1_method_30_code 13 = .ok (.getfield 54, 3) := by decide +kernel
theorem dP_firm_16 : decode prog_1_method_30_code 16 = .ok (.aload_n 0, 1) := by decide +kernel
theorem dP_firm_17 : decode prog_1_method_30_code 17 = .ok (.getfield 47, 3) := by decide +kernel
theorem dP_firm_20 : decode prog_1_method_30_code 20 = .ok (.invokevirtual 279, 3) := by decide +kernel
theorem dP_firm_23 : decode prog_1_method_30_code 23 = .ok (.ireturn, 1) := by decide +kernel
set_option maxRecDepth 100000 in
set_option maxHeartbeats 4000000 in
theorem tP_firm_J23 {X : KC} {q : Int × KM} (hX : kOk X 8 prog_1_method_30_code 1 "KeyPath") (hR : kRet X (some .int) q) (t0 : Int) (σ : KM) {Θ : (Int × KM) → Prop} (hT : ∀ z, Θ (z) → z = q) : kJ X 23 [lq 0] [ki t0] σ (fP_firm_J23 t0 σ) Θ := by
  exact k_iret hX hR hT dP_firm_23
set_option maxRecDepth 100000 in
set_option maxHeartbeats 4000000 in
theorem sP_firm (σ : KM) : kSem 8 (⟨"KeyPath", "firm", "()I"⟩ : MethodName) prog_1_method_30_code 1 (some .int) [kr 0] σ (fP_firm σ) := by
  refine kSem.of (L0 := [lq 0]) (by decide) (Nat.le_of_ble_eq_true rfl) rfl (fun X q hX hR => ?_)
  have hT : ∀ z : Int × KM, (fun z => z = q) z → z = q := fun _ h => h
  refine k_aload_n hX dP_firm_0 rfl ?_
  refine cl_33 hX (by decide) (Nat.le_of_ble_eq_true rfl) dP_firm_1 (fun r2 τ1 => ?_)
  refine k_if_eq (tgt := 12) hX dP_firm_4 (by decide) ?_ ?_
  · refine k_aload_n hX dP_firm_12 rfl ?_
    refine gf_20 hX dP_firm_13 ?_
    refine k_aload_n hX dP_firm_16 rfl ?_
    refine gf_32 hX dP_firm_17 ?_
    refine cl_55 hX (by decide) (Nat.le_of_ble_eq_true rfl) dP_firm_20 (fun r4 τ3 => ?_)
    exact tP_firm_J23 hX hR r4 τ3 hT
  · refine k_bipush hX dP_firm_7 (by decide) ?_
    refine k_goto (tgt := 23) hX dP_firm_9 (by decide) ?_
    exact tP_firm_J23 hX hR (-5) τ1 hT
theorem dP_fit_0 : decode prog_1_method_16_code 0 = .ok (.aload_n 0, 1) := by decide +kernel
theorem dP_fit_1 : decode prog_1_method_16_code 1 = .ok (.iload_n 1, 1) := by decide +kernel
theorem dP_fit_2 : decode prog_1_method_16_code 2 = .ok (.invokevirtual 196, 3) := by decide +kernel
theorem dP_fit_5 : decode prog_1_method_16_code 5 = .ok (.ifCond .ne 10, 3) := by decide +kernel
theorem dP_fit_8 : decode prog_1_method_16_code 8 = .ok (.iload_n 2, 1) := by decide +kernel
theorem dP_fit_9 : decode prog_1_method_16_code 9 = .ok (.invokestatic 190, 3) := by decide +kernel
theorem dP_fit_12 : decode prog_1_method_16_code 12 = .ok (.ifCond .eq 6, 3) := by decide +kernel
theorem dP_fit_15 : decode prog_1_method_16_code 15 = .ok (.bipush (-2), 2) := by decide +kernel
theorem dP_fit_17 : decode prog_1_method_16_code 17 = .ok (.ireturn, 1) := by decide +kernel
theorem dP_fit_18 : decode prog_1_method_16_code 18 = .ok (.aload_n 0, 1) := by decide +kernel
theorem dP_fit_19 : decode prog_1_method_16_code 19 = .ok (.invokevirtual 212, 3) := by decide +kernel
theorem dP_fit_22 : decode prog_1_method_16_code 22 = .ok (.aload_n 0, 1) := by decide +kernel
theorem dP_fit_23 : decode prog_1_method_16_code 23 = .ok (.getfield 40, 3) := by decide +kernel
theorem dP_fit_26 : decode prog_1_method_16_code 26 = .ok (.getfield 215, 3) := by decide +kernel
theorem dP_fit_29 : decode prog_1_method_16_code 29 = .ok (.iload_n 1, 1) := by decide +kernel
theorem dP_fit_30 : decode prog_1_method_16_code 30 = .ok (.bipush 24, 2) := by decide +kernel
theorem dP_fit_32 : decode prog_1_method_16_code 32 = .ok (.imul, 1) := by decide +kernel
theorem dP_fit_33 : decode prog_1_method_16_code 33 = .ok (.iload_n 2, 1) := by decide +kernel
theorem dP_fit_34 : decode prog_1_method_16_code 34 = .ok (.iadd, 1) := by decide +kernel
theorem dP_fit_35 : decode prog_1_method_16_code 35 = .ok (.iaload, 1) := by decide +kernel
theorem dP_fit_36 : decode prog_1_method_16_code 36 = .ok (.ireturn, 1) := by decide +kernel
set_option maxRecDepth 100000 in
set_option maxHeartbeats 4000000 in
theorem tP_fit_J15 {X : KC} {q : Int × KM} (hX : kOk X 7 prog_1_method_16_code 3 "KeyPath") (hR : kRet X (some .int) q) (σ : KM) {Θ : (Int × KM) → Prop} (hT : ∀ z, Θ (z) → z = q) : kJ X 15 [lq 0, none, none] [] σ (fP_fit_J15 σ) Θ := by
  refine k_bipush hX dP_fit_15 (by decide) ?_
  exact k_iret hX hR hT dP_fit_17
set_option maxRecDepth 100000 in
set_option maxHeartbeats 4000000 in
theorem sP_fit (x1 x2 : Int) (σ : KM) : kSem 7 (⟨"KeyPath", "fit", "(II)I"⟩ : MethodName) prog_1_method_16_code 3 (some .int) [kr 0, ki x1, ki x2] σ (fP_fit x1 x2 σ) := by
  refine kSem.of (L0 := [lq 0, li x1, li x2]) (by decide) (Nat.le_of_ble_eq_true rfl) rfl (fun X q hX hR => ?_)
  have hT : ∀ z : Int × KM, (fun z => z = q) z → z = q := fun _ h => h
  refine k_aload_n hX dP_fit_0 rfl ?_
  refine k_iload_n hX dP_fit_1 rfl ?_
  refine cl_9 hX (by decide) (Nat.le_of_ble_eq_true rfl) dP_fit_2 (fun r2 τ1 => ?_)
  refine k_if_ne (tgt := 15) hX dP_fit_5 (by decide) ?_ ?_
  · refine k_less [true, false, false] (L' := [lq 0, none, none]) rfl ?_
    exact tP_fit_J15 hX hR τ1 hT
  · refine k_iload_n hX dP_fit_8 rfl ?_
    refine cl_44 hX (by decide) (Nat.le_of_ble_eq_true rfl) dP_fit_9 (fun r4 τ3 => ?_)
    refine k_if_eq (tgt := 18) hX dP_fit_12 (by decide) ?_ ?_
    · refine k_aload_n hX dP_fit_18 rfl ?_
      refine cl_14 hX (by decide) (Nat.le_of_ble_eq_true rfl) dP_fit_19 (fun _ τ5 => ?_)
      refine k_aload_n hX dP_fit_22 rfl ?_
      refine gf_23 hX dP_fit_23 ?_
      refine gf_109 hX dP_fit_26 ?_
      refine k_iload_n hX dP_fit_29 rfl ?_
      refine k_bipush hX dP_fit_30 (by decide) ?_
      refine k_imul hX dP_fit_32 ?_
      refine k_iload_n hX dP_fit_33 rfl ?_
      refine k_iadd hX dP_fit_34 ?_
      refine k_iald hX (by decide) rfl dP_fit_35 rfl (fun y6 => ?_)
      exact k_iret hX hR hT dP_fit_36
    · refine k_less [true, false, false] (L' := [lq 0, none, none]) rfl ?_
      exact tP_fit_J15 hX hR τ3 hT
theorem dP_foreign_0 : decode prog_1_method_39_code 0 = .ok (.aload_n 0, 1) := by decide +kernel
theorem dP_foreign_1 : decode prog_1_method_39_code 1 = .ok (.iload_n 1, 1) := by decide +kernel
theorem dP_foreign_2 : decode prog_1_method_39_code 2 = .ok (.invokevirtual 196, 3) := by decide +kernel
theorem dP_foreign_5 : decode prog_1_method_39_code 5 = .ok (.ifCond .ne 10, 3) := by decide +kernel
theorem dP_foreign_8 : decode prog_1_method_39_code 8 = .ok (.iload_n 2, 1) := by decide +kernel
theorem dP_foreign_9 : decode prog_1_method_39_code 9 = .ok (.invokestatic 190, 3) := by decide +kernel
theorem dP_foreign_12 : decode prog_1_method_39_code 12 = .ok (.ifCond .eq 6, 3) := by decide +kernel
theorem dP_foreign_15 : decode prog_1_method_39_code 15 = .ok (.bipush (-2), 2) := by decide +kernel
theorem dP_foreign_17 : decode prog_1_method_39_code 17 = .ok (.ireturn, 1) := by decide +kernel
theorem dP_foreign_18 : decode prog_1_method_39_code 18 = .ok (.iconst 0, 1) := by decide +kernel
theorem dP_foreign_19 : decode prog_1_method_39_code 19 = .ok (.istore_n 3, 1) := by decide +kernel
theorem dP_foreign_20 : decode prog_1_method_39_code 20 = .ok (.iconst 0, 1) := by decide +kernel
theorem dP_foreign_21 : decode prog_1_method_39_code 21 = .ok (.istore 4, 2) := by decide +kernel
theorem dP_foreign_23 : decode prog_1_method_39_code 23 = .ok (.iload 4, 2) := by decide +kernel
theorem dP_foreign_25 : decode prog_1_method_39_code 25 = .ok (.bipush 12, 2) := by decide +kernel
theorem dP_foreign_27 : decode prog_1_method_39_code 27 = .ok (.if_icmp .ge 37, 3) := by decide +kernel
theorem dP_foreign_30 : decode prog_1_method_39_code 30 = .ok (.iload 4, 2) := by decide +kernel
theorem dP_foreign_32 : decode prog_1_method_39_code 32 = .ok (.iload_n 2, 1) := by decide +kernel
theorem dP_foreign_33 : decode prog_1_method_39_code 33 = .ok (.invokestatic 310, 3) := by decide +kernel
theorem dP_foreign_36 : decode prog_1_method_39_code 36 = .ok (.iconst (-1), 1) := by decide +kernel
theorem dP_foreign_37 : decode prog_1_method_39_code 37 = .ok (.if_icmp .ne 21, 3) := by decide +kernel
theorem dP_foreign_40 : decode prog_1_method_39_code 40 = .ok (.iload_n 3, 1) := by decide +kernel
theorem dP_foreign_41 : decode prog_1_method_39_code 41 = .ok (.aload_n 0, 1) := by decide +kernel
theorem dP_foreign_42 : decode prog_1_method_39_code 42 = .ok (.getfield 33, 3) := by decide +kernel
theorem dP_foreign_45 : decode prog_1_method_39_code 45 = .ok (.getfield 202, 3) := by decide +kernel
theorem dP_foreign_48 : decode prog_1_method_39_code 48 = .ok (.iload_n 1, 1) := by decide +kernel
theorem dP_foreign_49 : decode prog_1_method_39_code 49 = .ok (.bipush 12, 2) := by decide +kernel
theorem dP_foreign_51 : decode prog_1_method_39_code 51 = .ok (.imul, 1) := by decide +kernel
theorem dP_foreign_52 : decode prog_1_method_39_code 52 = .ok (.iload 4, 2) := by decide +kernel
theorem dP_foreign_54 : decode prog_1_method_39_code 54 = .ok (.iadd, 1) := by decide +kernel
theorem dP_foreign_55 : decode prog_1_method_39_code 55 = .ok (.iaload, 1) := by decide +kernel
theorem dP_foreign_56 : decode prog_1_method_39_code 56 = .ok (.iadd, 1) := by decide +kernel
theorem dP_foreign_57 : decode prog_1_method_39_code 57 = .ok (.istore_n 3, 1) := by decide +kernel
theorem dP_foreign_58 : decode prog_1_method_39_code 58 = .ok (.iinc 4 1, 3) := by decide +kernel
theorem dP_foreign_61 : decode prog_1_method_39_code 61 = .ok (.goto (-38), 3) := by decide +kernel
theorem dP_foreign_64 : decode prog_1_method_39_code 64 = .ok (.iload_n 3, 1) := by decide +kernel
theorem dP_foreign_65 : decode prog_1_method_39_code 65 = .ok (.ireturn, 1) := by decide +kernel
set_option maxRecDepth 100000 in
set_option maxHeartbeats 4000000 in
theorem tP_foreign_J15 {X : KC} {q : Int × KM} (hX : kOk X 7 prog_1_method_39_code 5 "KeyPath") (hR : kRet X (some .int) q) (σ : KM) {Θ : (Int × KM) → Prop} (hT : ∀ z, Θ (z) → z = q) : kJ X 15 [lq 0, none, none, none, none] [] σ (fP_foreign_J15 σ) Θ := by
  refine k_bipush hX dP_foreign_15 (by decide) ?_
  exact k_iret hX hR hT dP_foreign_17
set_option maxRecDepth 100000 in
set_option maxHeartbeats 4000000 in
theorem tP_foreign_J64 {X : KC} {q : Int × KM} (hX : kOk X 7 prog_1_method_39_code 5 "KeyPath") (hR : kRet X (some .int) q) (x3 : Int) (σ : KM) {Θ : (Int × KM) → Prop} (hT : ∀ z, Θ (z) → z = q) : kJ X 64 [lq 0, none, none, li x3, none] [] σ (fP_foreign_J64 x3 σ) Θ := by
  refine k_iload_n hX dP_foreign_64 rfl ?_
  exact k_iret hX hR hT dP_foreign_65
set_option maxRecDepth 100000 in
set_option maxHeartbeats 4000000 in
theorem tP_foreign_J58 {X : KC} {q : Int × KM} (hX : kOk X 7 prog_1_method_39_code 5 "KeyPath") (hR : kRet X (some .int) q) (x1 x2 x3 x4 : Int) (σ : KM) {Θ : ((Int × Int × KM) ⊕ (Int × KM)) → Prop} (hT : ∀ z, Θ (.inr (z)) → z = q) (hb0 : ∀ s : Int × Int × KM, Θ (.inl s) → kW X 23 [lq 0, li x1, li x2, li s.1, li s.2.1] [] s.2.2) : kJ X 58 [lq 0, li x1, li x2, li x3, li x4] [] σ (fP_foreign_J58 x1 x2 x3 x4 σ) Θ := by
  refine k_iincL (Lf := fun y1 => [lq 0, li x1, li x2, li x3, li y1]) hX dP_foreign_58 rfl (by decide) rfl (fun _ => rfl) (fun y1 => ?_)
  refine k_goto (tgt := 23) hX dP_foreign_61 (by decide) ?_
  exact k_back (hb0 (x3, y1, σ))
set_option maxRecDepth 100000 in
set_option maxHeartbeats 4000000 in
theorem tP_foreign_B23 {X : KC} {q : Int × KM} (hX : kOk X 7 prog_1_method_39_code 5 "KeyPath") (hR : kRet X (some .int) q) (x1 x2 x3 x4 : Int) (σ : KM) {Θ : ((Int × Int × KM) ⊕ (Int × KM)) → Prop} (hT : ∀ z, Θ (.inr (z)) → z = q) (hb0 : ∀ s : Int × Int × KM, Θ (.inl s) → kW X 23 [lq 0, li x1, li x2, li s.1, li s.2.1] [] s.2.2) : kJ X 23 [lq 0, li x1, li x2, li x3, li x4] [] σ (fP_foreign_B23 x1 x2 x3 x4 σ) Θ := by
  refine k_iload hX dP_foreign_23 rfl ?_
  refine k_bipush hX dP_foreign_25 (by decide) ?_
  refine k_icmp_ge (tgt := 64) hX dP_foreign_27 (by decide) ?_ ?_
  · refine k_exit ?_
    refine k_less [true, false, false, true, false] (L' := [lq 0, none, none, li x3, none]) rfl ?_
    exact tP_foreign_J64 hX hR x3 σ hT
  · refine k_iload hX dP_foreign_30 rfl ?_
    refine k_iload_n hX dP_foreign_32 rfl ?_
    refine cl_36 hX (by decide) (Nat.le_of_ble_eq_true rfl) dP_foreign_33 (fun r2 τ1 => ?_)
    refine k_iconst hX dP_foreign_36 ?_
    refine k_icmp_ne (tgt := 58) hX dP_foreign_37 (by decide) ?_ ?_
    · exact tP_foreign_J58 hX hR x1 x2 x3 x4 τ1 hT hb0
    · refine k_iload_n hX dP_foreign_40 rfl ?_
      refine k_aload_n hX dP_foreign_41 rfl ?_
      refine gf_0 hX dP_foreign_42 ?_
      refine gf_110 hX dP_foreign_45 ?_
      refine k_iload_n hX dP_foreign_48 rfl ?_
      refine k_bipush hX dP_foreign_49 (by decide) ?_
      refine k_imul hX dP_foreign_51 ?_
      refine k_iload hX dP_foreign_52 rfl ?_
      refine k_iadd hX dP_foreign_54 ?_
      refine k_iald hX (by decide) rfl dP_foreign_55 rfl (fun y3 => ?_)
      refine k_iadd hX dP_foreign_56 ?_
      refine k_istoreL_n (Lf := fun y4 => [lq 0, li x1, li x2, li y4, li x4]) hX dP_foreign_57 rfl (by decide) (fun _ => rfl) (fun y4 => ?_)
      exact tP_foreign_J58 hX hR x1 x2 y4 x4 τ1 hT hb0
set_option maxRecDepth 100000 in
set_option maxHeartbeats 4000000 in
theorem tP_foreign_L23 {X : KC} {q : Int × KM} (hX : kOk X 7 prog_1_method_39_code 5 "KeyPath") (hR : kRet X (some .int) q) (x1 x2 x3 x4 : Int) (σ : KM) {Θ : (Int × KM) → Prop} (hT : ∀ z, Θ (z) → z = q) : kJ X 23 [lq 0, li x1, li x2, li x3, li x4] [] σ (fP_foreign_L23 x1 x2 x3 x4 σ) Θ :=
  k_iter (f := fun s => fP_foreign_B23 x1 x2 s.1 s.2.1 s.2.2) (Lf := fun s => [lq 0, li x1, li x2, li s.1, li s.2.1]) (mf := fun s => s.2.2) (Θ := Θ) (fun s => tP_foreign_B23 hX hR x1 x2 s.1 s.2.1 s.2.2 hT (fun _ h9 => h9)) kF (x3, x4, σ)
set_option maxRecDepth 100000 in
set_option maxHeartbeats 4000000 in
theorem sP_foreign (x1 x2 : Int) (σ : KM) : kSem 7 (⟨"KeyPath", "foreign", "(II)I"⟩ : MethodName) prog_1_method_39_code 5 (some .int) [kr 0, ki x1, ki x2] σ (fP_foreign x1 x2 σ) := by
  refine kSem.of (L0 := [lq 0, li x1, li x2, none, none]) (by decide) (Nat.le_of_ble_eq_true rfl) rfl (fun X q hX hR => ?_)
  have hT : ∀ z : Int × KM, (fun z => z = q) z → z = q := fun _ h => h
  refine k_aload_n hX dP_foreign_0 rfl ?_
  refine k_iload_n hX dP_foreign_1 rfl ?_
  refine cl_9 hX (by decide) (Nat.le_of_ble_eq_true rfl) dP_foreign_2 (fun r2 τ1 => ?_)
  refine k_if_ne (tgt := 15) hX dP_foreign_5 (by decide) ?_ ?_
  · refine k_less [true, false, false, true, true] (L' := [lq 0, none, none, none, none]) rfl ?_
    exact tP_foreign_J15 hX hR τ1 hT
  · refine k_iload_n hX dP_foreign_8 rfl ?_
    refine cl_44 hX (by decide) (Nat.le_of_ble_eq_true rfl) dP_foreign_9 (fun r4 τ3 => ?_)
    refine k_if_eq (tgt := 18) hX dP_foreign_12 (by decide) ?_ ?_
    · refine k_iconst hX dP_foreign_18 ?_
      refine k_istore_n (L' := [lq 0, li x1, li x2, li 0, none]) hX dP_foreign_19 rfl (by decide) rfl ?_
      refine k_iconst hX dP_foreign_20 ?_
      refine k_istore (L' := [lq 0, li x1, li x2, li 0, li 0]) hX dP_foreign_21 rfl (by decide) rfl ?_
      exact tP_foreign_L23 hX hR x1 x2 0 0 τ3 hT
    · refine k_less [true, false, false, true, true] (L' := [lq 0, none, none, none, none]) rfl ?_
      exact tP_foreign_J15 hX hR τ3 hT
theorem dP_key_0 : decode prog_1_method_23_code 0 = .ok (.aload_n 0, 1) := by decide +kernel
theorem dP_key_1 : decode prog_1_method_23_code 1 = .ok (.iload_n 1, 1) := by decide +kernel
theorem dP_key_2 : decode prog_1_method_23_code 2 = .ok (.invokevirtual 196, 3) := by decide +kernel
theorem dP_key_5 : decode prog_1_method_23_code 5 = .ok (.ifCond .eq 6, 3) := by decide +kernel
theorem dP_key_8 : decode prog_1_method_23_code 8 = .ok (.bipush (-2), 2) := by decide +kernel
theorem dP_key_10 : decode prog_1_method_23_code 10 = .ok (.ireturn, 1) := by decide +kernel
theorem dP_key_11 : decode prog_1_method_23_code 11 = .ok (.aload_n 0, 1) := by decide +kernel
theorem dP_key_12 : decode prog_1_method_23_code 12 = .ok (.invokevirtual 233, 3) := by decide +kernel
theorem dP_key_15 : decode prog_1_method_23_code 15 = .ok (.ifCond .eq 8, 3) := by decide +kernel
theorem dP_key_18 : decode prog_1_method_23_code 18 = .ok (.bipush (-5), 2) := by decide +kernel
theorem dP_key_20 : decode prog_1_method_23_code 20 = .ok (.goto 12, 3) := by decide +kernel
theorem dP_key_23 : decode prog_1_method_23_code 23 = .ok (.aload_n 0, 1) := by decide +kernel
theorem dP_key_24 : decode prog_1_method_23_code 24 = .ok (.getfield 54, 3) := by decide +kernel
theorem dP_key_27 : decode prog_1_method_23_code 27 = .ok (.getfield 240, 3) := by decide +kernel
theorem dP_key_30 : decode prog_1_method_23_code 30 = .ok (.iload_n 1, 1) := by decide +kernel
theorem dP_key_31 : decode prog_1_method_23_code 31 = .ok (.iaload, 1) := by decide +kernel
theorem dP_key_32 : decode prog_1_method_23_code 32 = .ok (.ireturn, 1) := by decide +kernel
set_option maxRecDepth 100000 in
set_option maxHeartbeats 4000000 in
theorem tP_key_J32 {X : KC} {q : Int × KM} (hX : kOk X 8 prog_1_method_23_code 2 "KeyPath") (hR : kRet X (some .int) q) (t0 : Int) (σ : KM) {Θ : (Int × KM) → Prop} (hT : ∀ z, Θ (z) → z = q) : kJ X 32 [lq 0, none] [ki t0] σ (fP_key_J32 t0 σ) Θ := by
  exact k_iret hX hR hT dP_key_32
set_option maxRecDepth 100000 in
set_option maxHeartbeats 4000000 in
theorem sP_key (x1 : Int) (σ : KM) : kSem 8 (⟨"KeyPath", "key", "(I)I"⟩ : MethodName) prog_1_method_23_code 2 (some .int) [kr 0, ki x1] σ (fP_key x1 σ) := by
  refine kSem.of (L0 := [lq 0, li x1]) (by decide) (Nat.le_of_ble_eq_true rfl) rfl (fun X q hX hR => ?_)
  have hT : ∀ z : Int × KM, (fun z => z = q) z → z = q := fun _ h => h
  refine k_aload_n hX dP_key_0 rfl ?_
  refine k_iload_n hX dP_key_1 rfl ?_
  refine cl_9 hX (by decide) (Nat.le_of_ble_eq_true rfl) dP_key_2 (fun r2 τ1 => ?_)
  refine k_if_eq (tgt := 11) hX dP_key_5 (by decide) ?_ ?_
  · refine k_aload_n hX dP_key_11 rfl ?_
    refine cl_33 hX (by decide) (Nat.le_of_ble_eq_true rfl) dP_key_12 (fun r4 τ3 => ?_)
    refine k_if_eq (tgt := 23) hX dP_key_15 (by decide) ?_ ?_
    · refine k_aload_n hX dP_key_23 rfl ?_
      refine gf_20 hX dP_key_24 ?_
      refine gf_70 hX dP_key_27 ?_
      refine k_iload_n hX dP_key_30 rfl ?_
      refine k_iald hX (by decide) rfl dP_key_31 rfl (fun y5 => ?_)
      refine k_less [true, false] (L' := [lq 0, none]) rfl ?_
      exact tP_key_J32 hX hR y5 τ3 hT
    · refine k_bipush hX dP_key_18 (by decide) ?_
      refine k_goto (tgt := 32) hX dP_key_20 (by decide) ?_
      refine k_less [true, false] (L' := [lq 0, none]) rfl ?_
      exact tP_key_J32 hX hR (-5) τ3 hT
  · refine k_bipush hX dP_key_8 (by decide) ?_
    exact k_iret hX hR hT dP_key_10
theorem dDe_leastOf_44_0 : decode prog_2_method_10_code 0 = .ok (.ldc 52, 2) := by decide +kernel
theorem dDe_leastOf_44_2 : decode prog_2_method_10_code 2 = .ok (.istore_n 2, 1) := by decide +kernel
theorem dDe_leastOf_44_3 : decode prog_2_method_10_code 3 = .ok (.iconst 0, 1) := by decide +kernel
theorem dDe_leastOf_44_4 : decode prog_2_method_10_code 4 = .ok (.istore_n 3, 1) := by decide +kernel
theorem dDe_leastOf_44_5 : decode prog_2_method_10_code 5 = .ok (.iload_n 3, 1) := by decide +kernel
theorem dDe_leastOf_44_6 : decode prog_2_method_10_code 6 = .ok (.bipush 24, 2) := by decide +kernel
theorem dDe_leastOf_44_8 : decode prog_2_method_10_code 8 = .ok (.if_icmp .ge 19, 3) := by decide +kernel
theorem dDe_leastOf_44_11 : decode prog_2_method_10_code 11 = .ok (.iload_n 2, 1) := by decide +kernel
theorem dDe_leastOf_44_12 : decode prog_2_method_10_code 12 = .ok (.aload_n 0, 1) := by decide +kernel
theorem dDe_leastOf_44_13 : decode prog_2_method_10_code 13 = .ok (.iload_n 1, 1) := by decide +kernel
theorem dDe_leastOf_44_14 : decode prog_2_method_10_code 14 = .ok (.iload_n 3, 1) := by decide +kernel
theorem dDe_leastOf_44_15 : decode prog_2_method_10_code 15 = .ok (.iadd, 1) := by decide +kernel
theorem dDe_leastOf_44_16 : decode prog_2_method_10_code 16 = .ok (.iaload, 1) := by decide +kernel
theorem dDe_leastOf_44_17 : decode prog_2_method_10_code 17 = .ok (.invokestatic 56, 3) := by decide +kernel
theorem dDe_leastOf_44_20 : decode prog_2_method_10_code 20 = .ok (.istore_n 2, 1) := by decide +kernel
theorem dDe_leastOf_44_21 : decode prog_2_method_10_code 21 = .ok (.iinc 3 1, 3) := by decide +kernel
theorem dDe_leastOf_44_24 : decode prog_2_method_10_code 24 = .ok (.goto (-19), 3) := by decide +kernel
theorem dDe_leastOf_44_27 : decode prog_2_method_10_code 27 = .ok (.iload_n 2, 1) := by decide +kernel
theorem dDe_leastOf_44_28 : decode prog_2_method_10_code 28 = .ok (.ireturn, 1) := by decide +kernel
set_option maxRecDepth 100000 in
set_option maxHeartbeats 4000000 in
theorem tDe_leastOf_44_J27 {X : KC} {q : Int × KM} (hX : kOk X 1 prog_2_method_10_code 4 "KeyPath$Detours") (hR : kRet X (some .int) q) (x2 : Int) (σ : KM) {Θ : (Int × KM) → Prop} (hT : ∀ z, Θ (z) → z = q) : kJ X 27 [lq 44, none, li x2, none] [] σ (fDe_leastOf_44_J27 x2 σ) Θ := by
  refine k_iload_n hX dDe_leastOf_44_27 rfl ?_
  exact k_iret hX hR hT dDe_leastOf_44_28
set_option maxRecDepth 100000 in
set_option maxHeartbeats 4000000 in
theorem tDe_leastOf_44_B5 {X : KC} {q : Int × KM} (hX : kOk X 1 prog_2_method_10_code 4 "KeyPath$Detours") (hR : kRet X (some .int) q) (x1 x2 x3 : Int) (σ : KM) {Θ : ((Int × Int × KM) ⊕ (Int × KM)) → Prop} (hT : ∀ z, Θ (.inr (z)) → z = q) (hb0 : ∀ s : Int × Int × KM, Θ (.inl s) → kW X 5 [lq 44, li x1, li s.1, li s.2.1] [] s.2.2) : kJ X 5 [lq 44, li x1, li x2, li x3] [] σ (fDe_leastOf_44_B5 x1 x2 x3 σ) Θ := by
  refine k_iload_n hX dDe_leastOf_44_5 rfl ?_
  refine k_bipush hX dDe_leastOf_44_6 (by decide) ?_
  refine k_icmp_ge (tgt := 27) hX dDe_leastOf_44_8 (by decide) ?_ ?_
  · refine k_exit ?_
    refine k_less [true, false, true, false] (L' := [lq 44, none, li x2, none]) rfl ?_
    exact tDe_leastOf_44_J27 hX hR x2 σ hT
  · refine k_iload_n hX dDe_leastOf_44_11 rfl ?_
    refine k_aload_n hX dDe_leastOf_44_12 rfl ?_
    refine k_iload_n hX dDe_leastOf_44_13 rfl ?_
    refine k_iload_n hX dDe_leastOf_44_14 rfl ?_
    refine k_iadd hX dDe_leastOf_44_15 ?_
    refine k_iald hX (by decide) rfl dDe_leastOf_44_16 rfl (fun y1 => ?_)
    refine k_mmin hX (by decide) (Nat.le_of_ble_eq_true rfl) tw_768 tw_379 tw_12 tw_380 dDe_leastOf_44_17 (fun y2 => ?_)
    refine k_istore_n (L' := [lq 44, li x1, li y2, li x3]) hX dDe_leastOf_44_20 rfl (by decide) rfl ?_
    refine k_iincL (Lf := fun y3 => [lq 44, li x1, li y2, li y3]) hX dDe_leastOf_44_21 rfl (by decide) rfl (fun _ => rfl) (fun y3 => ?_)
    refine k_goto (tgt := 5) hX dDe_leastOf_44_24 (by decide) ?_
    exact k_back (hb0 (y2, y3, σ))
set_option maxRecDepth 100000 in
set_option maxHeartbeats 4000000 in
theorem tDe_leastOf_44_L5 {X : KC} {q : Int × KM} (hX : kOk X 1 prog_2_method_10_code 4 "KeyPath$Detours") (hR : kRet X (some .int) q) (x1 x2 x3 : Int) (σ : KM) {Θ : (Int × KM) → Prop} (hT : ∀ z, Θ (z) → z = q) : kJ X 5 [lq 44, li x1, li x2, li x3] [] σ (fDe_leastOf_44_L5 x1 x2 x3 σ) Θ :=
  k_iter (f := fun s => fDe_leastOf_44_B5 x1 s.1 s.2.1 s.2.2) (Lf := fun s => [lq 44, li x1, li s.1, li s.2.1]) (mf := fun s => s.2.2) (Θ := Θ) (fun s => tDe_leastOf_44_B5 hX hR x1 s.1 s.2.1 s.2.2 hT (fun _ h9 => h9)) kF (x2, x3, σ)
set_option maxRecDepth 100000 in
set_option maxHeartbeats 4000000 in
theorem sDe_leastOf_44 (x1 : Int) (σ : KM) : kSem 1 (⟨"KeyPath$Detours", "leastOf", "([II)I"⟩ : MethodName) prog_2_method_10_code 4 (some .int) [kr 44, ki x1] σ (fDe_leastOf_44 x1 σ) := by
  refine kSem.of (L0 := [lq 44, li x1, none, none]) (by decide) (Nat.le_of_ble_eq_true rfl) rfl (fun X q hX hR => ?_)
  have hT : ∀ z : Int × KM, (fun z => z = q) z → z = q := fun _ h => h
  refine k_ldc (v := 1000000000) (w := 0) hX dDe_leastOf_44_0 tw_767 ?_
  refine k_istore_n (L' := [lq 44, li x1, li 1000000000, none]) hX dDe_leastOf_44_2 rfl (by decide) rfl ?_
  refine k_iconst hX dDe_leastOf_44_3 ?_
  refine k_istore_n (L' := [lq 44, li x1, li 1000000000, li 0]) hX dDe_leastOf_44_4 rfl (by decide) rfl ?_
  exact tDe_leastOf_44_L5 hX hR x1 1000000000 0 σ hT
theorem cl_56 {X : KC} {d n : Nat} {cc : ByteArray} {pc : Nat} {L : List (Option KV)} {st : List KV} {σ : KM} {Z : Type} {Θ : Z → Prop} {G : Int → KM → Option Z} {x1 : Int} (hX : kOk X d cc n "KeyPath$Detours") (hdd : 1 + 1 ≤ d) (hst : k_cat st ≤ 8) (hd : decode cc pc = .ok (.invokestatic 79, 3)) (h : ∀ r τ, kJ X (pc + 3) L (ki r :: st) τ (G r τ) Θ) : kJ X pc L (ki x1 :: kr 44 :: st) σ (kCall (fDe_leastOf_44 x1 σ) G) Θ :=
  k_callS (np := 2) (av := [kr 44, ki x1]) (ret := (some .int)) hX (sDe_leastOf_44 _ σ) ⟨⟨hdd, by decide⟩, tw_814, tw_10, by decide +kernel⟩ rfl tw_812 tw_813 hst hd h
theorem dDe_cheapestMove_44_0 : decode prog_2_method_4_code 0 = .ok (.ldc 52, 2) := by decide +kernel
theorem dDe_cheapestMove_44_2 : decode prog_2_method_4_code 2 = .ok (.istore 4, 2) := by decide +kernel
theorem dDe_cheapestMove_44_4 : decode prog_2_method_4_code 4 = .ok (.iconst 0, 1) := by decide +kernel
theorem dDe_cheapestMove_44_5 : decode prog_2_method_4_code 5 = .ok (.istore 5, 2) := by decide +kernel
theorem dDe_cheapestMove_44_7 : decode prog_2_method_4_code 7 = .ok (.iload 5, 2) := by decide +kernel
theorem dDe_cheapestMove_44_9 : decode prog_2_method_4_code 9 = .ok (.bipush 24, 2) := by decide +kernel
theorem dDe_cheapestMove_44_11 : decode prog_2_method_4_code 11 = .ok (.if_icmp .ge 35, 3) := by decide +kernel
theorem dDe_cheapestMove_44_14 : decode prog_2_method_4_code 14 = .ok (.iload 4, 2) := by decide +kernel
theorem dDe_cheapestMove_44_16 : decode prog_2_method_4_code 16 = .ok (.aload_n 1, 1) := by decide +kernel
theorem dDe_cheapestMove_44_17 : decode prog_2_method_4_code 17 = .ok (.iload_n 2, 1) := by decide +kernel
theorem dDe_cheapestMove_44_18 : decode prog_2_method_4_code 18 = .ok (.iload 5, 2) := by decide +kernel
theorem dDe_cheapestMove_44_20 : decode prog_2_method_4_code 20 = .ok (.iadd, 1) := by decide +kernel
theorem dDe_cheapestMove_44_21 : decode prog_2_method_4_code 21 = .ok (.iaload, 1) := by decide +kernel
theorem dDe_cheapestMove_44_22 : decode prog_2_method_4_code 22 = .ok (.aload_n 0, 1) := by decide +kernel
theorem dDe_cheapestMove_44_23 : decode prog_2_method_4_code 23 = .ok (.getfield 53, 3) := by decide +kernel
theorem dDe_cheapestMove_44_26 : decode prog_2_method_4_code 26 = .ok (.iload 5, 2) := by decide +kernel
theorem dDe_cheapestMove_44_28 : decode prog_2_method_4_code 28 = .ok (.bipush 24, 2) := by decide +kernel
theorem dDe_cheapestMove_44_30 : decode prog_2_method_4_code 30 = .ok (.imul, 1) := by decide +kernel
theorem dDe_cheapestMove_44_31 : decode prog_2_method_4_code 31 = .ok (.iload_n 3, 1) := by decide +kernel
theorem dDe_cheapestMove_44_32 : decode prog_2_method_4_code 32 = .ok (.iadd, 1) := by decide +kernel
theorem dDe_cheapestMove_44_33 : decode prog_2_method_4_code 33 = .ok (.iaload, 1) := by decide +kernel
theorem dDe_cheapestMove_44_34 : decode prog_2_method_4_code 34 = .ok (.iadd, 1) := by decide +kernel
theorem dDe_cheapestMove_44_35 : decode prog_2_method_4_code 35 = .ok (.invokestatic 56, 3) := by decide +kernel
theorem dDe_cheapestMove_44_38 : decode prog_2_method_4_code 38 = .ok (.istore 4, 2) := by decide +kernel
theorem dDe_cheapestMove_44_40 : decode prog_2_method_4_code 40 = .ok (.iinc 5 1, 3) := by decide +kernel
theorem dDe_cheapestMove_44_43 : decode prog_2_method_4_code 43 = .ok (.goto (-36), 3) := by decide +kernel
theorem dDe_cheapestMove_44_46 : decode prog_2_method_4_code 46 = .ok (.iload 4, 2) := by decide +kernel
theorem dDe_cheapestMove_44_48 : decode prog_2_method_4_code 48 = .ok (.ireturn, 1) := by decide +kernel
set_option maxRecDepth 100000 in
set_option maxHeartbeats 4000000 in
theorem tDe_cheapestMove_44_J46 {X : KC} {q : Int × KM} (hX : kOk X 1 prog_2_method_4_code 6 "KeyPath$Detours") (hR : kRet X (some .int) q) (x4 : Int) (σ : KM) {Θ : (Int × KM) → Prop} (hT : ∀ z, Θ (z) → z = q) : kJ X 46 [lq 8, lq 44, none, none, li x4, none] [] σ (fDe_cheapestMove_44_J46 x4 σ) Θ := by
  refine k_iload hX dDe_cheapestMove_44_46 rfl ?_
  exact k_iret hX hR hT dDe_cheapestMove_44_48
set_option maxRecDepth 100000 in
set_option maxHeartbeats 4000000 in
theorem tDe_cheapestMove_44_B7 {X : KC} {q : Int × KM} (hX : kOk X 1 prog_2_method_4_code 6 "KeyPath$Detours") (hR : kRet X (some .int) q) (x2 x3 x4 x5 : Int) (σ : KM) {Θ : ((Int × Int × KM) ⊕ (Int × KM)) → Prop} (hT : ∀ z, Θ (.inr (z)) → z = q) (hb0 : ∀ s : Int × Int × KM, Θ (.inl s) → kW X 7 [lq 8, lq 44, li x2, li x3, li s.1, li s.2.1] [] s.2.2) : kJ X 7 [lq 8, lq 44, li x2, li x3, li x4, li x5] [] σ (fDe_cheapestMove_44_B7 x2 x3 x4 x5 σ) Θ := by
  refine k_iload hX dDe_cheapestMove_44_7 rfl ?_
  refine k_bipush hX dDe_cheapestMove_44_9 (by decide) ?_
  refine k_icmp_ge (tgt := 46) hX dDe_cheapestMove_44_11 (by decide) ?_ ?_
  · refine k_exit ?_
    refine k_less [true, true, false, false, true, false] (L' := [lq 8, lq 44, none, none, li x4, none]) rfl ?_
    exact tDe_cheapestMove_44_J46 hX hR x4 σ hT
  · refine k_iload hX dDe_cheapestMove_44_14 rfl ?_
    refine k_aload_n hX dDe_cheapestMove_44_16 rfl ?_
    refine k_iload_n hX dDe_cheapestMove_44_17 rfl ?_
    refine k_iload hX dDe_cheapestMove_44_18 rfl ?_
    refine k_iadd hX dDe_cheapestMove_44_20 ?_
    refine k_iald hX (by decide) rfl dDe_cheapestMove_44_21 rfl (fun y1 => ?_)
    refine k_aload_n hX dDe_cheapestMove_44_22 rfl ?_
    refine gf_115 hX dDe_cheapestMove_44_23 ?_
    refine k_iload hX dDe_cheapestMove_44_26 rfl ?_
    refine k_bipush hX dDe_cheapestMove_44_28 (by decide) ?_
    refine k_imul hX dDe_cheapestMove_44_30 ?_
    refine k_iload_n hX dDe_cheapestMove_44_31 rfl ?_
    refine k_iadd hX dDe_cheapestMove_44_32 ?_
    refine k_iald hX (by decide) rfl dDe_cheapestMove_44_33 rfl (fun y2 => ?_)
    refine k_iadd hX dDe_cheapestMove_44_34 ?_
    refine k_mmin hX (by decide) (Nat.le_of_ble_eq_true rfl) tw_768 tw_379 tw_12 tw_380 dDe_cheapestMove_44_35 (fun y3 => ?_)
    refine k_istore (L' := [lq 8, lq 44, li x2, li x3, li y3, li x5]) hX dDe_cheapestMove_44_38 rfl (by decide) rfl ?_
    refine k_iincL (Lf := fun y4 => [lq 8, lq 44, li x2, li x3, li y3, li y4]) hX dDe_cheapestMove_44_40 rfl (by decide) rfl (fun _ => rfl) (fun y4 => ?_)
    refine k_goto (tgt := 7) hX dDe_cheapestMove_44_43 (by decide) ?_
    exact k_back (hb0 (y3, y4, σ))
set_option maxRecDepth 100000 in
set_option maxHeartbeats 4000000 in
theorem tDe_cheapestMove_44_L7 {X : KC} {q : Int × KM} (hX : kOk X 1 prog_2_method_4_code 6 "KeyPath$Detours") (hR : kRet X (some .int) q) (x2 x3 x4 x5 : Int) (σ : KM) {Θ : (Int × KM) → Prop} (hT : ∀ z, Θ (z) → z = q) : kJ X 7 [lq 8, lq 44, li x2, li x3, li x4, li x5] [] σ (fDe_cheapestMove_44_L7 x2 x3 x4 x5 σ) Θ :=
  k_iter (f := fun s => fDe_cheapestMove_44_B7 x2 x3 s.1 s.2.1 s.2.2) (Lf := fun s => [lq 8, lq 44, li x2, li x3, li s.1, li s.2.1]) (mf := fun s => s.2.2) (Θ := Θ) (fun s => tDe_cheapestMove_44_B7 hX hR x2 x3 s.1 s.2.1 s.2.2 hT (fun _ h9 => h9)) kF (x4, x5, σ)
set_option maxRecDepth 100000 in
set_option maxHeartbeats 4000000 in
theorem sDe_cheapestMove_44 (x2 x3 : Int) (σ : KM) : kSem 1 (⟨"KeyPath$Detours", "cheapestMove", "(LKeyPath$PathFinder;[III)I"⟩ : MethodName) prog_2_method_4_code 6 (some .int) [kr 8, kr 44, ki x2, ki x3] σ (fDe_cheapestMove_44 x2 x3 σ) := by
  refine kSem.of (L0 := [lq 8, lq 44, li x2, li x3, none, none]) (by decide) (Nat.le_of_ble_eq_true rfl) rfl (fun X q hX hR => ?_)
  have hT : ∀ z : Int × KM, (fun z => z = q) z → z = q := fun _ h => h
  refine k_ldc (v := 1000000000) (w := 0) hX dDe_cheapestMove_44_0 tw_767 ?_
  refine k_istore (L' := [lq 8, lq 44, li x2, li x3, li 1000000000, none]) hX dDe_cheapestMove_44_2 rfl (by decide) rfl ?_
  refine k_iconst hX dDe_cheapestMove_44_4 ?_
  refine k_istore (L' := [lq 8, lq 44, li x2, li x3, li 1000000000, li 0]) hX dDe_cheapestMove_44_5 rfl (by decide) rfl ?_
  exact tDe_cheapestMove_44_L7 hX hR x2 x3 1000000000 0 σ hT
theorem cl_58 {X : KC} {d n : Nat} {cc : ByteArray} {pc : Nat} {L : List (Option KV)} {st : List KV} {σ : KM} {Z : Type} {Θ : Z → Prop} {G : Int → KM → Option Z} {x2 x3 : Int} (hX : kOk X d cc n "KeyPath$Detours") (hdd : 1 + 1 ≤ d) (hst : k_cat st ≤ 8) (hd : decode cc pc = .ok (.invokestatic 41, 3)) (h : ∀ r τ, kJ X (pc + 3) L (ki r :: st) τ (G r τ) Θ) : kJ X pc L (ki x3 :: ki x2 :: kr 44 :: kr 8 :: st) σ (kCall (fDe_cheapestMove_44 x2 x3 σ) G) Θ :=
  k_callS (np := 4) (av := [kr 8, kr 44, ki x2, ki x3]) (ret := (some .int)) hX (sDe_cheapestMove_44 _ _ σ) ⟨⟨hdd, by decide⟩, tw_766, tw_10, by decide +kernel⟩ rfl tw_764 tw_765 hst hd h
theorem dDe_settle_0 : decode prog_2_method_12_code 0 = .ok (.iload_n 3, 1) := by decide +kernel
theorem dDe_settle_1 : decode prog_2_method_12_code 1 = .ok (.bipush 24, 2) := by decide +kernel
theorem dDe_settle_3 : decode prog_2_method_12_code 3 = .ok (.imul, 1) := by decide +kernel
theorem dDe_settle_4 : decode prog_2_method_12_code 4 = .ok (.iload 4, 2) := by decide +kernel
theorem dDe_settle_6 : decode prog_2_method_12_code 6 = .ok (.iadd, 1) := by decide +kernel
theorem dDe_settle_7 : decode prog_2_method_12_code 7 = .ok (.istore 5, 2) := by decide +kernel
theorem dDe_settle_9 : decode prog_2_method_12_code 9 = .ok (.ldc 52, 2) := by decide +kernel
theorem dDe_settle_11 : decode prog_2_method_12_code 11 = .ok (.istore 6, 2) := by decide +kernel
theorem dDe_settle_13 : decode prog_2_method_12_code 13 = .ok (.iload_n 3, 1) := by decide +kernel
theorem dDe_settle_14 : decode prog_2_method_12_code 14 = .ok (.ifCond .le 25, 3) := by decide +kernel
theorem dDe_settle_17 : decode prog_2_method_12_code 17 = .ok (.aload_n 0, 1) := by decide +kernel
theorem dDe_settle_18 : decode prog_2_method_12_code 18 = .ok (.getfield 21, 3) := by decide +kernel
theorem dDe_settle_21 : decode prog_2_method_12_code 21 = .ok (.iload 5, 2) := by decide +kernel
theorem dDe_settle_23 : decode prog_2_method_12_code 23 = .ok (.bipush 24, 2) := by decide +kernel
theorem dDe_settle_25 : decode prog_2_method_12_code 25 = .ok (.isub, 1) := by decide +kernel
theorem dDe_settle_26 : decode prog_2_method_12_code 26 = .ok (.iaload, 1) := by decide +kernel
theorem dDe_settle_27 : decode prog_2_method_12_code 27 = .ok (.aload_n 1, 1) := by decide +kernel
theorem dDe_settle_28 : decode prog_2_method_12_code 28 = .ok (.getfield 45, 3) := by decide +kernel
theorem dDe_settle_31 : decode prog_2_method_12_code 31 = .ok (.iload 5, 2) := by decide +kernel
theorem dDe_settle_33 : decode prog_2_method_12_code 33 = .ok (.iaload, 1) := by decide +kernel
theorem dDe_settle_34 : decode prog_2_method_12_code 34 = .ok (.invokestatic 48, 3) := by decide +kernel
theorem dDe_settle_37 : decode prog_2_method_12_code 37 = .ok (.istore 6, 2) := by decide +kernel
theorem dDe_settle_39 : decode prog_2_method_12_code 39 = .ok (.iload_n 3, 1) := by decide +kernel
theorem dDe_settle_40 : decode prog_2_method_12_code 40 = .ok (.iload_n 2, 1) := by decide +kernel
theorem dDe_settle_41 : decode prog_2_method_12_code 41 = .ok (.isub, 1) := by decide +kernel
theorem dDe_settle_42 : decode prog_2_method_12_code 42 = .ok (.iconst 1, 1) := by decide +kernel
theorem dDe_settle_43 : decode prog_2_method_12_code 43 = .ok (.iadd, 1) := by decide +kernel
theorem dDe_settle_44 : decode prog_2_method_12_code 44 = .ok (.istore 7, 2) := by decide +kernel
theorem dDe_settle_46 : decode prog_2_method_12_code 46 = .ok (.iload 7, 2) := by decide +kernel
theorem dDe_settle_48 : decode prog_2_method_12_code 48 = .ok (.ifCond .ge 6, 3) := by decide +kernel
theorem dDe_settle_51 : decode prog_2_method_12_code 51 = .ok (.iload 6, 2) := by decide +kernel
theorem dDe_settle_53 : decode prog_2_method_12_code 53 = .ok (.ireturn, 1) := by decide +kernel
theorem dDe_settle_54 : decode prog_2_method_12_code 54 = .ok (.iconst 0, 1) := by decide +kernel
theorem dDe_settle_55 : decode prog_2_method_12_code 55 = .ok (.istore 8, 2) := by decide +kernel
theorem dDe_settle_57 : decode prog_2_method_12_code 57 = .ok (.iload 7, 2) := by decide +kernel
theorem dDe_settle_59 : decode prog_2_method_12_code 59 = .ok (.ifCond .le 37, 3) := by decide +kernel
theorem dDe_settle_62 : decode prog_2_method_12_code 62 = .ok (.aload_n 1, 1) := by decide +kernel
theorem dDe_settle_63 : decode prog_2_method_12_code 63 = .ok (.getfield 37, 3) := by decide +kernel
theorem dDe_settle_66 : decode prog_2_method_12_code 66 = .ok (.iload 7, 2) := by decide +kernel
theorem dDe_settle_68 : decode prog_2_method_12_code 68 = .ok (.baload, 1) := by decide +kernel
theorem dDe_settle_69 : decode prog_2_method_12_code 69 = .ok (.ifCond .eq 8, 3) := by decide +kernel
theorem dDe_settle_72 : decode prog_2_method_12_code 72 = .ok (.ldc 52, 2) := by decide +kernel
theorem dDe_settle_74 : decode prog_2_method_12_code 74 = .ok (.goto 20, 3) := by decide +kernel
theorem dDe_settle_77 : decode prog_2_method_12_code 77 = .ok (.aload_n 1, 1) := by decide +kernel
theorem dDe_settle_78 : decode prog_2_method_12_code 78 = .ok (.aload_n 0, 1) := by decide +kernel
theorem dDe_settle_79 : decode prog_2_method_12_code 79 = .ok (.getfield 21, 3) := by decide +kernel
theorem dDe_settle_82 : decode prog_2_method_12_code 82 = .ok (.iload 7, 2) := by decide +kernel
theorem dDe_settle_84 : decode prog_2_method_12_code 84 = .ok (.iconst 1, 1) := by decide +kernel
theorem dDe_settle_85 : decode prog_2_method_12_code 85 = .ok (.isub, 1) := by decide +kernel
theorem dDe_settle_86 : decode prog_2_method_12_code 86 = .ok (.bipush 24, 2) := by decide +kernel
theorem dDe_settle_88 : decode prog_2_method_12_code 88 = .ok (.imul, 1) := by decide +kernel
theorem dDe_settle_89 : decode prog_2_method_12_code 89 = .ok (.iload 4, 2) := by decide +kernel
theorem dDe_settle_91 : decode prog_2_method_12_code 91 = .ok (.invokestatic 41, 3) := by decide +kernel
theorem dDe_settle_94 : decode prog_2_method_12_code 94 = .ok (.istore 8, 2) := by decide +kernel
theorem dDe_settle_96 : decode prog_2_method_12_code 96 = .ok (.iload 7, 2) := by decide +kernel
theorem dDe_settle_98 : decode prog_2_method_12_code 98 = .ok (.istore 9, 2) := by decide +kernel
theorem dDe_settle_100 : decode prog_2_method_12_code 100 = .ok (.iload 9, 2) := by decide +kernel
theorem dDe_settle_102 : decode prog_2_method_12_code 102 = .ok (.iload_n 3, 1) := by decide +kernel
theorem dDe_settle_103 : decode prog_2_method_12_code 103 = .ok (.if_icmp .gt 29, 3) := by decide +kernel
theorem dDe_settle_106 : decode prog_2_method_12_code 106 = .ok (.iload 8, 2) := by decide +kernel
theorem dDe_settle_108 : decode prog_2_method_12_code 108 = .ok (.aload_n 1, 1) := by decide +kernel
theorem dDe_settle_109 : decode prog_2_method_12_code 109 = .ok (.getfield 45, 3) := by decide +kernel
theorem dDe_settle_112 : decode prog_2_method_12_code 112 = .ok (.iload 9, 2) := by decide +kernel
theorem dDe_settle_114 : decode prog_2_method_12_code 114 = .ok (.bipush 24, 2) := by decide +kernel
theorem dDe_settle_116 : decode prog_2_method_12_code 116 = .ok (.imul, 1) := by decide +kernel
theorem dDe_settle_117 : decode prog_2_method_12_code 117 = .ok (.iload 4, 2) := by decide +kernel
theorem dDe_settle_119 : decode prog_2_method_12_code 119 = .ok (.iadd, 1) := by decide +kernel
theorem dDe_settle_120 : decode prog_2_method_12_code 120 = .ok (.iaload, 1) := by decide +kernel
theorem dDe_settle_121 : decode prog_2_method_12_code 121 = .ok (.invokestatic 48, 3) := by decide +kernel
theorem dDe_settle_124 : decode prog_2_method_12_code 124 = .ok (.istore 8, 2) := by decide +kernel
theorem dDe_settle_126 : decode prog_2_method_12_code 126 = .ok (.iinc 9 1, 3) := by decide +kernel
theorem dDe_settle_129 : decode prog_2_method_12_code 129 = .ok (.goto (-29), 3) := by decide +kernel
theorem dDe_settle_132 : decode prog_2_method_12_code 132 = .ok (.iload 6, 2) := by decide +kernel
theorem dDe_settle_134 : decode prog_2_method_12_code 134 = .ok (.iload 8, 2) := by decide +kernel
theorem dDe_settle_136 : decode prog_2_method_12_code 136 = .ok (.invokestatic 56, 3) := by decide +kernel
theorem dDe_settle_139 : decode prog_2_method_12_code 139 = .ok (.ireturn, 1) := by decide +kernel
set_option maxRecDepth 100000 in
set_option maxHeartbeats 4000000 in
theorem tDe_settle_J132 {X : KC} {q : Int × KM} (hX : kOk X 2 prog_2_method_12_code 10 "KeyPath$Detours") (hR : kRet X (some .int) q) (x6 x8 : Int) (σ : KM) {Θ : (Int × KM) → Prop} (hT : ∀ z, Θ (z) → z = q) : kJ X 132 [lq 9, lq 8, none, none, none, none, li x6, none, li x8, none] [] σ (fDe_settle_J132 x6 x8 σ) Θ := by
  refine k_iload hX dDe_settle_132 rfl ?_
  refine k_iload hX dDe_settle_134 rfl ?_
  refine k_mmin hX (by decide) (Nat.le_of_ble_eq_true rfl) tw_768 tw_379 tw_12 tw_380 dDe_settle_136 (fun y1 => ?_)
  exact k_iret hX hR hT dDe_settle_139
set_option maxRecDepth 100000 in
set_option maxHeartbeats 4000000 in
theorem tDe_settle_B100 {X : KC} {q : Int × KM} (hX : kOk X 2 prog_2_method_12_code 10 "KeyPath$Detours") (hR : kRet X (some .int) q) (x3 x4 x6 x8 x9 : Int) (σ : KM) {Θ : ((Int × Int × KM) ⊕ (Int × KM)) → Prop} (hT : ∀ z, Θ (.inr (z)) → z = q) (hb0 : ∀ s : Int × Int × KM, Θ (.inl s) → kW X 100 [lq 9, lq 8, none, li x3, li x4, none, li x6, none, li s.1, li s.2.1] [] s.2.2) : kJ X 100 [lq 9, lq 8, none, li x3, li x4, none, li x6, none, li x8, li x9] [] σ (fDe_settle_B100 x3 x4 x6 x8 x9 σ) Θ := by
  refine k_iload hX dDe_settle_100 rfl ?_
  refine k_iload_n hX dDe_settle_102 rfl ?_
  refine k_icmp_gt (tgt := 132) hX dDe_settle_103 (by decide) ?_ ?_
  · refine k_exit ?_
    refine k_less [true, true, true, false, false, true, true, true, true, false] (L' := [lq 9, lq 8, none, none, none, none, li x6, none, li x8, none]) rfl ?_
    exact tDe_settle_J132 hX hR x6 x8 σ hT
  · refine k_iload hX dDe_settle_106 rfl ?_
    refine k_aload_n hX dDe_settle_108 rfl ?_
    refine gf_113 hX dDe_settle_109 ?_
    refine k_iload hX dDe_settle_112 rfl ?_
    refine k_bipush hX dDe_settle_114 (by decide) ?_
    refine k_imul hX dDe_settle_116 ?_
    refine k_iload hX dDe_settle_117 rfl ?_
    refine k_iadd hX dDe_settle_119 ?_
    refine k_iald hX (by decide) rfl dDe_settle_120 rfl (fun y1 => ?_)
    refine cl_57 hX (by decide) (Nat.le_of_ble_eq_true rfl) dDe_settle_121 (fun r3 τ2 => ?_)
    refine k_istore (L' := [lq 9, lq 8, none, li x3, li x4, none, li x6, none, li r3, li x9]) hX dDe_settle_124 rfl (by decide) rfl ?_
    refine k_iincL (Lf := fun y4 => [lq 9, lq 8, none, li x3, li x4, none, li x6, none, li r3, li y4]) hX dDe_settle_126 rfl (by decide) rfl (fun _ => rfl) (fun y4 => ?_)
    refine k_goto (tgt := 100) hX dDe_settle_129 (by decide) ?_
    exact k_back (hb0 (r3, y4, τ2))
set_option maxRecDepth 100000 in
set_option maxHeartbeats 4000000 in
theorem tDe_settle_L100 {X : KC} {q : Int × KM} (hX : kOk X 2 prog_2_method_12_code 10 "KeyPath$Detours") (hR : kRet X (some .int) q) (x3 x4 x6 x8 x9 : Int) (σ : KM) {Θ : (Int × KM) → Prop} (hT : ∀ z, Θ (z) → z = q) : kJ X 100 [lq 9, lq 8, none, li x3, li x4, none, li x6, none, li x8, li x9] [] σ (fDe_settle_L100 x3 x4 x6 x8 x9 σ) Θ :=
  k_iter (f := fun s => fDe_settle_B100 x3 x4 x6 s.1 s.2.1 s.2.2) (Lf := fun s => [lq 9, lq 8, none, li x3, li x4, none, li x6, none, li s.1, li s.2.1]) (mf := fun s => s.2.2) (Θ := Θ) (fun s => tDe_settle_B100 hX hR x3 x4 x6 s.1 s.2.1 s.2.2 hT (fun _ h9 => h9)) kF (x8, x9, σ)
set_option maxRecDepth 100000 in
set_option maxHeartbeats 4000000 in
theorem tDe_settle_J96 {X : KC} {q : Int × KM} (hX : kOk X 2 prog_2_method_12_code 10 "KeyPath$Detours") (hR : kRet X (some .int) q) (x3 x4 x6 x7 x8 : Int) (σ : KM) {Θ : (Int × KM) → Prop} (hT : ∀ z, Θ (z) → z = q) : kJ X 96 [lq 9, lq 8, none, li x3, li x4, none, li x6, li x7, li x8, none] [] σ (fDe_settle_J96 x3 x4 x6 x7 x8 σ) Θ := by
  refine k_iload hX dDe_settle_96 rfl ?_
  refine k_istore (L' := [lq 9, lq 8, none, li x3, li x4, none, li x6, li x7, li x8, li x7]) hX dDe_settle_98 rfl (by decide) rfl ?_
  refine k_less [true, true, true, true, true, true, true, false, true, true] (L' := [lq 9, lq 8, none, li x3, li x4, none, li x6, none, li x8, li x7]) rfl ?_
  exact tDe_settle_L100 hX hR x3 x4 x6 x8 x7 σ hT
set_option maxRecDepth 100000 in
set_option maxHeartbeats 4000000 in
theorem tDe_settle_J94 {X : KC} {q : Int × KM} (hX : kOk X 2 prog_2_method_12_code 10 "KeyPath$Detours") (hR : kRet X (some .int) q) (x3 x4 x6 x7 t0 : Int) (σ : KM) {Θ : (Int × KM) → Prop} (hT : ∀ z, Θ (z) → z = q) : kJ X 94 [lq 9, lq 8, none, li x3, li x4, none, li x6, li x7, none, none] [ki t0] σ (fDe_settle_J94 x3 x4 x6 x7 t0 σ) Θ := by
  refine k_istore (L' := [lq 9, lq 8, none, li x3, li x4, none, li x6, li x7, li t0, none]) hX dDe_settle_94 rfl (by decide) rfl ?_
  exact tDe_settle_J96 hX hR x3 x4 x6 x7 t0 σ hT
set_option maxRecDepth 100000 in
set_option maxHeartbeats 4000000 in
theorem tDe_settle_J39 {X : KC} {q : Int × KM} (hX : kOk X 2 prog_2_method_12_code 10 "KeyPath$Detours") (hR : kRet X (some .int) q) (x2 x3 x4 x6 : Int) (σ : KM) {Θ : (Int × KM) → Prop} (hT : ∀ z, Θ (z) → z = q) : kJ X 39 [lq 9, lq 8, li x2, li x3, li x4, none, li x6, none, none, none] [] σ (fDe_settle_J39 x2 x3 x4 x6 σ) Θ := by
  refine k_iload_n hX dDe_settle_39 rfl ?_
  refine k_iload_n hX dDe_settle_40 rfl ?_
  refine k_isub hX dDe_settle_41 ?_
  refine k_iconst hX dDe_settle_42 ?_
  refine k_iadd hX dDe_settle_43 ?_
  refine k_istoreL (Lf := fun y1 => [lq 9, lq 8, li x2, li x3, li x4, none, li x6, li y1, none, none]) hX dDe_settle_44 rfl (by decide) (fun _ => rfl) (fun y1 => ?_)
  refine k_iload hX dDe_settle_46 rfl ?_
  refine k_if_ge (tgt := 54) hX dDe_settle_48 (by decide) ?_ ?_
  · refine k_iconst hX dDe_settle_54 ?_
    refine k_istore (L' := [lq 9, lq 8, li x2, li x3, li x4, none, li x6, li y1, li 0, none]) hX dDe_settle_55 rfl (by decide) rfl ?_
    refine k_iload hX dDe_settle_57 rfl ?_
    refine k_if_le (tgt := 96) hX dDe_settle_59 (by decide) ?_ ?_
    · refine k_less [true, true, false, true, true, true, true, true, true, true] (L' := [lq 9, lq 8, none, li x3, li x4, none, li x6, li y1, li 0, none]) rfl ?_
      exact tDe_settle_J96 hX hR x3 x4 x6 y1 0 σ hT
    · refine k_aload_n hX dDe_settle_62 rfl ?_
      refine gf_114 hX dDe_settle_63 ?_
      refine k_iload hX dDe_settle_66 rfl ?_
      refine k_zald hX (by decide) rfl dDe_settle_68 rfl (fun y2 => ?_)
      refine k_if_eq (tgt := 77) hX dDe_settle_69 (by decide) ?_ ?_
      · refine k_aload_n hX dDe_settle_77 rfl ?_
        refine k_aload_n hX dDe_settle_78 rfl ?_
        refine gf_112 hX dDe_settle_79 ?_
        refine k_iload hX dDe_settle_82 rfl ?_
        refine k_iconst hX dDe_settle_84 ?_
        refine k_isub hX dDe_settle_85 ?_
        refine k_bipush hX dDe_settle_86 (by decide) ?_
        refine k_imul hX dDe_settle_88 ?_
        refine k_iload hX dDe_settle_89 rfl ?_
        refine cl_58 hX (by decide) (Nat.le_of_ble_eq_true rfl) dDe_settle_91 (fun r4 τ3 => ?_)
        refine k_less [true, true, false, true, true, true, true, true, false, true] (L' := [lq 9, lq 8, none, li x3, li x4, none, li x6, li y1, none, none]) rfl ?_
        exact tDe_settle_J94 hX hR x3 x4 x6 y1 r4 τ3 hT
      · refine k_ldc (v := 1000000000) (w := 0) hX dDe_settle_72 tw_767 ?_
        refine k_goto (tgt := 94) hX dDe_settle_74 (by decide) ?_
        refine k_less [true, true, false, true, true, true, true, true, false, true] (L' := [lq 9, lq 8, none, li x3, li x4, none, li x6, li y1, none, none]) rfl ?_
        exact tDe_settle_J94 hX hR x3 x4 x6 y1 1000000000 σ hT
  · refine k_iload hX dDe_settle_51 rfl ?_
    exact k_iret hX hR hT dDe_settle_53
set_option maxRecDepth 100000 in
set_option maxHeartbeats 4000000 in
theorem sDe_settle (x2 x3 x4 : Int) (σ : KM) : kSem 2 (⟨"KeyPath$Detours", "settle", "(LKeyPath$PathFinder;III)I"⟩ : MethodName) prog_2_method_12_code 10 (some .int) [kr 9, kr 8, ki x2, ki x3, ki x4] σ (fDe_settle x2 x3 x4 σ) := by
  refine kSem.of (L0 := [lq 9, lq 8, li x2, li x3, li x4, none, none, none, none, none]) (by decide) (Nat.le_of_ble_eq_true rfl) rfl (fun X q hX hR => ?_)
  have hT : ∀ z : Int × KM, (fun z => z = q) z → z = q := fun _ h => h
  refine k_iload_n hX dDe_settle_0 rfl ?_
  refine k_bipush hX dDe_settle_1 (by decide) ?_
  refine k_imul hX dDe_settle_3 ?_
  refine k_iload hX dDe_settle_4 rfl ?_
  refine k_iadd hX dDe_settle_6 ?_
  refine k_istoreL (Lf := fun y1 => [lq 9, lq 8, li x2, li x3, li x4, li y1, none, none, none, none]) hX dDe_settle_7 rfl (by decide) (fun _ => rfl) (fun y1 => ?_)
  refine k_ldc (v := 1000000000) (w := 0) hX dDe_settle_9 tw_767 ?_
  refine k_istore (L' := [lq 9, lq 8, li x2, li x3, li x4, li y1, li 1000000000, none, none, none]) hX dDe_settle_11 rfl (by decide) rfl ?_
  refine k_iload_n hX dDe_settle_13 rfl ?_
  refine k_if_le (tgt := 39) hX dDe_settle_14 (by decide) ?_ ?_
  · refine k_less [true, true, true, true, true, false, true, true, true, true] (L' := [lq 9, lq 8, li x2, li x3, li x4, none, li 1000000000, none, none, none]) rfl ?_
    exact tDe_settle_J39 hX hR x2 x3 x4 1000000000 σ hT
  · refine k_aload_n hX dDe_settle_17 rfl ?_
    refine gf_112 hX dDe_settle_18 ?_
    refine k_iload hX dDe_settle_21 rfl ?_
    refine k_bipush hX dDe_settle_23 (by decide) ?_
    refine k_isub hX dDe_settle_25 ?_
    refine k_iald hX (by decide) rfl dDe_settle_26 rfl (fun y2 => ?_)
    refine k_aload_n hX dDe_settle_27 rfl ?_
    refine gf_113 hX dDe_settle_28 ?_
    refine k_iload hX dDe_settle_31 rfl ?_
    refine k_iald hX (by decide) rfl dDe_settle_33 rfl (fun y3 => ?_)
    refine cl_57 hX (by decide) (Nat.le_of_ble_eq_true rfl) dDe_settle_34 (fun r5 τ4 => ?_)
    refine k_istore (L' := [lq 9, lq 8, li x2, li x3, li x4, li y1, li r5, none, none, none]) hX dDe_settle_37 rfl (by decide) rfl ?_
    refine k_less [true, true, true, true, true, false, true, true, true, true] (L' := [lq 9, lq 8, li x2, li x3, li x4, none, li r5, none, none, none]) rfl ?_
    exact tDe_settle_J39 hX hR x2 x3 x4 r5 τ4 hT
theorem cl_59 {X : KC} {d n : Nat} {cc : ByteArray} {pc : Nat} {L : List (Option KV)} {st : List KV} {σ : KM} {Z : Type} {Θ : Z → Prop} {G : Int → KM → Option Z} {x2 x3 x4 : Int} (hX : kOk X d cc n "KeyPath$Detours") (hdd : 2 + 1 ≤ d) (hst : k_cat st ≤ 8) (hd : decode cc pc = .ok (.invokevirtual 83, 3)) (h : ∀ r τ, kJ X (pc + 3) L (ki r :: st) τ (G r τ) Θ) : kJ X pc L (ki x4 :: ki x3 :: ki x2 :: kr 8 :: kr 9 :: st) σ (kCall (fDe_settle x2 x3 x4 σ) G) Θ :=
  k_callV (np := 4) (av := [kr 8, ki x2, ki x3, ki x4]) (ret := (some .int)) hX (by decide) rfl rfl rfl (sDe_settle _ _ _ σ) ⟨⟨hdd, by decide⟩, tw_826, tw_10, by decide +kernel⟩ rfl tw_823 tw_825 ts_34 hst hd h
theorem dDe_leastLasting_0 : decode prog_2_method_11_code 0 = .ok (.aload_n 1, 1) := by decide +kernel
theorem dDe_leastLasting_1 : decode prog_2_method_11_code 1 = .ok (.getfield 31, 3) := by decide +kernel
theorem dDe_leastLasting_4 : decode prog_2_method_11_code 4 = .ok (.ifCond .ne 5, 3) := by decide +kernel
theorem dDe_leastLasting_7 : decode prog_2_method_11_code 7 = .ok (.iconst 0, 1) := by decide +kernel
theorem dDe_leastLasting_8 : decode prog_2_method_11_code 8 = .ok (.ireturn, 1) := by decide +kernel
theorem dDe_leastLasting_9 : decode prog_2_method_11_code 9 = .ok (.iconst 0, 1) := by decide +kernel
theorem dDe_leastLasting_10 : decode prog_2_method_11_code 10 = .ok (.istore_n 3, 1) := by decide +kernel
theorem dDe_leastLasting_11 : decode prog_2_method_11_code 11 = .ok (.iload_n 3, 1) := by decide +kernel
theorem dDe_leastLasting_12 : decode prog_2_method_11_code 12 = .ok (.aload_n 1, 1) := by decide +kernel
theorem dDe_leastLasting_13 : decode prog_2_method_11_code 13 = .ok (.getfield 31, 3) := by decide +kernel
theorem dDe_leastLasting_16 : decode prog_2_method_11_code 16 = .ok (.if_icmp .ge 46, 3) := by decide +kernel
theorem dDe_leastLasting_19 : decode prog_2_method_11_code 19 = .ok (.iconst 0, 1) := by decide +kernel
theorem dDe_leastLasting_20 : decode prog_2_method_11_code 20 = .ok (.istore 4, 2) := by decide +kernel
theorem dDe_leastLasting_22 : decode prog_2_method_11_code 22 = .ok (.iload 4, 2) := by decide +kernel
theorem dDe_leastLasting_24 : decode prog_2_method_11_code 24 = .ok (.bipush 24, 2) := by decide +kernel
theorem dDe_leastLasting_26 : decode prog_2_method_11_code 26 = .ok (.if_icmp .ge 30, 3) := by decide +kernel
theorem dDe_leastLasting_29 : decode prog_2_method_11_code 29 = .ok (.aload_n 0, 1) := by decide +kernel
theorem dDe_leastLasting_30 : decode prog_2_method_11_code 30 = .ok (.getfield 21, 3) := by decide +kernel
theorem dDe_leastLasting_33 : decode prog_2_method_11_code 33 = .ok (.iload_n 3, 1) := by decide +kernel
theorem dDe_leastLasting_34 : decode prog_2_method_11_code 34 = .ok (.bipush 24, 2) := by decide +kernel
theorem dDe_leastLasting_36 : decode prog_2_method_11_code 36 = .ok (.imul, 1) := by decide +kernel
theorem dDe_leastLasting_37 : decode prog_2_method_11_code 37 = .ok (.iload 4, 2) := by decide +kernel
theorem dDe_leastLasting_39 : decode prog_2_method_11_code 39 = .ok (.iadd, 1) := by decide +kernel
theorem dDe_leastLasting_40 : decode prog_2_method_11_code 40 = .ok (.aload_n 0, 1) := by decide +kernel
theorem dDe_leastLasting_41 : decode prog_2_method_11_code 41 = .ok (.aload_n 1, 1) := by decide +kernel
theorem dDe_leastLasting_42 : decode prog_2_method_11_code 42 = .ok (.iload_n 2, 1) := by decide +kernel
theorem dDe_leastLasting_43 : decode prog_2_method_11_code 43 = .ok (.iload_n 3, 1) := by decide +kernel
theorem dDe_leastLasting_44 : decode prog_2_method_11_code 44 = .ok (.iload 4, 2) := by decide +kernel
theorem dDe_leastLasting_46 : decode prog_2_method_11_code 46 = .ok (.invokevirtual 83, 3) := by decide +kernel
theorem dDe_leastLasting_49 : decode prog_2_method_11_code 49 = .ok (.iastore, 1) := by decide +kernel
theorem dDe_leastLasting_50 : decode prog_2_method_11_code 50 = .ok (.iinc 4 1, 3) := by decide +kernel
theorem dDe_leastLasting_53 : decode prog_2_method_11_code 53 = .ok (.goto (-31), 3) := by decide +kernel
theorem dDe_leastLasting_56 : decode prog_2_method_11_code 56 = .ok (.iinc 3 1, 3) := by decide +kernel
theorem dDe_leastLasting_59 : decode prog_2_method_11_code 59 = .ok (.goto (-48), 3) := by decide +kernel
theorem dDe_leastLasting_62 : decode prog_2_method_11_code 62 = .ok (.aload_n 0, 1) := by decide +kernel
theorem dDe_leastLasting_63 : decode prog_2_method_11_code 63 = .ok (.getfield 21, 3) := by decide +kernel
theorem dDe_leastLasting_66 : decode prog_2_method_11_code 66 = .ok (.aload_n 1, 1) := by decide +kernel
theorem dDe_leastLasting_67 : decode prog_2_method_11_code 67 = .ok (.getfield 31, 3) := by decide +kernel
theorem dDe_leastLasting_70 : decode prog_2_method_11_code 70 = .ok (.iconst 1, 1) := by decide +kernel
theorem dDe_leastLasting_71 : decode prog_2_method_11_code 71 = .ok (.isub, 1) := by decide +kernel
theorem dDe_leastLasting_72 : decode prog_2_method_11_code 72 = .ok (.bipush 24, 2) := by decide +kernel
theorem dDe_leastLasting_74 : decode prog_2_method_11_code 74 = .ok (.imul, 1) := by decide +kernel
theorem dDe_leastLasting_75 : decode prog_2_method_11_code 75 = .ok (.invokestatic 79, 3) := by decide +kernel
theorem dDe_leastLasting_78 : decode prog_2_method_11_code 78 = .ok (.ireturn, 1) := by decide +kernel
set_option maxRecDepth 100000 in
set_option maxHeartbeats 4000000 in
theorem tDe_leastLasting_J62 {X : KC} {q : Int × KM} (hX : kOk X 3 prog_2_method_11_code 5 "KeyPath$Detours") (hR : kRet X (some .int) q) (σ : KM) {Θ : (Int × KM) → Prop} (hT : ∀ z, Θ (z) → z = q) : kJ X 62 [lq 9, lq 8, none, none, none] [] σ (fDe_leastLasting_J62 σ) Θ := by
  refine k_aload_n hX dDe_leastLasting_62 rfl ?_
  refine gf_112 hX dDe_leastLasting_63 ?_
  refine k_aload_n hX dDe_leastLasting_66 rfl ?_
  refine gf_111 hX dDe_leastLasting_67 ?_
  refine k_iconst hX dDe_leastLasting_70 ?_
  refine k_isub hX dDe_leastLasting_71 ?_
  refine k_bipush hX dDe_leastLasting_72 (by decide) ?_
  refine k_imul hX dDe_leastLasting_74 ?_
  refine cl_56 hX (by decide) (Nat.le_of_ble_eq_true rfl) dDe_leastLasting_75 (fun r2 τ1 => ?_)
  exact k_iret hX hR hT dDe_leastLasting_78
set_option maxRecDepth 100000 in
set_option maxHeartbeats 4000000 in
theorem tDe_leastLasting_J56 {X : KC} {q : Int × KM} (hX : kOk X 3 prog_2_method_11_code 5 "KeyPath$Detours") (hR : kRet X (some .int) q) (x2 x3 : Int) (σ : KM) {Θ : ((Int × KM) ⊕ (Int × KM)) → Prop} (hT : ∀ z, Θ (.inr (z)) → z = q) (hb0 : ∀ s : Int × KM, Θ (.inl s) → kW X 11 [lq 9, lq 8, li x2, li s.1, none] [] s.2) : kJ X 56 [lq 9, lq 8, li x2, li x3, none] [] σ (fDe_leastLasting_J56 x2 x3 σ) Θ := by
  refine k_iincL (Lf := fun y1 => [lq 9, lq 8, li x2, li y1, none]) hX dDe_leastLasting_56 rfl (by decide) rfl (fun _ => rfl) (fun y1 => ?_)
  refine k_goto (tgt := 11) hX dDe_leastLasting_59 (by decide) ?_
  exact k_back (hb0 (y1, σ))
set_option maxRecDepth 100000 in
set_option maxHeartbeats 4000000 in
theorem tDe_leastLasting_B22 {X : KC} {q : Int × KM} (hX : kOk X 3 prog_2_method_11_code 5 "KeyPath$Detours") (hR : kRet X (some .int) q) (x2 x3 x4 : Int) (σ : KM) {Θ : ((Int × KM) ⊕ ((Int × KM) ⊕ (Int × KM))) → Prop} (hT : ∀ z, Θ (.inr (.inr (z))) → z = q) (hb0 : ∀ s : Int × KM, Θ (.inl s) → kW X 22 [lq 9, lq 8, li x2, li x3, li s.1] [] s.2) (hb1 : ∀ s : Int × KM, Θ (.inr (.inl s)) → kW X 11 [lq 9, lq 8, li x2, li s.1, none] [] s.2) : kJ X 22 [lq 9, lq 8, li x2, li x3, li x4] [] σ (fDe_leastLasting_B22 x2 x3 x4 σ) Θ := by
  refine k_iload hX dDe_leastLasting_22 rfl ?_
  refine k_bipush hX dDe_leastLasting_24 (by decide) ?_
  refine k_icmp_ge (tgt := 56) hX dDe_leastLasting_26 (by decide) ?_ ?_
  · refine k_exit ?_
    refine k_less [true, true, true, true, false] (L' := [lq 9, lq 8, li x2, li x3, none]) rfl ?_
    exact tDe_leastLasting_J56 hX hR x2 x3 σ hT hb1
  · refine k_aload_n hX dDe_leastLasting_29 rfl ?_
    refine gf_112 hX dDe_leastLasting_30 ?_
    refine k_iload_n hX dDe_leastLasting_33 rfl ?_
    refine k_bipush hX dDe_leastLasting_34 (by decide) ?_
    refine k_imul hX dDe_leastLasting_36 ?_
    refine k_iload hX dDe_leastLasting_37 rfl ?_
    refine k_iadd hX dDe_leastLasting_39 ?_
    refine k_aload_n hX dDe_leastLasting_40 rfl ?_
    refine k_aload_n hX dDe_leastLasting_41 rfl ?_
    refine k_iload_n hX dDe_leastLasting_42 rfl ?_
    refine k_iload_n hX dDe_leastLasting_43 rfl ?_
    refine k_iload hX dDe_leastLasting_44 rfl ?_
    refine cl_59 hX (by decide) (Nat.le_of_ble_eq_true rfl) dDe_leastLasting_46 (fun r2 τ1 => ?_)
    refine k_iast hX (by decide) rfl dDe_leastLasting_49 rfl (fun τ3 => ?_)
    refine k_iincL (Lf := fun y4 => [lq 9, lq 8, li x2, li x3, li y4]) hX dDe_leastLasting_50 rfl (by decide) rfl (fun _ => rfl) (fun y4 => ?_)
    refine k_goto (tgt := 22) hX dDe_leastLasting_53 (by decide) ?_
    exact k_back (hb0 (y4, τ3))
set_option maxRecDepth 100000 in
set_option maxHeartbeats 4000000 in
theorem tDe_leastLasting_L22 {X : KC} {q : Int × KM} (hX : kOk X 3 prog_2_method_11_code 5 "KeyPath$Detours") (hR : kRet X (some .int) q) (x2 x3 x4 : Int) (σ : KM) {Θ : ((Int × KM) ⊕ (Int × KM)) → Prop} (hT : ∀ z, Θ (.inr (z)) → z = q) (hb0 : ∀ s : Int × KM, Θ (.inl s) → kW X 11 [lq 9, lq 8, li x2, li s.1, none] [] s.2) : kJ X 22 [lq 9, lq 8, li x2, li x3, li x4] [] σ (fDe_leastLasting_L22 x2 x3 x4 σ) Θ :=
  k_iter (f := fun s => fDe_leastLasting_B22 x2 x3 s.1 s.2) (Lf := fun s => [lq 9, lq 8, li x2, li x3, li s.1]) (mf := fun s => s.2) (Θ := Θ) (fun s => tDe_leastLasting_B22 hX hR x2 x3 s.1 s.2 hT (fun _ h9 => h9) hb0) kF (x4, σ)
set_option maxRecDepth 100000 in
set_option maxHeartbeats 4000000 in
theorem tDe_leastLasting_B11 {X : KC} {q : Int × KM} (hX : kOk X 3 prog_2_method_11_code 5 "KeyPath$Detours") (hR : kRet X (some .int) q) (x2 x3 : Int) (σ : KM) {Θ : ((Int × KM) ⊕ (Int × KM)) → Prop} (hT : ∀ z, Θ (.inr (z)) → z = q) (hb0 : ∀ s : Int × KM, Θ (.inl s) → kW X 11 [lq 9, lq 8, li x2, li s.1, none] [] s.2) : kJ X 11 [lq 9, lq 8, li x2, li x3, none] [] σ (fDe_leastLasting_B11 x2 x3 σ) Θ := by
  refine k_iload_n hX dDe_leastLasting_11 rfl ?_
  refine k_aload_n hX dDe_leastLasting_12 rfl ?_
  refine gf_111 hX dDe_leastLasting_13 ?_
  refine k_icmp_ge (tgt := 62) hX dDe_leastLasting_16 (by decide) ?_ ?_
  · refine k_exit ?_
    refine k_less [true, true, false, false, true] (L' := [lq 9, lq 8, none, none, none]) rfl ?_
    exact tDe_leastLasting_J62 hX hR σ hT
  · refine k_iconst hX dDe_leastLasting_19 ?_
    refine k_istore (L' := [lq 9, lq 8, li x2, li x3, li 0]) hX dDe_leastLasting_20 rfl (by decide) rfl ?_
    exact tDe_leastLasting_L22 hX hR x2 x3 0 σ hT hb0
set_option maxRecDepth 100000 in
set_option maxHeartbeats 4000000 in
theorem tDe_leastLasting_L11 {X : KC} {q : Int × KM} (hX : kOk X 3 prog_2_method_11_code 5 "KeyPath$Detours") (hR : kRet X (some .int) q) (x2 x3 : Int) (σ : KM) {Θ : (Int × KM) → Prop} (hT : ∀ z, Θ (z) → z = q) : kJ X 11 [lq 9, lq 8, li x2, li x3, none] [] σ (fDe_leastLasting_L11 x2 x3 σ) Θ :=
  k_iter (f := fun s => fDe_leastLasting_B11 x2 s.1 s.2) (Lf := fun s => [lq 9, lq 8, li x2, li s.1, none]) (mf := fun s => s.2) (Θ := Θ) (fun s => tDe_leastLasting_B11 hX hR x2 s.1 s.2 hT (fun _ h9 => h9)) kF (x3, σ)
set_option maxRecDepth 100000 in
set_option maxHeartbeats 4000000 in
theorem sDe_leastLasting (x2 : Int) (σ : KM) : kSem 3 (⟨"KeyPath$Detours", "leastLasting", "(LKeyPath$PathFinder;I)I"⟩ : MethodName) prog_2_method_11_code 5 (some .int) [kr 9, kr 8, ki x2] σ (fDe_leastLasting x2 σ) := by
  refine kSem.of (L0 := [lq 9, lq 8, li x2, none, none]) (by decide) (Nat.le_of_ble_eq_true rfl) rfl (fun X q hX hR => ?_)
  have hT : ∀ z : Int × KM, (fun z => z = q) z → z = q := fun _ h => h
  refine k_aload_n hX dDe_leastLasting_0 rfl ?_
  refine gf_111 hX dDe_leastLasting_1 ?_
  refine k_if_ne (tgt := 9) hX dDe_leastLasting_4 (by decide) ?_ ?_
  · refine k_iconst hX dDe_leastLasting_9 ?_
    refine k_istore_n (L' := [lq 9, lq 8, li x2, li 0, none]) hX dDe_leastLasting_10 rfl (by decide) rfl ?_
    exact tDe_leastLasting_L11 hX hR x2 0 σ hT
  · refine k_iconst hX dDe_leastLasting_7 ?_
    exact k_iret hX hR hT dDe_leastLasting_8
theorem cl_60 {X : KC} {d n : Nat} {cc : ByteArray} {pc : Nat} {L : List (Option KV)} {st : List KV} {σ : KM} {Z : Type} {Θ : Z → Prop} {G : Int → KM → Option Z} {x2 : Int} (hX : kOk X d cc n "KeyPath") (hdd : 3 + 1 ≤ d) (hst : k_cat st ≤ 8) (hd : decode cc pc = .ok (.invokevirtual 276, 3)) (h : ∀ r τ, kJ X (pc + 3) L (ki r :: st) τ (G r τ) Θ) : kJ X pc L (ki x2 :: kr 8 :: kr 9 :: st) σ (kCall (fDe_leastLasting x2 σ) G) Θ :=
  k_callV (np := 2) (av := [kr 8, ki x2]) (ret := (some .int)) hX (by decide) rfl rfl rfl (sDe_leastLasting _ σ) ⟨⟨hdd, by decide⟩, tw_822, tw_10, by decide +kernel⟩ rfl tw_819 tw_820 tw_821 hst hd h
theorem dP_toldCost_0 : decode prog_1_method_57_code 0 = .ok (.iload_n 0, 1) := by decide +kernel
theorem dP_toldCost_1 : decode prog_1_method_57_code 1 = .ok (.ldc_w 261, 3) := by decide +kernel
theorem dP_toldCost_4 : decode prog_1_method_57_code 4 = .ok (.if_icmp .lt 7, 3) := by decide +kernel
theorem dP_toldCost_7 : decode prog_1_method_57_code 7 = .ok (.iconst (-1), 1) := by decide +kernel
theorem dP_toldCost_8 : decode prog_1_method_57_code 8 = .ok (.goto 4, 3) := by decide +kernel
theorem dP_toldCost_11 : decode prog_1_method_57_code 11 = .ok (.iload_n 0, 1) := by decide +kernel
theorem dP_toldCost_12 : decode prog_1_method_57_code 12 = .ok (.ireturn, 1) := by decide +kernel
set_option maxRecDepth 100000 in
set_option maxHeartbeats 4000000 in
theorem tP_toldCost_J12 {X : KC} {q : Int × KM} (hX : kOk X 1 prog_1_method_57_code 1 "KeyPath") (hR : kRet X (some .int) q) (t0 : Int) (σ : KM) {Θ : (Int × KM) → Prop} (hT : ∀ z, Θ (z) → z = q) : kJ X 12 [none] [ki t0] σ (fP_toldCost_J12 t0 σ) Θ := by
  exact k_iret hX hR hT dP_toldCost_12
set_option maxRecDepth 100000 in
set_option maxHeartbeats 4000000 in
theorem sP_toldCost (x0 : Int) (σ : KM) : kSem 1 (⟨"KeyPath", "toldCost", "(I)I"⟩ : MethodName) prog_1_method_57_code 1 (some .int) [ki x0] σ (fP_toldCost x0 σ) := by
  refine kSem.of (L0 := [li x0]) (by decide) (Nat.le_of_ble_eq_true rfl) rfl (fun X q hX hR => ?_)
  have hT : ∀ z : Int × KM, (fun z => z = q) z → z = q := fun _ h => h
  refine k_iload_n hX dP_toldCost_0 rfl ?_
  refine k_ldcw (v := 1000000000) (w := 0) hX dP_toldCost_1 tw_720 ?_
  refine k_icmp_lt (tgt := 11) hX dP_toldCost_4 (by decide) ?_ ?_
  · refine k_iload_n hX dP_toldCost_11 rfl ?_
    refine k_less [false] (L' := [none]) rfl ?_
    exact tP_toldCost_J12 hX hR x0 σ hT
  · refine k_iconst hX dP_toldCost_7 ?_
    refine k_goto (tgt := 12) hX dP_toldCost_8 (by decide) ?_
    refine k_less [false] (L' := [none]) rfl ?_
    exact tP_toldCost_J12 hX hR (-1) σ hT
theorem cl_61 {X : KC} {d n : Nat} {cc : ByteArray} {pc : Nat} {L : List (Option KV)} {st : List KV} {σ : KM} {Z : Type} {Θ : Z → Prop} {G : Int → KM → Option Z} {x0 : Int} (hX : kOk X d cc n "KeyPath") (hdd : 1 + 1 ≤ d) (hst : k_cat st ≤ 8) (hd : decode cc pc = .ok (.invokestatic 254, 3)) (h : ∀ r τ, kJ X (pc + 3) L (ki r :: st) τ (G r τ) Θ) : kJ X pc L (ki x0 :: st) σ (kCall (fP_toldCost x0 σ) G) Θ :=
  k_callS (np := 1) (av := [ki x0]) (ret := (some .int)) hX (sP_toldCost _ σ) ⟨⟨hdd, by decide⟩, tw_776, tw_1, by decide +kernel⟩ rfl tw_774 tw_775 hst hd h
theorem dP_lasting_0 : decode prog_1_method_29_code 0 = .ok (.iconst 1, 1) := by decide +kernel
theorem dP_lasting_1 : decode prog_1_method_29_code 1 = .ok (.bipush 16, 2) := by decide +kernel
theorem dP_lasting_3 : decode prog_1_method_29_code 3 = .ok (.iload_n 1, 1) := by decide +kernel
theorem dP_lasting_4 : decode prog_1_method_29_code 4 = .ok (.invokestatic 138, 3) := by decide +kernel
theorem dP_lasting_7 : decode prog_1_method_29_code 7 = .ok (.ifCond .eq 6, 3) := by decide +kernel
theorem dP_lasting_10 : decode prog_1_method_29_code 10 = .ok (.bipush (-3), 2) := by decide +kernel
theorem dP_lasting_12 : decode prog_1_method_29_code 12 = .ok (.ireturn, 1) := by decide +kernel
theorem dP_lasting_13 : decode prog_1_method_29_code 13 = .ok (.aload_n 0, 1) := by decide +kernel
theorem dP_lasting_14 : decode prog_1_method_29_code 14 = .ok (.invokevirtual 233, 3) := by decide +kernel
theorem dP_lasting_17 : decode prog_1_method_29_code 17 = .ok (.ifCond .eq 8, 3) := by decide +kernel
theorem dP_lasting_20 : decode prog_1_method_29_code 20 = .ok (.bipush (-5), 2) := by decide +kernel
theorem dP_lasting_22 : decode prog_1_method_29_code 22 = .ok (.goto 18, 3) := by decide +kernel
theorem dP_lasting_25 : decode prog_1_method_29_code 25 = .ok (.aload_n 0, 1) := by decide +kernel
theorem dP_lasting_26 : decode prog_1_method_29_code 26 = .ok (.getfield 61, 3) := by decide +kernel
theorem dP_lasting_29 : decode prog_1_method_29_code 29 = .ok (.aload_n 0, 1) := by decide +kernel
theorem dP_lasting_30 : decode prog_1_method_29_code 30 = .ok (.getfield 54, 3) := by decide +kernel
theorem dP_lasting_33 : decode prog_1_method_29_code 33 = .ok (.iload_n 1, 1) := by decide +kernel
theorem dP_lasting_34 : decode prog_1_method_29_code 34 = .ok (.invokevirtual 276, 3) := by decide +kernel
theorem dP_lasting_37 : decode prog_1_method_29_code 37 = .ok (.invokestatic 254, 3) := by decide +kernel
theorem dP_lasting_40 : decode prog_1_method_29_code 40 = .ok (.ireturn, 1) := by decide +kernel
set_option maxRecDepth 100000 in
set_option maxHeartbeats 4000000 in
theorem tP_lasting_J40 {X : KC} {q : Int × KM} (hX : kOk X 8 prog_1_method_29_code 2 "KeyPath") (hR : kRet X (some .int) q) (t0 : Int) (σ : KM) {Θ : (Int × KM) → Prop} (hT : ∀ z, Θ (z) → z = q) : kJ X 40 [lq 0, none] [ki t0] σ (fP_lasting_J40 t0 σ) Θ := by
  exact k_iret hX hR hT dP_lasting_40
set_option maxRecDepth 100000 in
set_option maxHeartbeats 4000000 in
theorem sP_lasting (x1 : Int) (σ : KM) : kSem 8 (⟨"KeyPath", "lasting", "(I)I"⟩ : MethodName) prog_1_method_29_code 2 (some .int) [kr 0, ki x1] σ (fP_lasting x1 σ) := by
  refine kSem.of (L0 := [lq 0, li x1]) (by decide) (Nat.le_of_ble_eq_true rfl) rfl (fun X q hX hR => ?_)
  have hT : ∀ z : Int × KM, (fun z => z = q) z → z = q := fun _ h => h
  refine k_iconst hX dP_lasting_0 ?_
  refine k_bipush hX dP_lasting_1 (by decide) ?_
  refine k_iload_n hX dP_lasting_3 rfl ?_
  refine cl_43 hX (by decide) (Nat.le_of_ble_eq_true rfl) dP_lasting_4 (fun r2 τ1 => ?_)
  refine k_if_eq (tgt := 13) hX dP_lasting_7 (by decide) ?_ ?_
  · refine k_aload_n hX dP_lasting_13 rfl ?_
    refine cl_33 hX (by decide) (Nat.le_of_ble_eq_true rfl) dP_lasting_14 (fun r4 τ3 => ?_)
    refine k_if_eq (tgt := 25) hX dP_lasting_17 (by decide) ?_ ?_
    · refine k_aload_n hX dP_lasting_25 rfl ?_
      refine gf_67 hX dP_lasting_26 ?_
      refine k_aload_n hX dP_lasting_29 rfl ?_
      refine gf_20 hX dP_lasting_30 ?_
      refine k_iload_n hX dP_lasting_33 rfl ?_
      refine cl_60 hX (by decide) (Nat.le_of_ble_eq_true rfl) dP_lasting_34 (fun r6 τ5 => ?_)
      refine cl_61 hX (by decide) (Nat.le_of_ble_eq_true rfl) dP_lasting_37 (fun r8 τ7 => ?_)
      refine k_less [true, false] (L' := [lq 0, none]) rfl ?_
      exact tP_lasting_J40 hX hR r8 τ7 hT
    · refine k_bipush hX dP_lasting_20 (by decide) ?_
      refine k_goto (tgt := 40) hX dP_lasting_22 (by decide) ?_
      refine k_less [true, false] (L' := [lq 0, none]) rfl ?_
      exact tP_lasting_J40 hX hR (-5) τ3 hT
  · refine k_bipush hX dP_lasting_10 (by decide) ?_
    exact k_iret hX hR hT dP_lasting_12
theorem dP_noMode_0 : decode prog_1_method_55_code 0 = .ok (.iconst 0, 1) := by decide +kernel
theorem dP_noMode_1 : decode prog_1_method_55_code 1 = .ok (.iconst 1, 1) := by decide +kernel
theorem dP_noMode_2 : decode prog_1_method_55_code 2 = .ok (.iload_n 0, 1) := by decide +kernel
theorem dP_noMode_3 : decode prog_1_method_55_code 3 = .ok (.invokestatic 138, 3) := by decide +kernel
theorem dP_noMode_6 : decode prog_1_method_55_code 6 = .ok (.ireturn, 1) := by decide +kernel
set_option maxRecDepth 100000 in
set_option maxHeartbeats 4000000 in
theorem sP_noMode (x0 : Int) (σ : KM) : kSem 2 (⟨"KeyPath", "noMode", "(I)Z"⟩ : MethodName) prog_1_method_55_code 1 (some .boolean) [ki x0] σ (fP_noMode x0 σ) := by
  refine kSem.of (L0 := [li x0]) (by decide) (Nat.le_of_ble_eq_true rfl) rfl (fun X q hX hR => ?_)
  have hT : ∀ z : Int × KM, (fun z => z = q) z → z = q := fun _ h => h
  refine k_iconst hX dP_noMode_0 ?_
  refine k_iconst hX dP_noMode_1 ?_
  refine k_iload_n hX dP_noMode_2 rfl ?_
  refine cl_43 hX (by decide) (Nat.le_of_ble_eq_true rfl) dP_noMode_3 (fun r2 τ1 => ?_)
  exact k_zret hX hR hT dP_noMode_6
theorem cl_62 {X : KC} {d n : Nat} {cc : ByteArray} {pc : Nat} {L : List (Option KV)} {st : List KV} {σ : KM} {Z : Type} {Θ : Z → Prop} {G : Int → KM → Option Z} {x0 : Int} (hX : kOk X d cc n "KeyPath") (hdd : 2 + 1 ≤ d) (hst : k_cat st ≤ 8) (hd : decode cc pc = .ok (.invokestatic 159, 3)) (h : ∀ r τ, kJ X (pc + 3) L (ki r :: st) τ (G r τ) Θ) : kJ X pc L (ki x0 :: st) σ (kCall (fP_noMode x0 σ) G) Θ :=
  k_callS (np := 1) (av := [ki x0]) (ret := (some .boolean)) hX (sP_noMode _ σ) ⟨⟨hdd, by decide⟩, tw_579, tw_1, by decide +kernel⟩ rfl tw_577 tw_578 hst hd h
theorem dP_noTone_0 : decode prog_1_method_54_code 0 = .ok (.iconst 0, 1) := by decide +kernel
theorem dP_noTone_1 : decode prog_1_method_54_code 1 = .ok (.bipush 11, 2) := by decide +kernel
theorem dP_noTone_3 : decode prog_1_method_54_code 3 = .ok (.iload_n 0, 1) := by decide +kernel
theorem dP_noTone_4 : decode prog_1_method_54_code 4 = .ok (.invokestatic 138, 3) := by decide +kernel
theorem dP_noTone_7 : decode prog_1_method_54_code 7 = .ok (.ireturn, 1) := by decide +kernel
set_option maxRecDepth 100000 in
set_option maxHeartbeats 4000000 in
theorem sP_noTone (x0 : Int) (σ : KM) : kSem 2 (⟨"KeyPath", "noTone", "(I)Z"⟩ : MethodName) prog_1_method_54_code 1 (some .boolean) [ki x0] σ (fP_noTone x0 σ) := by
  refine kSem.of (L0 := [li x0]) (by decide) (Nat.le_of_ble_eq_true rfl) rfl (fun X q hX hR => ?_)
  have hT : ∀ z : Int × KM, (fun z => z = q) z → z = q := fun _ h => h
  refine k_iconst hX dP_noTone_0 ?_
  refine k_bipush hX dP_noTone_1 (by decide) ?_
  refine k_iload_n hX dP_noTone_3 rfl ?_
  refine cl_43 hX (by decide) (Nat.le_of_ble_eq_true rfl) dP_noTone_4 (fun r2 τ1 => ?_)
  exact k_zret hX hR hT dP_noTone_7
theorem cl_63 {X : KC} {d n : Nat} {cc : ByteArray} {pc : Nat} {L : List (Option KV)} {st : List KV} {σ : KM} {Z : Type} {Θ : Z → Prop} {G : Int → KM → Option Z} {x0 : Int} (hX : kOk X d cc n "KeyPath") (hdd : 2 + 1 ≤ d) (hst : k_cat st ≤ 8) (hd : decode cc pc = .ok (.invokestatic 162, 3)) (h : ∀ r τ, kJ X (pc + 3) L (ki r :: st) τ (G r τ) Θ) : kJ X pc L (ki x0 :: st) σ (kCall (fP_noTone x0 σ) G) Θ :=
  k_callS (np := 1) (av := [ki x0]) (ret := (some .boolean)) hX (sP_noTone _ σ) ⟨⟨hdd, by decide⟩, tw_582, tw_1, by decide +kernel⟩ rfl tw_580 tw_581 hst hd h
theorem dP_learnt_0 : decode prog_1_method_38_code 0 = .ok (.iload_n 1, 1) := by decide +kernel
theorem dP_learnt_1 : decode prog_1_method_38_code 1 = .ok (.invokestatic 159, 3) := by decide +kernel
theorem dP_learnt_4 : decode prog_1_method_38_code 4 = .ok (.ifCond .ne 10, 3) := by decide +kernel
theorem dP_learnt_7 : decode prog_1_method_38_code 7 = .ok (.iload_n 2, 1) := by decide +kernel
theorem dP_learnt_8 : decode prog_1_method_38_code 8 = .ok (.invokestatic 162, 3) := by decide +kernel
theorem dP_learnt_11 : decode prog_1_method_38_code 11 = .ok (.ifCond .eq 6, 3) := by decide +kernel
theorem dP_learnt_14 : decode prog_1_method_38_code 14 = .ok (.bipush (-2), 2) := by decide +kernel
theorem dP_learnt_16 : decode prog_1_method_38_code 16 = .ok (.ireturn, 1) := by decide +kernel
theorem dP_learnt_17 : decode prog_1_method_38_code 17 = .ok (.aload_n 0, 1) := by decide +kernel
theorem dP_learnt_18 : decode prog_1_method_38_code 18 = .ok (.invokevirtual 233, 3) := by decide +kernel
theorem dP_learnt_21 : decode prog_1_method_38_code 21 = .ok (.ifCond .eq 6, 3) := by decide +kernel
theorem dP_learnt_24 : decode prog_1_method_38_code 24 = .ok (.bipush (-5), 2) := by decide +kernel
theorem dP_learnt_26 : decode prog_1_method_38_code 26 = .ok (.ireturn, 1) := by decide +kernel
theorem dP_learnt_27 : decode prog_1_method_38_code 27 = .ok (.iconst 0, 1) := by decide +kernel
theorem dP_learnt_28 : decode prog_1_method_38_code 28 = .ok (.istore_n 3, 1) := by decide +kernel
theorem dP_learnt_29 : decode prog_1_method_38_code 29 = .ok (.iconst 0, 1) := by decide +kernel
theorem dP_learnt_30 : decode prog_1_method_38_code 30 = .ok (.istore 4, 2) := by decide +kernel
theorem dP_learnt_32 : decode prog_1_method_38_code 32 = .ok (.iconst 0, 1) := by decide +kernel
theorem dP_learnt_33 : decode prog_1_method_38_code 33 = .ok (.istore 5, 2) := by decide +kernel
theorem dP_learnt_35 : decode prog_1_method_38_code 35 = .ok (.iload 5, 2) := by decide +kernel
theorem dP_learnt_37 : decode prog_1_method_38_code 37 = .ok (.aload_n 0, 1) := by decide +kernel
theorem dP_learnt_38 : decode prog_1_method_38_code 38 = .ok (.getfield 33, 3) := by decide +kernel
theorem dP_learnt_41 : decode prog_1_method_38_code 41 = .ok (.getfield 158, 3) := by decide +kernel
theorem dP_learnt_44 : decode prog_1_method_38_code 44 = .ok (.if_icmp .ge 69, 3) := by decide +kernel
theorem dP_learnt_47 : decode prog_1_method_38_code 47 = .ok (.aload_n 0, 1) := by decide +kernel
theorem dP_learnt_48 : decode prog_1_method_38_code 48 = .ok (.getfield 54, 3) := by decide +kernel
theorem dP_learnt_51 : decode prog_1_method_38_code 51 = .ok (.getfield 240, 3) := by decide +kernel
theorem dP_learnt_54 : decode prog_1_method_38_code 54 = .ok (.iload 5, 2) := by decide +kernel
theorem dP_learnt_56 : decode prog_1_method_38_code 56 = .ok (.iaload, 1) := by decide +kernel
theorem dP_learnt_57 : decode prog_1_method_38_code 57 = .ok (.istore 6, 2) := by decide +kernel
theorem dP_learnt_59 : decode prog_1_method_38_code 59 = .ok (.iload 6, 2) := by decide +kernel
theorem dP_learnt_61 : decode prog_1_method_38_code 61 = .ok (.invokestatic 307, 3) := by decide +kernel
theorem dP_learnt_64 : decode prog_1_method_38_code 64 = .ok (.iload_n 1, 1) := by decide +kernel
theorem dP_learnt_65 : decode prog_1_method_38_code 65 = .ok (.if_icmp .ne 42, 3) := by decide +kernel
theorem dP_learnt_68 : decode prog_1_method_38_code 68 = .ok (.iload_n 3, 1) := by decide +kernel
theorem dP_learnt_69 : decode prog_1_method_38_code 69 = .ok (.aload_n 0, 1) := by decide +kernel
theorem dP_learnt_70 : decode prog_1_method_38_code 70 = .ok (.getfield 33, 3) := by decide +kernel
theorem dP_learnt_73 : decode prog_1_method_38_code 73 = .ok (.getfield 202, 3) := by decide +kernel
theorem dP_learnt_76 : decode prog_1_method_38_code 76 = .ok (.iload 5, 2) := by decide +kernel
theorem dP_learnt_78 : decode prog_1_method_38_code 78 = .ok (.bipush 12, 2) := by decide +kernel
theorem dP_learnt_80 : decode prog_1_method_38_code 80 = .ok (.imul, 1) := by decide +kernel
theorem dP_learnt_81 : decode prog_1_method_38_code 81 = .ok (.iload 6, 2) := by decide +kernel
theorem dP_learnt_83 : decode prog_1_method_38_code 83 = .ok (.iload_n 2, 1) := by decide +kernel
theorem dP_learnt_84 : decode prog_1_method_38_code 84 = .ok (.iadd, 1) := by decide +kernel
theorem dP_learnt_85 : decode prog_1_method_38_code 85 = .ok (.bipush 12, 2) := by decide +kernel
theorem dP_learnt_87 : decode prog_1_method_38_code 87 = .ok (.irem, 1) := by decide +kernel
theorem dP_learnt_88 : decode prog_1_method_38_code 88 = .ok (.iadd, 1) := by decide +kernel
theorem dP_learnt_89 : decode prog_1_method_38_code 89 = .ok (.iaload, 1) := by decide +kernel
theorem dP_learnt_90 : decode prog_1_method_38_code 90 = .ok (.iadd, 1) := by decide +kernel
theorem dP_learnt_91 : decode prog_1_method_38_code 91 = .ok (.istore_n 3, 1) := by decide +kernel
theorem dP_learnt_92 : decode prog_1_method_38_code 92 = .ok (.iload 4, 2) := by decide +kernel
theorem dP_learnt_94 : decode prog_1_method_38_code 94 = .ok (.aload_n 0, 1) := by decide +kernel
theorem dP_learnt_95 : decode prog_1_method_38_code 95 = .ok (.getfield 33, 3) := by decide +kernel
theorem dP_learnt_98 : decode prog_1_method_38_code 98 = .ok (.getfield 199, 3) := by decide +kernel
theorem dP_learnt_101 : decode prog_1_method_38_code 101 = .ok (.iload 5, 2) := by decide +kernel
theorem dP_learnt_103 : decode prog_1_method_38_code 103 = .ok (.iaload, 1) := by decide +kernel
theorem dP_learnt_104 : decode prog_1_method_38_code 104 = .ok (.iadd, 1) := by decide +kernel
theorem dP_learnt_105 : decode prog_1_method_38_code 105 = .ok (.istore 4, 2) := by decide +kernel
theorem dP_learnt_107 : decode prog_1_method_38_code 107 = .ok (.iinc 5 1, 3) := by decide +kernel
theorem dP_learnt_110 : decode prog_1_method_38_code 110 = .ok (.goto (-75), 3) := by decide +kernel
theorem dP_learnt_113 : decode prog_1_method_38_code 113 = .ok (.iload 4, 2) := by decide +kernel
theorem dP_learnt_115 : decode prog_1_method_38_code 115 = .ok (.ifCond .ne 7, 3) := by decide +kernel
theorem dP_learnt_118 : decode prog_1_method_38_code 118 = .ok (.iconst (-1), 1) := by decide +kernel
theorem dP_learnt_119 : decode prog_1_method_38_code 119 = .ok (.goto 10, 3) := by decide +kernel
theorem dP_learnt_122 : decode prog_1_method_38_code 122 = .ok (.bipush 100, 2) := by decide +kernel
theorem dP_learnt_124 : decode prog_1_method_38_code 124 = .ok (.iload_n 3, 1) := by decide +kernel
theorem dP_learnt_125 : decode prog_1_method_38_code 125 = .ok (.imul, 1) := by decide +kernel
theorem dP_learnt_126 : decode prog_1_method_38_code 126 = .ok (.iload 4, 2) := by decide +kernel
theorem dP_learnt_128 : decode prog_1_method_38_code 128 = .ok (.idiv, 1) := by decide +kernel
theorem dP_learnt_129 : decode prog_1_method_38_code 129 = .ok (.ireturn, 1) := by decide +kernel
set_option maxRecDepth 100000 in
set_option maxHeartbeats 4000000 in
theorem tP_learnt_J14 {X : KC} {q : Int × KM} (hX : kOk X 8 prog_1_method_38_code 7 "KeyPath") (hR : kRet X (some .int) q) (σ : KM) {Θ : (Int × KM) → Prop} (hT : ∀ z, Θ (z) → z = q) : kJ X 14 [lq 0, none, none, none, none, none, none] [] σ (fP_learnt_J14 σ) Θ := by
  refine k_bipush hX dP_learnt_14 (by decide) ?_
  exact k_iret hX hR hT dP_learnt_16
set_option maxRecDepth 100000 in
set_option maxHeartbeats 4000000 in
theorem tP_learnt_J129 {X : KC} {q : Int × KM} (hX : kOk X 8 prog_1_method_38_code 7 "KeyPath") (hR : kRet X (some .int) q) (t0 : Int) (σ : KM) {Θ : (Int × KM) → Prop} (hT : ∀ z, Θ (z) → z = q) : kJ X 129 [lq 0, none, none, none, none, none, none] [ki t0] σ (fP_learnt_J129 t0 σ) Θ := by
  exact k_iret hX hR hT dP_learnt_129
set_option maxRecDepth 100000 in
set_option maxHeartbeats 4000000 in
theorem tP_learnt_J113 {X : KC} {q : Int × KM} (hX : kOk X 8 prog_1_method_38_code 7 "KeyPath") (hR : kRet X (some .int) q) (x3 x4 : Int) (σ : KM) {Θ : (Int × KM) → Prop} (hT : ∀ z, Θ (z) → z = q) : kJ X 113 [lq 0, none, none, li x3, li x4, none, none] [] σ (fP_learnt_J113 x3 x4 σ) Θ := by
  refine k_iload hX dP_learnt_113 rfl ?_
  refine k_if_ne (tgt := 122) hX dP_learnt_115 (by decide) ?_ ?_
  · refine k_bipush hX dP_learnt_122 (by decide) ?_
    refine k_iload_n hX dP_learnt_124 rfl ?_
    refine k_imul hX dP_learnt_125 ?_
    refine k_iload hX dP_learnt_126 rfl ?_
    refine k_idiv hX dP_learnt_128 (fun y1 => ?_)
    refine k_less [true, true, true, false, false, true, true] (L' := [lq 0, none, none, none, none, none, none]) rfl ?_
    exact tP_learnt_J129 hX hR y1 σ hT
  · refine k_iconst hX dP_learnt_118 ?_
    refine k_goto (tgt := 129) hX dP_learnt_119 (by decide) ?_
    refine k_less [true, true, true, false, false, true, true] (L' := [lq 0, none, none, none, none, none, none]) rfl ?_
    exact tP_learnt_J129 hX hR (-1) σ hT
set_option maxRecDepth 100000 in
set_option maxHeartbeats 4000000 in
theorem tP_learnt_J107 {X : KC} {q : Int × KM} (hX : kOk X 8 prog_1_method_38_code 7 "KeyPath") (hR : kRet X (some .int) q) (x1 x2 x3 x4 x5 : Int) (σ : KM) {Θ : ((Int × Int × Int × KM) ⊕ (Int × KM)) → Prop} (hT : ∀ z, Θ (.inr (z)) → z = q) (hb0 : ∀ s : Int × Int × Int × KM, Θ (.inl s) → kW X 35 [lq 0, li x1, li x2, li s.1, li s.2.1, li s.2.2.1, none] [] s.2.2.2) : kJ X 107 [lq 0, li x1, li x2, li x3, li x4, li x5, none] [] σ (fP_learnt_J107 x1 x2 x3 x4 x5 σ) Θ := by
  refine k_iincL (Lf := fun y1 => [lq 0, li x1, li x2, li x3, li x4, li y1, none]) hX dP_learnt_107 rfl (by decide) rfl (fun _ => rfl) (fun y1 => ?_)
  refine k_goto (tgt := 35) hX dP_learnt_110 (by decide) ?_
  exact k_back (hb0 (x3, x4, y1, σ))
set_option maxRecDepth 100000 in
set_option maxHeartbeats 4000000 in
theorem tP_learnt_B35 {X : KC} {q : Int × KM} (hX : kOk X 8 prog_1_method_38_code 7 "KeyPath") (hR : kRet X (some .int) q) (x1 x2 x3 x4 x5 : Int) (σ : KM) {Θ : ((Int × Int × Int × KM) ⊕ (Int × KM)) → Prop} (hT : ∀ z, Θ (.inr (z)) → z = q) (hb0 : ∀ s : Int × Int × Int × KM, Θ (.inl s) → kW X 35 [lq 0, li x1, li x2, li s.1, li s.2.1, li s.2.2.1, none] [] s.2.2.2) : kJ X 35 [lq 0, li x1, li x2, li x3, li x4, li x5, none] [] σ (fP_learnt_B35 x1 x2 x3 x4 x5 σ) Θ := by
  refine k_iload hX dP_learnt_35 rfl ?_
  refine k_aload_n hX dP_learnt_37 rfl ?_
  refine gf_0 hX dP_learnt_38 ?_
  refine gf_18 hX dP_learnt_41 ?_
  refine k_icmp_ge (tgt := 113) hX dP_learnt_44 (by decide) ?_ ?_
  · refine k_exit ?_
    refine k_less [true, false, false, true, true, false, true] (L' := [lq 0, none, none, li x3, li x4, none, none]) rfl ?_
    exact tP_learnt_J113 hX hR x3 x4 σ hT
  · refine k_aload_n hX dP_learnt_47 rfl ?_
    refine gf_20 hX dP_learnt_48 ?_
    refine gf_70 hX dP_learnt_51 ?_
    refine k_iload hX dP_learnt_54 rfl ?_
    refine k_iald hX (by decide) rfl dP_learnt_56 rfl (fun y1 => ?_)
    refine k_istore (L' := [lq 0, li x1, li x2, li x3, li x4, li x5, li y1]) hX dP_learnt_57 rfl (by decide) rfl ?_
    refine k_iload hX dP_learnt_59 rfl ?_
    refine cl_35 hX (by decide) (Nat.le_of_ble_eq_true rfl) dP_learnt_61 (fun r3 τ2 => ?_)
    refine k_iload_n hX dP_learnt_64 rfl ?_
    refine k_icmp_ne (tgt := 107) hX dP_learnt_65 (by decide) ?_ ?_
    · refine k_less [true, true, true, true, true, true, false] (L' := [lq 0, li x1, li x2, li x3, li x4, li x5, none]) rfl ?_
      exact tP_learnt_J107 hX hR x1 x2 x3 x4 x5 τ2 hT hb0
    · refine k_iload_n hX dP_learnt_68 rfl ?_
      refine k_aload_n hX dP_learnt_69 rfl ?_
      refine gf_0 hX dP_learnt_70 ?_
      refine gf_110 hX dP_learnt_73 ?_
      refine k_iload hX dP_learnt_76 rfl ?_
      refine k_bipush hX dP_learnt_78 (by decide) ?_
      refine k_imul hX dP_learnt_80 ?_
      refine k_iload hX dP_learnt_81 rfl ?_
      refine k_iload_n hX dP_learnt_83 rfl ?_
      refine k_iadd hX dP_learnt_84 ?_
      refine k_bipush hX dP_learnt_85 (by decide) ?_
      refine k_irem hX dP_learnt_87 (fun y4 => ?_)
      refine k_iadd hX dP_learnt_88 ?_
      refine k_iald hX (by decide) rfl dP_learnt_89 rfl (fun y5 => ?_)
      refine k_iadd hX dP_learnt_90 ?_
      refine k_istoreL_n (Lf := fun y6 => [lq 0, li x1, li x2, li y6, li x4, li x5, li y1]) hX dP_learnt_91 rfl (by decide) (fun _ => rfl) (fun y6 => ?_)
      refine k_iload hX dP_learnt_92 rfl ?_
      refine k_aload_n hX dP_learnt_94 rfl ?_
      refine gf_0 hX dP_learnt_95 ?_
      refine gf_116 hX dP_learnt_98 ?_
      refine k_iload hX dP_learnt_101 rfl ?_
      refine k_iald hX (by decide) rfl dP_learnt_103 rfl (fun y7 => ?_)
      refine k_iadd hX dP_learnt_104 ?_
      refine k_istoreL (Lf := fun y8 => [lq 0, li x1, li x2, li y6, li y8, li x5, li y1]) hX dP_learnt_105 rfl (by decide) (fun _ => rfl) (fun y8 => ?_)
      refine k_less [true, true, true, true, true, true, false] (L' := [lq 0, li x1, li x2, li y6, li y8, li x5, none]) rfl ?_
      exact tP_learnt_J107 hX hR x1 x2 y6 y8 x5 τ2 hT hb0
set_option maxRecDepth 100000 in
set_option maxHeartbeats 4000000 in
theorem tP_learnt_L35 {X : KC} {q : Int × KM} (hX : kOk X 8 prog_1_method_38_code 7 "KeyPath") (hR : kRet X (some .int) q) (x1 x2 x3 x4 x5 : Int) (σ : KM) {Θ : (Int × KM) → Prop} (hT : ∀ z, Θ (z) → z = q) : kJ X 35 [lq 0, li x1, li x2, li x3, li x4, li x5, none] [] σ (fP_learnt_L35 x1 x2 x3 x4 x5 σ) Θ :=
  k_iter (f := fun s => fP_learnt_B35 x1 x2 s.1 s.2.1 s.2.2.1 s.2.2.2) (Lf := fun s => [lq 0, li x1, li x2, li s.1, li s.2.1, li s.2.2.1, none]) (mf := fun s => s.2.2.2) (Θ := Θ) (fun s => tP_learnt_B35 hX hR x1 x2 s.1 s.2.1 s.2.2.1 s.2.2.2 hT (fun _ h9 => h9)) kF (x3, x4, x5, σ)
set_option maxRecDepth 100000 in
set_option maxHeartbeats 4000000 in
theorem sP_learnt (x1 x2 : Int) (σ : KM) : kSem 8 (⟨"KeyPath", "learnt", "(II)I"⟩ : MethodName) prog_1_method_38_code 7 (some .int) [kr 0, ki x1, ki x2] σ (fP_learnt x1 x2 σ) := by
  refine kSem.of (L0 := [lq 0, li x1, li x2, none, none, none, none]) (by decide) (Nat.le_of_ble_eq_true rfl) rfl (fun X q hX hR => ?_)
  have hT : ∀ z : Int × KM, (fun z => z = q) z → z = q := fun _ h => h
  refine k_iload_n hX dP_learnt_0 rfl ?_
  refine cl_62 hX (by decide) (Nat.le_of_ble_eq_true rfl) dP_learnt_1 (fun r2 τ1 => ?_)
  refine k_if_ne (tgt := 14) hX dP_learnt_4 (by decide) ?_ ?_
  · refine k_less [true, false, false, true, true, true, true] (L' := [lq 0, none, none, none, none, none, none]) rfl ?_
    exact tP_learnt_J14 hX hR τ1 hT
  · refine k_iload_n hX dP_learnt_7 rfl ?_
    refine cl_63 hX (by decide) (Nat.le_of_ble_eq_true rfl) dP_learnt_8 (fun r4 τ3 => ?_)
    refine k_if_eq (tgt := 17) hX dP_learnt_11 (by decide) ?_ ?_
    · refine k_aload_n hX dP_learnt_17 rfl ?_
      refine cl_33 hX (by decide) (Nat.le_of_ble_eq_true rfl) dP_learnt_18 (fun r6 τ5 => ?_)
      refine k_if_eq (tgt := 27) hX dP_learnt_21 (by decide) ?_ ?_
      · refine k_iconst hX dP_learnt_27 ?_
        refine k_istore_n (L' := [lq 0, li x1, li x2, li 0, none, none, none]) hX dP_learnt_28 rfl (by decide) rfl ?_
        refine k_iconst hX dP_learnt_29 ?_
        refine k_istore (L' := [lq 0, li x1, li x2, li 0, li 0, none, none]) hX dP_learnt_30 rfl (by decide) rfl ?_
        refine k_iconst hX dP_learnt_32 ?_
        refine k_istore (L' := [lq 0, li x1, li x2, li 0, li 0, li 0, none]) hX dP_learnt_33 rfl (by decide) rfl ?_
        exact tP_learnt_L35 hX hR x1 x2 0 0 0 τ5 hT
      · refine k_bipush hX dP_learnt_24 (by decide) ?_
        exact k_iret hX hR hT dP_learnt_26
    · refine k_less [true, false, false, true, true, true, true] (L' := [lq 0, none, none, none, none, none, none]) rfl ?_
      exact tP_learnt_J14 hX hR τ3 hT
theorem dTR_next_0 : decode prog_8_method_4_code 0 = .ok (.aload_n 0, 1) := by decide +kernel
theorem dTR_next_1 : decode prog_8_method_4_code 1 = .ok (.getfield 41, 3) := by decide +kernel
theorem dTR_next_4 : decode prog_8_method_4_code 4 = .ok (.aload_n 0, 1) := by decide +kernel
theorem dTR_next_5 : decode prog_8_method_4_code 5 = .ok (.getfield 38, 3) := by decide +kernel
theorem dTR_next_8 : decode prog_8_method_4_code 8 = .ok (.if_icmp .ge 30, 3) := by decide +kernel
theorem dTR_next_11 : decode prog_8_method_4_code 11 = .ok (.aload_n 0, 1) := by decide +kernel
theorem dTR_next_12 : decode prog_8_method_4_code 12 = .ok (.getfield 9, 3) := by decide +kernel
theorem dTR_next_15 : decode prog_8_method_4_code 15 = .ok (.aload_n 0, 1) := by decide +kernel
theorem dTR_next_16 : decode prog_8_method_4_code 16 = .ok (.getfield 41, 3) := by decide +kernel
theorem dTR_next_19 : decode prog_8_method_4_code 19 = .ok (.iaload, 1) := by decide +kernel
theorem dTR_next_20 : decode prog_8_method_4_code 20 = .ok (.bipush 32, 2) := by decide +kernel
theorem dTR_next_22 : decode prog_8_method_4_code 22 = .ok (.if_icmp .ne 16, 3) := by decide +kernel
theorem dTR_next_25 : decode prog_8_method_4_code 25 = .ok (.aload_n 0, 1) := by decide +kernel
theorem dTR_next_26 : decode prog_8_method_4_code 26 = .ok (.dup, 1) := by decide +kernel
theorem dTR_next_27 : decode prog_8_method_4_code 27 = .ok (.getfield 41, 3) := by decide +kernel
theorem dTR_next_30 : decode prog_8_method_4_code 30 = .ok (.iconst 1, 1) := by decide +kernel
theorem dTR_next_31 : decode prog_8_method_4_code 31 = .ok (.iadd, 1) := by decide +kernel
theorem dTR_next_32 : decode prog_8_method_4_code 32 = .ok (.putfield 41, 3) := by decide +kernel
theorem dTR_next_35 : decode prog_8_method_4_code 35 = .ok (.goto (-35), 3) := by decide +kernel
theorem dTR_next_38 : decode prog_8_method_4_code 38 = .ok (.aload_n 0, 1) := by decide +kernel
theorem dTR_next_39 : decode prog_8_method_4_code 39 = .ok (.getfield 41, 3) := by decide +kernel
theorem dTR_next_42 : decode prog_8_method_4_code 42 = .ok (.aload_n 0, 1) := by decide +kernel
theorem dTR_next_43 : decode prog_8_method_4_code 43 = .ok (.getfield 38, 3) := by decide +kernel
theorem dTR_next_46 : decode prog_8_method_4_code 46 = .ok (.if_icmp .ge 15, 3) := by decide +kernel
theorem dTR_next_49 : decode prog_8_method_4_code 49 = .ok (.aload_n 0, 1) := by decide +kernel
theorem dTR_next_50 : decode prog_8_method_4_code 50 = .ok (.getfield 9, 3) := by decide +kernel
theorem dTR_next_53 : decode prog_8_method_4_code 53 = .ok (.aload_n 0, 1) := by decide +kernel
theorem dTR_next_54 : decode prog_8_method_4_code 54 = .ok (.getfield 41, 3) := by decide +kernel
theorem dTR_next_57 : decode prog_8_method_4_code 57 = .ok (.iaload, 1) := by decide +kernel
theorem dTR_next_58 : decode prog_8_method_4_code 58 = .ok (.goto 4, 3) := by decide +kernel
theorem dTR_next_61 : decode prog_8_method_4_code 61 = .ok (.iconst (-1), 1) := by decide +kernel
theorem dTR_next_62 : decode prog_8_method_4_code 62 = .ok (.ireturn, 1) := by decide +kernel
set_option maxRecDepth 100000 in
set_option maxHeartbeats 4000000 in
theorem tTR_next_J62 {X : KC} {q : Int × KM} (hX : kOk X 1 prog_8_method_4_code 1 "KeyPath$TextReader") (hR : kRet X (some .int) q) (t0 : Int) (σ : KM) {Θ : (Int × KM) → Prop} (hT : ∀ z, Θ (z) → z = q) : kJ X 62 [lq 1] [ki t0] σ (fTR_next_J62 t0 σ) Θ := by
  exact k_iret hX hR hT dTR_next_62
set_option maxRecDepth 100000 in
set_option maxHeartbeats 4000000 in
theorem tTR_next_J38 {X : KC} {q : Int × KM} (hX : kOk X 1 prog_8_method_4_code 1 "KeyPath$TextReader") (hR : kRet X (some .int) q) (σ : KM) {Θ : (Int × KM) → Prop} (hT : ∀ z, Θ (z) → z = q) : kJ X 38 [lq 1] [] σ (fTR_next_J38 σ) Θ := by
  refine k_aload_n hX dTR_next_38 rfl ?_
  refine gf_126 hX dTR_next_39 ?_
  refine k_aload_n hX dTR_next_42 rfl ?_
  refine gf_124 hX dTR_next_43 ?_
  refine k_icmp_ge (tgt := 61) hX dTR_next_46 (by decide) ?_ ?_
  · refine k_iconst hX dTR_next_61 ?_
    exact tTR_next_J62 hX hR (-1) σ hT
  · refine k_aload_n hX dTR_next_49 rfl ?_
    refine gf_102 hX dTR_next_50 ?_
    refine k_aload_n hX dTR_next_53 rfl ?_
    refine gf_126 hX dTR_next_54 ?_
    refine k_iald hX (by decide) rfl dTR_next_57 rfl (fun y1 => ?_)
    refine k_goto (tgt := 62) hX dTR_next_58 (by decide) ?_
    exact tTR_next_J62 hX hR y1 σ hT
set_option maxRecDepth 100000 in
set_option maxHeartbeats 4000000 in
theorem tTR_next_B0 {X : KC} {q : Int × KM} (hX : kOk X 1 prog_8_method_4_code 1 "KeyPath$TextReader") (hR : kRet X (some .int) q) (σ : KM) {Θ : ((KM) ⊕ (Int × KM)) → Prop} (hT : ∀ z, Θ (.inr (z)) → z = q) (hb0 : ∀ s : KM, Θ (.inl s) → kW X 0 [lq 1] [] s) : kJ X 0 [lq 1] [] σ (fTR_next_B0 σ) Θ := by
  refine k_aload_n hX dTR_next_0 rfl ?_
  refine gf_126 hX dTR_next_1 ?_
  refine k_aload_n hX dTR_next_4 rfl ?_
  refine gf_124 hX dTR_next_5 ?_
  refine k_icmp_ge (tgt := 38) hX dTR_next_8 (by decide) ?_ ?_
  · refine k_exit ?_
    exact tTR_next_J38 hX hR σ hT
  · refine k_aload_n hX dTR_next_11 rfl ?_
    refine gf_102 hX dTR_next_12 ?_
    refine k_aload_n hX dTR_next_15 rfl ?_
    refine gf_126 hX dTR_next_16 ?_
    refine k_iald hX (by decide) rfl dTR_next_19 rfl (fun y1 => ?_)
    refine k_bipush hX dTR_next_20 (by decide) ?_
    refine k_icmp_ne (tgt := 38) hX dTR_next_22 (by decide) ?_ ?_
    · refine k_exit ?_
      exact tTR_next_J38 hX hR σ hT
    · refine k_aload_n hX dTR_next_25 rfl ?_
      refine k_dupr hX dTR_next_26 ?_
      refine gf_126 hX dTR_next_27 ?_
      refine k_iconst hX dTR_next_30 ?_
      refine k_iadd hX dTR_next_31 ?_
      refine gp_118 hX dTR_next_32 (fun τ2 => ?_)
      refine k_goto (tgt := 0) hX dTR_next_35 (by decide) ?_
      exact k_back (hb0 (τ2))
set_option maxRecDepth 100000 in
set_option maxHeartbeats 4000000 in
theorem tTR_next_L0 {X : KC} {q : Int × KM} (hX : kOk X 1 prog_8_method_4_code 1 "KeyPath$TextReader") (hR : kRet X (some .int) q) (σ : KM) {Θ : (Int × KM) → Prop} (hT : ∀ z, Θ (z) → z = q) : kJ X 0 [lq 1] [] σ (fTR_next_L0 σ) Θ :=
  k_iter (f := fun s => fTR_next_B0 s) (Lf := fun s => [lq 1]) (mf := fun s => s) (Θ := Θ) (fun s => tTR_next_B0 hX hR s hT (fun _ h9 => h9)) kF (σ)
set_option maxRecDepth 100000 in
set_option maxHeartbeats 4000000 in
theorem sTR_next (σ : KM) : kSem 1 (⟨"KeyPath$TextReader", "next", "()I"⟩ : MethodName) prog_8_method_4_code 1 (some .int) [kr 1] σ (fTR_next σ) := by
  refine kSem.of (L0 := [lq 1]) (by decide) (Nat.le_of_ble_eq_true rfl) rfl (fun X q hX hR => ?_)
  have hT : ∀ z : Int × KM, (fun z => z = q) z → z = q := fun _ h => h
  exact tTR_next_L0 hX hR σ hT
theorem cl_64 {X : KC} {d n : Nat} {cc : ByteArray} {pc : Nat} {L : List (Option KV)} {st : List KV} {σ : KM} {Z : Type} {Θ : Z → Prop} {G : Int → KM → Option Z} (hX : kOk X d cc n "KeyPath$TextReader") (hdd : 1 + 1 ≤ d) (hst : k_cat st ≤ 8) (hd : decode cc pc = .ok (.invokevirtual 53, 3)) (h : ∀ r τ, kJ X (pc + 3) L (ki r :: st) τ (G r τ) Θ) : kJ X pc L (kr 1 :: st) σ (kCall (fTR_next σ) G) Θ :=
  k_callV (np := 0) (av := []) (ret := (some .int)) hX (by decide) rfl rfl rfl (sTR_next σ) ⟨⟨hdd, by decide⟩, tw_384, tw_2, by decide +kernel⟩ rfl tw_381 tw_383 ts_0 hst hd h
theorem dTR_isLetter_0 : decode prog_8_method_7_code 0 = .ok (.iload_n 0, 1) := by decide +kernel
theorem dTR_isLetter_1 : decode prog_8_method_7_code 1 = .ok (.bipush 97, 2) := by decide +kernel
theorem dTR_isLetter_3 : decode prog_8_method_7_code 3 = .ok (.if_icmp .lt 13, 3) := by decide +kernel
theorem dTR_isLetter_6 : decode prog_8_method_7_code 6 = .ok (.iload_n 0, 1) := by decide +kernel
theorem dTR_isLetter_7 : decode prog_8_method_7_code 7 = .ok (.bipush 103, 2) := by decide +kernel
theorem dTR_isLetter_9 : decode prog_8_method_7_code 9 = .ok (.if_icmp .gt 7, 3) := by decide +kernel
theorem dTR_isLetter_12 : decode prog_8_method_7_code 12 = .ok (.iconst 1, 1) := by decide +kernel
theorem dTR_isLetter_13 : decode prog_8_method_7_code 13 = .ok (.goto 4, 3) := by decide +kernel
theorem dTR_isLetter_16 : decode prog_8_method_7_code 16 = .ok (.iconst 0, 1) := by decide +kernel
theorem dTR_isLetter_17 : decode prog_8_method_7_code 17 = .ok (.ireturn, 1) := by decide +kernel
set_option maxRecDepth 100000 in
set_option maxHeartbeats 4000000 in
theorem tTR_isLetter_J17 {X : KC} {q : Int × KM} (hX : kOk X 1 prog_8_method_7_code 1 "KeyPath$TextReader") (hR : kRet X (some .boolean) q) (t0 : Int) (σ : KM) {Θ : (Int × KM) → Prop} (hT : ∀ z, Θ (z) → z = q) : kJ X 17 [none] [ki t0] σ (fTR_isLetter_J17 t0 σ) Θ := by
  exact k_zret hX hR hT dTR_isLetter_17
set_option maxRecDepth 100000 in
set_option maxHeartbeats 4000000 in
theorem tTR_isLetter_J16 {X : KC} {q : Int × KM} (hX : kOk X 1 prog_8_method_7_code 1 "KeyPath$TextReader") (hR : kRet X (some .boolean) q) (σ : KM) {Θ : (Int × KM) → Prop} (hT : ∀ z, Θ (z) → z = q) : kJ X 16 [none] [] σ (fTR_isLetter_J16 σ) Θ := by
  refine k_iconst hX dTR_isLetter_16 ?_
  exact tTR_isLetter_J17 hX hR 0 σ hT
set_option maxRecDepth 100000 in
set_option maxHeartbeats 4000000 in
theorem sTR_isLetter (x0 : Int) (σ : KM) : kSem 1 (⟨"KeyPath$TextReader", "isLetter", "(I)Z"⟩ : MethodName) prog_8_method_7_code 1 (some .boolean) [ki x0] σ (fTR_isLetter x0 σ) := by
  refine kSem.of (L0 := [li x0]) (by decide) (Nat.le_of_ble_eq_true rfl) rfl (fun X q hX hR => ?_)
  have hT : ∀ z : Int × KM, (fun z => z = q) z → z = q := fun _ h => h
  refine k_iload_n hX dTR_isLetter_0 rfl ?_
  refine k_bipush hX dTR_isLetter_1 (by decide) ?_
  refine k_icmp_lt (tgt := 16) hX dTR_isLetter_3 (by decide) ?_ ?_
  · refine k_less [false] (L' := [none]) rfl ?_
    exact tTR_isLetter_J16 hX hR σ hT
  · refine k_iload_n hX dTR_isLetter_6 rfl ?_
    refine k_bipush hX dTR_isLetter_7 (by decide) ?_
    refine k_icmp_gt (tgt := 16) hX dTR_isLetter_9 (by decide) ?_ ?_
    · refine k_less [false] (L' := [none]) rfl ?_
      exact tTR_isLetter_J16 hX hR σ hT
    · refine k_iconst hX dTR_isLetter_12 ?_
      refine k_goto (tgt := 17) hX dTR_isLetter_13 (by decide) ?_
      refine k_less [false] (L' := [none]) rfl ?_
      exact tTR_isLetter_J17 hX hR 1 σ hT
theorem cl_65 {X : KC} {d n : Nat} {cc : ByteArray} {pc : Nat} {L : List (Option KV)} {st : List KV} {σ : KM} {Z : Type} {Θ : Z → Prop} {G : Int → KM → Option Z} {x0 : Int} (hX : kOk X d cc n "KeyPath$TextReader") (hdd : 1 + 1 ≤ d) (hst : k_cat st ≤ 8) (hd : decode cc pc = .ok (.invokestatic 69, 3)) (h : ∀ r τ, kJ X (pc + 3) L (ki r :: st) τ (G r τ) Θ) : kJ X pc L (ki x0 :: st) σ (kCall (fTR_isLetter x0 σ) G) Θ :=
  k_callS (np := 1) (av := [ki x0]) (ret := (some .boolean)) hX (sTR_isLetter _ σ) ⟨⟨hdd, by decide⟩, tw_436, tw_2, by decide +kernel⟩ rfl tw_434 tw_435 hst hd h
theorem dTR_fail_0 : decode prog_8_method_5_code 0 = .ok (.aload_n 0, 1) := by decide +kernel
theorem dTR_fail_1 : decode prog_8_method_5_code 1 = .ok (.getfield 47, 3) := by decide +kernel
theorem dTR_fail_4 : decode prog_8_method_5_code 4 = .ok (.ifCond .ne 13, 3) := by decide +kernel
theorem dTR_fail_7 : decode prog_8_method_5_code 7 = .ok (.aload_n 0, 1) := by decide +kernel
theorem dTR_fail_8 : decode prog_8_method_5_code 8 = .ok (.iload_n 1, 1) := by decide +kernel
theorem dTR_fail_9 : decode prog_8_method_5_code 9 = .ok (.putfield 47, 3) := by decide +kernel
theorem dTR_fail_12 : decode prog_8_method_5_code 12 = .ok (.aload_n 0, 1) := by decide +kernel
theorem dTR_fail_13 : decode prog_8_method_5_code 13 = .ok (.iload_n 2, 1) := by decide +kernel
theorem dTR_fail_14 : decode prog_8_method_5_code 14 = .ok (.putfield 22, 3) := by decide +kernel
theorem dTR_fail_17 : decode prog_8_method_5_code 17 = .ok (.return_, 1) := by decide +kernel
set_option maxRecDepth 100000 in
set_option maxHeartbeats 4000000 in
theorem tTR_fail_J17 {X : KC} {q : Int × KM} (hX : kOk X 1 prog_8_method_5_code 3 "KeyPath$TextReader") (hR : kRet X none q) (σ : KM) {Θ : (Int × KM) → Prop} (hT : ∀ z, Θ (z) → z = q) : kJ X 17 [lq 1, none, none] [] σ (fTR_fail_J17 σ) Θ := by
  exact k_vret hX hR hT dTR_fail_17
set_option maxRecDepth 100000 in
set_option maxHeartbeats 4000000 in
theorem sTR_fail (x1 x2 : Int) (σ : KM) : kSem 1 (⟨"KeyPath$TextReader", "fail", "(II)V"⟩ : MethodName) prog_8_method_5_code 3 none [kr 1, ki x1, ki x2] σ (fTR_fail x1 x2 σ) := by
  refine kSem.of (L0 := [lq 1, li x1, li x2]) (by decide) (Nat.le_of_ble_eq_true rfl) rfl (fun X q hX hR => ?_)
  have hT : ∀ z : Int × KM, (fun z => z = q) z → z = q := fun _ h => h
  refine k_aload_n hX dTR_fail_0 rfl ?_
  refine gf_125 hX dTR_fail_1 ?_
  refine k_if_ne (tgt := 17) hX dTR_fail_4 (by decide) ?_ ?_
  · refine k_less [true, false, false] (L' := [lq 1, none, none]) rfl ?_
    exact tTR_fail_J17 hX hR σ hT
  · refine k_aload_n hX dTR_fail_7 rfl ?_
    refine k_iload_n hX dTR_fail_8 rfl ?_
    refine gp_120 hX dTR_fail_9 (fun τ1 => ?_)
    refine k_aload_n hX dTR_fail_12 rfl ?_
    refine k_iload_n hX dTR_fail_13 rfl ?_
    refine gp_121 hX dTR_fail_14 (fun τ2 => ?_)
    refine k_less [true, false, false] (L' := [lq 1, none, none]) rfl ?_
    exact tTR_fail_J17 hX hR τ2 hT
theorem cl_66 {X : KC} {d n : Nat} {cc : ByteArray} {pc : Nat} {L : List (Option KV)} {st : List KV} {σ : KM} {Z : Type} {Θ : Z → Prop} {G : Int → KM → Option Z} {x1 x2 : Int} (hX : kOk X d cc n "KeyPath$TextReader") (hdd : 1 + 1 ≤ d) (hst : k_cat st ≤ 8) (hd : decode cc pc = .ok (.invokevirtual 76, 3)) (h : ∀ r τ, kJ X (pc + 3) L (st) τ (G r τ) Θ) : kJ X pc L (ki x2 :: ki x1 :: kr 1 :: st) σ (kCall (fTR_fail x1 x2 σ) G) Θ :=
  k_callV (np := 2) (av := [ki x1, ki x2]) (ret := none) hX (by decide) rfl rfl rfl (sTR_fail _ _ σ) ⟨⟨hdd, by decide⟩, tw_396, tw_2, by decide +kernel⟩ rfl tw_393 tw_395 ts_3 hst hd h
theorem dTR_readAccidental_0 : decode prog_8_method_11_code 0 = .ok (.aload_n 0, 1) := by decide +kernel
theorem dTR_readAccidental_1 : decode prog_8_method_11_code 1 = .ok (.invokevirtual 53, 3) := by decide +kernel
theorem dTR_readAccidental_4 : decode prog_8_method_11_code 4 = .ok (.istore_n 1, 1) := by decide +kernel
theorem dTR_readAccidental_5 : decode prog_8_method_11_code 5 = .ok (.iload_n 1, 1) := by decide +kernel
theorem dTR_readAccidental_6 : decode prog_8_method_11_code 6 = .ok (.bipush 35, 2) := by decide +kernel
theorem dTR_readAccidental_8 : decode prog_8_method_11_code 8 = .ok (.if_icmp .eq 11, 3) := by decide +kernel
theorem dTR_readAccidental_11 : decode prog_8_method_11_code 11 = .ok (.iload_n 1, 1) := by decide +kernel
theorem dTR_readAccidental_12 : decode prog_8_method_11_code 12 = .ok (.bipush 33, 2) := by decide +kernel
theorem dTR_readAccidental_14 : decode prog_8_method_11_code 14 = .ok (.if_icmp .eq 5, 3) := by decide +kernel
theorem dTR_readAccidental_17 : decode prog_8_method_11_code 17 = .ok (.iconst 0, 1) := by decide +kernel
theorem dTR_readAccidental_18 : decode prog_8_method_11_code 18 = .ok (.ireturn, 1) := by decide +kernel
theorem dTR_readAccidental_19 : decode prog_8_method_11_code 19 = .ok (.aload_n 0, 1) := by decide +kernel
theorem dTR_readAccidental_20 : decode prog_8_method_11_code 20 = .ok (.dup, 1) := by decide +kernel
theorem dTR_readAccidental_21 : decode prog_8_method_11_code 21 = .ok (.getfield 41, 3) := by decide +kernel
theorem dTR_readAccidental_24 : decode prog_8_method_11_code 24 = .ok (.iconst 1, 1) := by decide +kernel
theorem dTR_readAccidental_25 : decode prog_8_method_11_code 25 = .ok (.iadd, 1) := by decide +kernel
theorem dTR_readAccidental_26 : decode prog_8_method_11_code 26 = .ok (.putfield 41, 3) := by decide +kernel
theorem dTR_readAccidental_29 : decode prog_8_method_11_code 29 = .ok (.iload_n 1, 1) := by decide +kernel
theorem dTR_readAccidental_30 : decode prog_8_method_11_code 30 = .ok (.bipush 35, 2) := by decide +kernel
theorem dTR_readAccidental_32 : decode prog_8_method_11_code 32 = .ok (.if_icmp .ne 7, 3) := by decide +kernel
theorem dTR_readAccidental_35 : decode prog_8_method_11_code 35 = .ok (.iconst 1, 1) := by decide +kernel
theorem dTR_readAccidental_36 : decode prog_8_method_11_code 36 = .ok (.goto 4, 3) := by decide +kernel
theorem dTR_readAccidental_39 : decode prog_8_method_11_code 39 = .ok (.iconst (-1), 1) := by decide +kernel
theorem dTR_readAccidental_40 : decode prog_8_method_11_code 40 = .ok (.ireturn, 1) := by decide +kernel
set_option maxRecDepth 100000 in
set_option maxHeartbeats 4000000 in
theorem tTR_readAccidental_J40 {X : KC} {q : Int × KM} (hX : kOk X 2 prog_8_method_11_code 2 "KeyPath$TextReader") (hR : kRet X (some .int) q) (t0 : Int) (σ : KM) {Θ : (Int × KM) → Prop} (hT : ∀ z, Θ (z) → z = q) : kJ X 40 [lq 1, none] [ki t0] σ (fTR_readAccidental_J40 t0 σ) Θ := by
  exact k_iret hX hR hT dTR_readAccidental_40
set_option maxRecDepth 100000 in
set_option maxHeartbeats 4000000 in
theorem tTR_readAccidental_J19 {X : KC} {q : Int × KM} (hX : kOk X 2 prog_8_method_11_code 2 "KeyPath$TextReader") (hR : kRet X (some .int) q) (x1 : Int) (σ : KM) {Θ : (Int × KM) → Prop} (hT : ∀ z, Θ (z) → z = q) : kJ X 19 [lq 1, li x1] [] σ (fTR_readAccidental_J19 x1 σ) Θ := by
  refine k_aload_n hX dTR_readAccidental_19 rfl ?_
  refine k_dupr hX dTR_readAccidental_20 ?_
  refine gf_126 hX dTR_readAccidental_21 ?_
  refine k_iconst hX dTR_readAccidental_24 ?_
  refine k_iadd hX dTR_readAccidental_25 ?_
  refine gp_118 hX dTR_readAccidental_26 (fun τ1 => ?_)
  refine k_iload_n hX dTR_readAccidental_29 rfl ?_
  refine k_bipush hX dTR_readAccidental_30 (by decide) ?_
  refine k_icmp_ne (tgt := 39) hX dTR_readAccidental_32 (by decide) ?_ ?_
  · refine k_iconst hX dTR_readAccidental_39 ?_
    refine k_less [true, false] (L' := [lq 1, none]) rfl ?_
    exact tTR_readAccidental_J40 hX hR (-1) τ1 hT
  · refine k_iconst hX dTR_readAccidental_35 ?_
    refine k_goto (tgt := 40) hX dTR_readAccidental_36 (by decide) ?_
    refine k_less [true, false] (L' := [lq 1, none]) rfl ?_
    exact tTR_readAccidental_J40 hX hR 1 τ1 hT
set_option maxRecDepth 100000 in
set_option maxHeartbeats 4000000 in
theorem sTR_readAccidental (σ : KM) : kSem 2 (⟨"KeyPath$TextReader", "readAccidental", "()I"⟩ : MethodName) prog_8_method_11_code 2 (some .int) [kr 1] σ (fTR_readAccidental σ) := by
  refine kSem.of (L0 := [lq 1, none]) (by decide) (Nat.le_of_ble_eq_true rfl) rfl (fun X q hX hR => ?_)
  have hT : ∀ z : Int × KM, (fun z => z = q) z → z = q := fun _ h => h
  refine k_aload_n hX dTR_readAccidental_0 rfl ?_
  refine cl_64 hX (by decide) (Nat.le_of_ble_eq_true rfl) dTR_readAccidental_1 (fun r2 τ1 => ?_)
  refine k_istore_n (L' := [lq 1, li r2]) hX dTR_readAccidental_4 rfl (by decide) rfl ?_
  refine k_iload_n hX dTR_readAccidental_5 rfl ?_
  refine k_bipush hX dTR_readAccidental_6 (by decide) ?_
  refine k_icmp_eq (tgt := 19) hX dTR_readAccidental_8 (by decide) ?_ ?_
  · exact tTR_readAccidental_J19 hX hR r2 τ1 hT
  · refine k_iload_n hX dTR_readAccidental_11 rfl ?_
    refine k_bipush hX dTR_readAccidental_12 (by decide) ?_
    refine k_icmp_eq (tgt := 19) hX dTR_readAccidental_14 (by decide) ?_ ?_
    · exact tTR_readAccidental_J19 hX hR r2 τ1 hT
    · refine k_iconst hX dTR_readAccidental_17 ?_
      exact k_iret hX hR hT dTR_readAccidental_18
theorem cl_67 {X : KC} {d n : Nat} {cc : ByteArray} {pc : Nat} {L : List (Option KV)} {st : List KV} {σ : KM} {Z : Type} {Θ : Z → Prop} {G : Int → KM → Option Z} (hX : kOk X d cc n "KeyPath$TextReader") (hdd : 2 + 1 ≤ d) (hst : k_cat st ≤ 8) (hd : decode cc pc = .ok (.invokevirtual 83, 3)) (h : ∀ r τ, kJ X (pc + 3) L (ki r :: st) τ (G r τ) Θ) : kJ X pc L (kr 1 :: st) σ (kCall (fTR_readAccidental σ) G) Θ :=
  k_callV (np := 0) (av := []) (ret := (some .int)) hX (by decide) rfl rfl rfl (sTR_readAccidental σ) ⟨⟨hdd, by decide⟩, tw_442, tw_2, by decide +kernel⟩ rfl tw_439 tw_441 ts_9 hst hd h
theorem dTR_isDigit_0 : decode prog_8_method_8_code 0 = .ok (.iload_n 0, 1) := by decide +kernel
theorem dTR_isDigit_1 : decode prog_8_method_8_code 1 = .ok (.bipush 48, 2) := by decide +kernel
theorem dTR_isDigit_3 : decode prog_8_method_8_code 3 = .ok (.if_icmp .lt 13, 3) := by decide +kernel
theorem dTR_isDigit_6 : decode prog_8_method_8_code 6 = .ok (.iload_n 0, 1) := by decide +kernel
theorem dTR_isDigit_7 : decode prog_8_method_8_code 7 = .ok (.bipush 57, 2) := by decide +kernel
theorem dTR_isDigit_9 : decode prog_8_method_8_code 9 = .ok (.if_icmp .gt 7, 3) := by decide +kernel
theorem dTR_isDigit_12 : decode prog_8_method_8_code 12 = .ok (.iconst 1, 1) := by decide +kernel
theorem dTR_isDigit_13 : decode prog_8_method_8_code 13 = .ok (.goto 4, 3) := by decide +kernel
theorem dTR_isDigit_16 : decode prog_8_method_8_code 16 = .ok (.iconst 0, 1) := by decide +kernel
theorem dTR_isDigit_17 : decode prog_8_method_8_code 17 = .ok (.ireturn, 1) := by decide +kernel
set_option maxRecDepth 100000 in
set_option maxHeartbeats 4000000 in
theorem tTR_isDigit_J17 {X : KC} {q : Int × KM} (hX : kOk X 1 prog_8_method_8_code 1 "KeyPath$TextReader") (hR : kRet X (some .boolean) q) (t0 : Int) (σ : KM) {Θ : (Int × KM) → Prop} (hT : ∀ z, Θ (z) → z = q) : kJ X 17 [none] [ki t0] σ (fTR_isDigit_J17 t0 σ) Θ := by
  exact k_zret hX hR hT dTR_isDigit_17
set_option maxRecDepth 100000 in
set_option maxHeartbeats 4000000 in
theorem tTR_isDigit_J16 {X : KC} {q : Int × KM} (hX : kOk X 1 prog_8_method_8_code 1 "KeyPath$TextReader") (hR : kRet X (some .boolean) q) (σ : KM) {Θ : (Int × KM) → Prop} (hT : ∀ z, Θ (z) → z = q) : kJ X 16 [none] [] σ (fTR_isDigit_J16 σ) Θ := by
  refine k_iconst hX dTR_isDigit_16 ?_
  exact tTR_isDigit_J17 hX hR 0 σ hT
set_option maxRecDepth 100000 in
set_option maxHeartbeats 4000000 in
theorem sTR_isDigit (x0 : Int) (σ : KM) : kSem 1 (⟨"KeyPath$TextReader", "isDigit", "(I)Z"⟩ : MethodName) prog_8_method_8_code 1 (some .boolean) [ki x0] σ (fTR_isDigit x0 σ) := by
  refine kSem.of (L0 := [li x0]) (by decide) (Nat.le_of_ble_eq_true rfl) rfl (fun X q hX hR => ?_)
  have hT : ∀ z : Int × KM, (fun z => z = q) z → z = q := fun _ h => h
  refine k_iload_n hX dTR_isDigit_0 rfl ?_
  refine k_bipush hX dTR_isDigit_1 (by decide) ?_
  refine k_icmp_lt (tgt := 16) hX dTR_isDigit_3 (by decide) ?_ ?_
  · refine k_less [false] (L' := [none]) rfl ?_
    exact tTR_isDigit_J16 hX hR σ hT
  · refine k_iload_n hX dTR_isDigit_6 rfl ?_
    refine k_bipush hX dTR_isDigit_7 (by decide) ?_
    refine k_icmp_gt (tgt := 16) hX dTR_isDigit_9 (by decide) ?_ ?_
    · refine k_less [false] (L' := [none]) rfl ?_
      exact tTR_isDigit_J16 hX hR σ hT
    · refine k_iconst hX dTR_isDigit_12 ?_
      refine k_goto (tgt := 17) hX dTR_isDigit_13 (by decide) ?_
      refine k_less [false] (L' := [none]) rfl ?_
      exact tTR_isDigit_J17 hX hR 1 σ hT
theorem cl_68 {X : KC} {d n : Nat} {cc : ByteArray} {pc : Nat} {L : List (Option KV)} {st : List KV} {σ : KM} {Z : Type} {Θ : Z → Prop} {G : Int → KM → Option Z} {x0 : Int} (hX : kOk X d cc n "KeyPath$TextReader") (hdd : 1 + 1 ≤ d) (hst : k_cat st ≤ 8) (hd : decode cc pc = .ok (.invokestatic 86, 3)) (h : ∀ r τ, kJ X (pc + 3) L (ki r :: st) τ (G r τ) Θ) : kJ X pc L (ki x0 :: st) σ (kCall (fTR_isDigit x0 σ) G) Θ :=
  k_callS (np := 1) (av := [ki x0]) (ret := (some .boolean)) hX (sTR_isDigit _ σ) ⟨⟨hdd, by decide⟩, tw_399, tw_2, by decide +kernel⟩ rfl tw_397 tw_398 hst hd h
theorem dTR_isNamed_0 : decode prog_8_method_12_code 0 = .ok (.iconst 0, 1) := by decide +kernel
theorem dTR_isNamed_1 : decode prog_8_method_12_code 1 = .ok (.istore_n 2, 1) := by decide +kernel
theorem dTR_isNamed_2 : decode prog_8_method_12_code 2 = .ok (.iload_n 2, 1) := by decide +kernel
theorem dTR_isNamed_3 : decode prog_8_method_12_code 3 = .ok (.aload_n 0, 1) := by decide +kernel
theorem dTR_isNamed_4 : decode prog_8_method_12_code 4 = .ok (.getfield 60, 3) := by decide +kernel
theorem dTR_isNamed_7 : decode prog_8_method_12_code 7 = .ok (.if_icmp .ge 21, 3) := by decide +kernel
theorem dTR_isNamed_10 : decode prog_8_method_12_code 10 = .ok (.aload_n 0, 1) := by decide +kernel
theorem dTR_isNamed_11 : decode prog_8_method_12_code 11 = .ok (.getfield 26, 3) := by decide +kernel
theorem dTR_isNamed_14 : decode prog_8_method_12_code 14 = .ok (.iload_n 2, 1) := by decide +kernel
theorem dTR_isNamed_15 : decode prog_8_method_12_code 15 = .ok (.iaload, 1) := by decide +kernel
theorem dTR_isNamed_16 : decode prog_8_method_12_code 16 = .ok (.iload_n 1, 1) := by decide +kernel
theorem dTR_isNamed_17 : decode prog_8_method_12_code 17 = .ok (.if_icmp .ne 5, 3) := by decide +kernel
theorem dTR_isNamed_20 : decode prog_8_method_12_code 20 = .ok (.iconst 1, 1) := by decide +kernel
theorem dTR_isNamed_21 : decode prog_8_method_12_code 21 = .ok (.ireturn, 1) := by decide +kernel
theorem dTR_isNamed_22 : decode prog_8_method_12_code 22 = .ok (.iinc 2 1, 3) := by decide +kernel
theorem dTR_isNamed_25 : decode prog_8_method_12_code 25 = .ok (.goto (-23), 3) := by decide +kernel
theorem dTR_isNamed_28 : decode prog_8_method_12_code 28 = .ok (.iconst 0, 1) := by decide +kernel
theorem dTR_isNamed_29 : decode prog_8_method_12_code 29 = .ok (.ireturn, 1) := by decide +kernel
set_option maxRecDepth 100000 in
set_option maxHeartbeats 4000000 in
theorem tTR_isNamed_J28 {X : KC} {q : Int × KM} (hX : kOk X 1 prog_8_method_12_code 3 "KeyPath$TextReader") (hR : kRet X (some .boolean) q) (σ : KM) {Θ : (Int × KM) → Prop} (hT : ∀ z, Θ (z) → z = q) : kJ X 28 [lq 1, none, none] [] σ (fTR_isNamed_J28 σ) Θ := by
  refine k_iconst hX dTR_isNamed_28 ?_
  exact k_zret hX hR hT dTR_isNamed_29
set_option maxRecDepth 100000 in
set_option maxHeartbeats 4000000 in
theorem tTR_isNamed_J20 {X : KC} {q : Int × KM} (hX : kOk X 1 prog_8_method_12_code 3 "KeyPath$TextReader") (hR : kRet X (some .boolean) q) (σ : KM) {Θ : (Int × KM) → Prop} (hT : ∀ z, Θ (z) → z = q) : kJ X 20 [lq 1, none, none] [] σ (fTR_isNamed_J20 σ) Θ := by
  refine k_iconst hX dTR_isNamed_20 ?_
  exact k_zret hX hR hT dTR_isNamed_21
set_option maxRecDepth 100000 in
set_option maxHeartbeats 4000000 in
theorem tTR_isNamed_B2 {X : KC} {q : Int × KM} (hX : kOk X 1 prog_8_method_12_code 3 "KeyPath$TextReader") (hR : kRet X (some .boolean) q) (x1 x2 : Int) (σ : KM) {Θ : ((Int × KM) ⊕ (Int × KM)) → Prop} (hT : ∀ z, Θ (.inr (z)) → z = q) (hb0 : ∀ s : Int × KM, Θ (.inl s) → kW X 2 [lq 1, li x1, li s.1] [] s.2) : kJ X 2 [lq 1, li x1, li x2] [] σ (fTR_isNamed_B2 x1 x2 σ) Θ := by
  refine k_iload_n hX dTR_isNamed_2 rfl ?_
  refine k_aload_n hX dTR_isNamed_3 rfl ?_
  refine gf_128 hX dTR_isNamed_4 ?_
  refine k_icmp_ge (tgt := 28) hX dTR_isNamed_7 (by decide) ?_ ?_
  · refine k_exit ?_
    refine k_less [true, false, false] (L' := [lq 1, none, none]) rfl ?_
    exact tTR_isNamed_J28 hX hR σ hT
  · refine k_aload_n hX dTR_isNamed_10 rfl ?_
    refine gf_130 hX dTR_isNamed_11 ?_
    refine k_iload_n hX dTR_isNamed_14 rfl ?_
    refine k_iald hX (by decide) rfl dTR_isNamed_15 rfl (fun y1 => ?_)
    refine k_iload_n hX dTR_isNamed_16 rfl ?_
    refine k_icmp_ne (tgt := 22) hX dTR_isNamed_17 (by decide) ?_ ?_
    · refine k_iincL (Lf := fun y2 => [lq 1, li x1, li y2]) hX dTR_isNamed_22 rfl (by decide) rfl (fun _ => rfl) (fun y2 => ?_)
      refine k_goto (tgt := 2) hX dTR_isNamed_25 (by decide) ?_
      exact k_back (hb0 (y2, σ))
    · refine k_exit ?_
      refine k_less [true, false, false] (L' := [lq 1, none, none]) rfl ?_
      exact tTR_isNamed_J20 hX hR σ hT
set_option maxRecDepth 100000 in
set_option maxHeartbeats 4000000 in
theorem tTR_isNamed_L2 {X : KC} {q : Int × KM} (hX : kOk X 1 prog_8_method_12_code 3 "KeyPath$TextReader") (hR : kRet X (some .boolean) q) (x1 x2 : Int) (σ : KM) {Θ : (Int × KM) → Prop} (hT : ∀ z, Θ (z) → z = q) : kJ X 2 [lq 1, li x1, li x2] [] σ (fTR_isNamed_L2 x1 x2 σ) Θ :=
  k_iter (f := fun s => fTR_isNamed_B2 x1 s.1 s.2) (Lf := fun s => [lq 1, li x1, li s.1]) (mf := fun s => s.2) (Θ := Θ) (fun s => tTR_isNamed_B2 hX hR x1 s.1 s.2 hT (fun _ h9 => h9)) kF (x2, σ)
set_option maxRecDepth 100000 in
set_option maxHeartbeats 4000000 in
theorem sTR_isNamed (x1 : Int) (σ : KM) : kSem 1 (⟨"KeyPath$TextReader", "isNamed", "(I)Z"⟩ : MethodName) prog_8_method_12_code 3 (some .boolean) [kr 1, ki x1] σ (fTR_isNamed x1 σ) := by
  refine kSem.of (L0 := [lq 1, li x1, none]) (by decide) (Nat.le_of_ble_eq_true rfl) rfl (fun X q hX hR => ?_)
  have hT : ∀ z : Int × KM, (fun z => z = q) z → z = q := fun _ h => h
  refine k_iconst hX dTR_isNamed_0 ?_
  refine k_istore_n (L' := [lq 1, li x1, li 0]) hX dTR_isNamed_1 rfl (by decide) rfl ?_
  exact tTR_isNamed_L2 hX hR x1 0 σ hT
theorem cl_70 {X : KC} {d n : Nat} {cc : ByteArray} {pc : Nat} {L : List (Option KV)} {st : List KV} {σ : KM} {Z : Type} {Θ : Z → Prop} {G : Int → KM → Option Z} {x1 : Int} (hX : kOk X d cc n "KeyPath$TextReader") (hdd : 1 + 1 ≤ d) (hst : k_cat st ≤ 8) (hd : decode cc pc = .ok (.invokevirtual 93, 3)) (h : ∀ r τ, kJ X (pc + 3) L (ki r :: st) τ (G r τ) Θ) : kJ X pc L (ki x1 :: kr 1 :: st) σ (kCall (fTR_isNamed x1 σ) G) Θ :=
  k_callV (np := 1) (av := [ki x1]) (ret := (some .boolean)) hX (by decide) rfl rfl rfl (sTR_isNamed _ σ) ⟨⟨hdd, by decide⟩, tw_446, tw_2, by decide +kernel⟩ rfl tw_443 tw_445 ts_10 hst hd h
theorem dTR_readName_0 : decode prog_8_method_10_code 0 = .ok (.aload_n 0, 1) := by decide +kernel
theorem dTR_readName_1 : decode prog_8_method_10_code 1 = .ok (.invokevirtual 53, 3) := by decide +kernel
theorem dTR_readName_4 : decode prog_8_method_10_code 4 = .ok (.istore_n 1, 1) := by decide +kernel
theorem dTR_readName_5 : decode prog_8_method_10_code 5 = .ok (.aload_n 0, 1) := by decide +kernel
theorem dTR_readName_6 : decode prog_8_method_10_code 6 = .ok (.getfield 41, 3) := by decide +kernel
theorem dTR_readName_9 : decode prog_8_method_10_code 9 = .ok (.istore_n 2, 1) := by decide +kernel
theorem dTR_readName_10 : decode prog_8_method_10_code 10 = .ok (.iload_n 1, 1) := by decide +kernel
theorem dTR_readName_11 : decode prog_8_method_10_code 11 = .ok (.invokestatic 69, 3) := by decide +kernel
theorem dTR_readName_14 : decode prog_8_method_10_code 14 = .ok (.ifCond .ne 10, 3) := by decide +kernel
theorem dTR_readName_17 : decode prog_8_method_10_code 17 = .ok (.aload_n 0, 1) := by decide +kernel
theorem dTR_readName_18 : decode prog_8_method_10_code 18 = .ok (.iconst 1, 1) := by decide +kernel
theorem dTR_readName_19 : decode prog_8_method_10_code 19 = .ok (.iload_n 2, 1) := by decide +kernel
theorem dTR_readName_20 : decode prog_8_method_10_code 20 = .ok (.invokevirtual 76, 3) := by decide +kernel
theorem dTR_readName_23 : decode prog_8_method_10_code 23 = .ok (.return_, 1) := by decide +kernel
theorem dTR_readName_24 : decode prog_8_method_10_code 24 = .ok (.aload_n 0, 1) := by decide +kernel
theorem dTR_readName_25 : decode prog_8_method_10_code 25 = .ok (.getfield 60, 3) := by decide +kernel
theorem dTR_readName_28 : decode prog_8_method_10_code 28 = .ok (.bipush 6, 2) := by decide +kernel
theorem dTR_readName_30 : decode prog_8_method_10_code 30 = .ok (.if_icmp .ge 20, 3) := by decide +kernel
theorem dTR_readName_33 : decode prog_8_method_10_code 33 = .ok (.aload_n 0, 1) := by decide +kernel
theorem dTR_readName_34 : decode prog_8_method_10_code 34 = .ok (.getfield 18, 3) := by decide +kernel
theorem dTR_readName_37 : decode prog_8_method_10_code 37 = .ok (.getfield 50, 3) := by decide +kernel
theorem dTR_readName_40 : decode prog_8_method_10_code 40 = .ok (.aload_n 0, 1) := by decide +kernel
theorem dTR_readName_41 : decode prog_8_method_10_code 41 = .ok (.getfield 60, 3) := by decide +kernel
theorem dTR_readName_44 : decode prog_8_method_10_code 44 = .ok (.iadd, 1) := by decide +kernel
theorem dTR_readName_45 : decode prog_8_method_10_code 45 = .ok (.bipush 100, 2) := by decide +kernel
theorem dTR_readName_47 : decode prog_8_method_10_code 47 = .ok (.if_icmp .lt 10, 3) := by decide +kernel
theorem dTR_readName_50 : decode prog_8_method_10_code 50 = .ok (.aload_n 0, 1) := by decide +kernel
theorem dTR_readName_51 : decode prog_8_method_10_code 51 = .ok (.iconst 3, 1) := by decide +kernel
theorem dTR_readName_52 : decode prog_8_method_10_code 52 = .ok (.iload_n 2, 1) := by decide +kernel
theorem dTR_readName_53 : decode prog_8_method_10_code 53 = .ok (.invokevirtual 76, 3) := by decide +kernel
theorem dTR_readName_56 : decode prog_8_method_10_code 56 = .ok (.return_, 1) := by decide +kernel
theorem dTR_readName_57 : decode prog_8_method_10_code 57 = .ok (.aload_n 0, 1) := by decide +kernel
theorem dTR_readName_58 : decode prog_8_method_10_code 58 = .ok (.dup, 1) := by decide +kernel
theorem dTR_readName_59 : decode prog_8_method_10_code 59 = .ok (.getfield 41, 3) := by decide +kernel
theorem dTR_readName_62 : decode prog_8_method_10_code 62 = .ok (.iconst 1, 1) := by decide +kernel
theorem dTR_readName_63 : decode prog_8_method_10_code 63 = .ok (.iadd, 1) := by decide +kernel
theorem dTR_readName_64 : decode prog_8_method_10_code 64 = .ok (.putfield 41, 3) := by decide +kernel
theorem dTR_readName_67 : decode prog_8_method_10_code 67 = .ok (.getstatic 80, 3) := by decide +kernel
theorem dTR_readName_70 : decode prog_8_method_10_code 70 = .ok (.iload_n 1, 1) := by decide +kernel
theorem dTR_readName_71 : decode prog_8_method_10_code 71 = .ok (.bipush 97, 2) := by decide +kernel
theorem dTR_readName_73 : decode prog_8_method_10_code 73 = .ok (.isub, 1) := by decide +kernel
theorem dTR_readName_74 : decode prog_8_method_10_code 74 = .ok (.iaload, 1) := by decide +kernel
theorem dTR_readName_75 : decode prog_8_method_10_code 75 = .ok (.aload_n 0, 1) := by decide +kernel
theorem dTR_readName_76 : decode prog_8_method_10_code 76 = .ok (.invokevirtual 83, 3) := by decide +kernel
theorem dTR_readName_79 : decode prog_8_method_10_code 79 = .ok (.iadd, 1) := by decide +kernel
theorem dTR_readName_80 : decode prog_8_method_10_code 80 = .ok (.istore_n 3, 1) := by decide +kernel
theorem dTR_readName_81 : decode prog_8_method_10_code 81 = .ok (.aload_n 0, 1) := by decide +kernel
theorem dTR_readName_82 : decode prog_8_method_10_code 82 = .ok (.invokevirtual 53, 3) := by decide +kernel
theorem dTR_readName_85 : decode prog_8_method_10_code 85 = .ok (.istore 4, 2) := by decide +kernel
theorem dTR_readName_87 : decode prog_8_method_10_code 87 = .ok (.iload 4, 2) := by decide +kernel
theorem dTR_readName_89 : decode prog_8_method_10_code 89 = .ok (.invokestatic 86, 3) := by decide +kernel
theorem dTR_readName_92 : decode prog_8_method_10_code 92 = .ok (.ifCond .ne 13, 3) := by decide +kernel
theorem dTR_readName_95 : decode prog_8_method_10_code 95 = .ok (.aload_n 0, 1) := by decide +kernel
theorem dTR_readName_96 : decode prog_8_method_10_code 96 = .ok (.iconst 1, 1) := by decide +kernel
theorem dTR_readName_97 : decode prog_8_method_10_code 97 = .ok (.aload_n 0, 1) := by decide +kernel
theorem dTR_readName_98 : decode prog_8_method_10_code 98 = .ok (.getfield 41, 3) := by decide +kernel
theorem dTR_readName_101 : decode prog_8_method_10_code 101 = .ok (.invokevirtual 76, 3) := by decide +kernel
theorem dTR_readName_104 : decode prog_8_method_10_code 104 = .ok (.return_, 1) := by decide +kernel
theorem dTR_readName_105 : decode prog_8_method_10_code 105 = .ok (.aload_n 0, 1) := by decide +kernel
theorem dTR_readName_106 : decode prog_8_method_10_code 106 = .ok (.dup, 1) := by decide +kernel
theorem dTR_readName_107 : decode prog_8_method_10_code 107 = .ok (.getfield 41, 3) := by decide +kernel
theorem dTR_readName_110 : decode prog_8_method_10_code 110 = .ok (.iconst 1, 1) := by decide +kernel
theorem dTR_readName_111 : decode prog_8_method_10_code 111 = .ok (.iadd, 1) := by decide +kernel
theorem dTR_readName_112 : decode prog_8_method_10_code 112 = .ok (.putfield 41, 3) := by decide +kernel
theorem dTR_readName_115 : decode prog_8_method_10_code 115 = .ok (.iload_n 3, 1) := by decide +kernel
theorem dTR_readName_116 : decode prog_8_method_10_code 116 = .ok (.bipush 12, 2) := by decide +kernel
theorem dTR_readName_118 : decode prog_8_method_10_code 118 = .ok (.iload 4, 2) := by decide +kernel
theorem dTR_readName_120 : decode prog_8_method_10_code 120 = .ok (.bipush 48, 2) := by decide +kernel
theorem dTR_readName_122 : decode prog_8_method_10_code 122 = .ok (.isub, 1) := by decide +kernel
theorem dTR_readName_123 : decode prog_8_method_10_code 123 = .ok (.iconst 1, 1) := by decide +kernel
theorem dTR_readName_124 : decode prog_8_method_10_code 124 = .ok (.iadd, 1) := by decide +kernel
theorem dTR_readName_125 : decode prog_8_method_10_code 125 = .ok (.imul, 1) := by decide +kernel
theorem dTR_readName_126 : decode prog_8_method_10_code 126 = .ok (.iadd, 1) := by decide +kernel
theorem dTR_readName_127 : decode prog_8_method_10_code 127 = .ok (.istore_n 3, 1) := by decide +kernel
theorem dTR_readName_128 : decode prog_8_method_10_code 128 = .ok (.iconst 0, 1) := by decide +kernel
theorem dTR_readName_129 : decode prog_8_method_10_code 129 = .ok (.bipush 127, 2) := by decide +kernel
theorem dTR_readName_131 : decode prog_8_method_10_code 131 = .ok (.iload_n 3, 1) := by decide +kernel
theorem dTR_readName_132 : decode prog_8_method_10_code 132 = .ok (.invokestatic 89, 3) := by decide +kernel
theorem dTR_readName_135 : decode prog_8_method_10_code 135 = .ok (.ifCond .ne 11, 3) := by decide +kernel
theorem dTR_readName_138 : decode prog_8_method_10_code 138 = .ok (.aload_n 0, 1) := by decide +kernel
theorem dTR_readName_139 : decode prog_8_method_10_code 139 = .ok (.iload_n 3, 1) := by decide +kernel
theorem dTR_readName_140 : decode prog_8_method_10_code 140 = .ok (.invokevirtual 93, 3) := by decide +kernel
theorem dTR_readName_143 : decode prog_8_method_10_code 143 = .ok (.ifCond .eq 10, 3) := by decide +kernel
theorem dTR_readName_146 : decode prog_8_method_10_code 146 = .ok (.aload_n 0, 1) := by decide +kernel
theorem dTR_readName_147 : decode prog_8_method_10_code 147 = .ok (.iconst 3, 1) := by decide +kernel
theorem dTR_readName_148 : decode prog_8_method_10_code 148 = .ok (.iload_n 2, 1) := by decide +kernel
theorem dTR_readName_149 : decode prog_8_method_10_code 149 = .ok (.invokevirtual 76, 3) := by decide +kernel
theorem dTR_readName_152 : decode prog_8_method_10_code 152 = .ok (.return_, 1) := by decide +kernel
theorem dTR_readName_153 : decode prog_8_method_10_code 153 = .ok (.aload_n 0, 1) := by decide +kernel
theorem dTR_readName_154 : decode prog_8_method_10_code 154 = .ok (.getfield 26, 3) := by decide +kernel
theorem dTR_readName_157 : decode prog_8_method_10_code 157 = .ok (.aload_n 0, 1) := by decide +kernel
theorem dTR_readName_158 : decode prog_8_method_10_code 158 = .ok (.getfield 60, 3) := by decide +kernel
theorem dTR_readName_161 : decode prog_8_method_10_code 161 = .ok (.iload_n 3, 1) := by decide +kernel
theorem dTR_readName_162 : decode prog_8_method_10_code 162 = .ok (.iastore, 1) := by decide +kernel
theorem dTR_readName_163 : decode prog_8_method_10_code 163 = .ok (.aload_n 0, 1) := by decide +kernel
theorem dTR_readName_164 : decode prog_8_method_10_code 164 = .ok (.dup, 1) := by decide +kernel
theorem dTR_readName_165 : decode prog_8_method_10_code 165 = .ok (.getfield 60, 3) := by decide +kernel
theorem dTR_readName_168 : decode prog_8_method_10_code 168 = .ok (.iconst 1, 1) := by decide +kernel
theorem dTR_readName_169 : decode prog_8_method_10_code 169 = .ok (.iadd, 1) := by decide +kernel
theorem dTR_readName_170 : decode prog_8_method_10_code 170 = .ok (.putfield 60, 3) := by decide +kernel
theorem dTR_readName_173 : decode prog_8_method_10_code 173 = .ok (.return_, 1) := by decide +kernel
set_option maxRecDepth 100000 in
set_option maxHeartbeats 4000000 in
theorem tTR_readName_J50 {X : KC} {q : Int × KM} (hX : kOk X 3 prog_8_method_10_code 5 "KeyPath$TextReader") (hR : kRet X none q) (x2 : Int) (σ : KM) {Θ : (Int × KM) → Prop} (hT : ∀ z, Θ (z) → z = q) : kJ X 50 [lq 1, none, li x2, none, none] [] σ (fTR_readName_J50 x2 σ) Θ := by
  refine k_aload_n hX dTR_readName_50 rfl ?_
  refine k_iconst hX dTR_readName_51 ?_
  refine k_iload_n hX dTR_readName_52 rfl ?_
  refine cl_66 hX (by decide) (Nat.le_of_ble_eq_true rfl) dTR_readName_53 (fun _ τ1 => ?_)
  exact k_vret hX hR hT dTR_readName_56
set_option maxRecDepth 100000 in
set_option maxHeartbeats 4000000 in
theorem tTR_readName_J146 {X : KC} {q : Int × KM} (hX : kOk X 3 prog_8_method_10_code 5 "KeyPath$TextReader") (hR : kRet X none q) (x2 : Int) (σ : KM) {Θ : (Int × KM) → Prop} (hT : ∀ z, Θ (z) → z = q) : kJ X 146 [lq 1, none, li x2, none, none] [] σ (fTR_readName_J146 x2 σ) Θ := by
  refine k_aload_n hX dTR_readName_146 rfl ?_
  refine k_iconst hX dTR_readName_147 ?_
  refine k_iload_n hX dTR_readName_148 rfl ?_
  refine cl_66 hX (by decide) (Nat.le_of_ble_eq_true rfl) dTR_readName_149 (fun _ τ1 => ?_)
  exact k_vret hX hR hT dTR_readName_152
set_option maxRecDepth 100000 in
set_option maxHeartbeats 4000000 in
theorem sTR_readName (σ : KM) : kSem 3 (⟨"KeyPath$TextReader", "readName", "()V"⟩ : MethodName) prog_8_method_10_code 5 none [kr 1] σ (fTR_readName σ) := by
  refine kSem.of (L0 := [lq 1, none, none, none, none]) (by decide) (Nat.le_of_ble_eq_true rfl) rfl (fun X q hX hR => ?_)
  have hT : ∀ z : Int × KM, (fun z => z = q) z → z = q := fun _ h => h
  refine k_aload_n hX dTR_readName_0 rfl ?_
  refine cl_64 hX (by decide) (Nat.le_of_ble_eq_true rfl) dTR_readName_1 (fun r2 τ1 => ?_)
  refine k_istore_n (L' := [lq 1, li r2, none, none, none]) hX dTR_readName_4 rfl (by decide) rfl ?_
  refine k_aload_n hX dTR_readName_5 rfl ?_
  refine gf_126 hX dTR_readName_6 ?_
  refine k_istoreL_n (Lf := fun y3 => [lq 1, li r2, li y3, none, none]) hX dTR_readName_9 rfl (by decide) (fun _ => rfl) (fun y3 => ?_)
  refine k_iload_n hX dTR_readName_10 rfl ?_
  refine cl_65 hX (by decide) (Nat.le_of_ble_eq_true rfl) dTR_readName_11 (fun r5 τ4 => ?_)
  refine k_if_ne (tgt := 24) hX dTR_readName_14 (by decide) ?_ ?_
  · refine k_aload_n hX dTR_readName_24 rfl ?_
    refine gf_128 hX dTR_readName_25 ?_
    refine k_bipush hX dTR_readName_28 (by decide) ?_
    refine k_icmp_ge (tgt := 50) hX dTR_readName_30 (by decide) ?_ ?_
    · refine k_less [true, false, true, true, true] (L' := [lq 1, none, li y3, none, none]) rfl ?_
      exact tTR_readName_J50 hX hR y3 τ4 hT
    · refine k_aload_n hX dTR_readName_33 rfl ?_
      refine gf_122 hX dTR_readName_34 ?_
      refine gf_129 hX dTR_readName_37 ?_
      refine k_aload_n hX dTR_readName_40 rfl ?_
      refine gf_128 hX dTR_readName_41 ?_
      refine k_iadd hX dTR_readName_44 ?_
      refine k_bipush hX dTR_readName_45 (by decide) ?_
      refine k_icmp_lt (tgt := 57) hX dTR_readName_47 (by decide) ?_ ?_
      · refine k_aload_n hX dTR_readName_57 rfl ?_
        refine k_dupr hX dTR_readName_58 ?_
        refine gf_126 hX dTR_readName_59 ?_
        refine k_iconst hX dTR_readName_62 ?_
        refine k_iadd hX dTR_readName_63 ?_
        refine gp_118 hX dTR_readName_64 (fun τ6 => ?_)
        refine k_getsN hX 4 (by decide) (List.mem_of_getElem? (i := 10) rfl) dTR_readName_67 ?_
        refine k_iload_n hX dTR_readName_70 rfl ?_
        refine k_bipush hX dTR_readName_71 (by decide) ?_
        refine k_isub hX dTR_readName_73 ?_
        refine k_sald (c := 4) hX (by decide) dTR_readName_74 rfl (fun y7 => ?_)
        refine k_aload_n hX dTR_readName_75 rfl ?_
        refine cl_67 hX (by decide) (Nat.le_of_ble_eq_true rfl) dTR_readName_76 (fun r9 τ8 => ?_)
        refine k_iadd hX dTR_readName_79 ?_
        refine k_istoreL_n (Lf := fun y10 => [lq 1, li r2, li y3, li y10, none]) hX dTR_readName_80 rfl (by decide) (fun _ => rfl) (fun y10 => ?_)
        refine k_aload_n hX dTR_readName_81 rfl ?_
        refine cl_64 hX (by decide) (Nat.le_of_ble_eq_true rfl) dTR_readName_82 (fun r12 τ11 => ?_)
        refine k_istore (L' := [lq 1, li r2, li y3, li y10, li r12]) hX dTR_readName_85 rfl (by decide) rfl ?_
        refine k_iload hX dTR_readName_87 rfl ?_
        refine cl_68 hX (by decide) (Nat.le_of_ble_eq_true rfl) dTR_readName_89 (fun r14 τ13 => ?_)
        refine k_if_ne (tgt := 105) hX dTR_readName_92 (by decide) ?_ ?_
        · refine k_aload_n hX dTR_readName_105 rfl ?_
          refine k_dupr hX dTR_readName_106 ?_
          refine gf_126 hX dTR_readName_107 ?_
          refine k_iconst hX dTR_readName_110 ?_
          refine k_iadd hX dTR_readName_111 ?_
          refine gp_118 hX dTR_readName_112 (fun τ15 => ?_)
          refine k_iload_n hX dTR_readName_115 rfl ?_
          refine k_bipush hX dTR_readName_116 (by decide) ?_
          refine k_iload hX dTR_readName_118 rfl ?_
          refine k_bipush hX dTR_readName_120 (by decide) ?_
          refine k_isub hX dTR_readName_122 ?_
          refine k_iconst hX dTR_readName_123 ?_
          refine k_iadd hX dTR_readName_124 ?_
          refine k_imul hX dTR_readName_125 ?_
          refine k_iadd hX dTR_readName_126 ?_
          refine k_istoreL_n (Lf := fun y16 => [lq 1, li r2, li y3, li y16, li r12]) hX dTR_readName_127 rfl (by decide) (fun _ => rfl) (fun y16 => ?_)
          refine k_iconst hX dTR_readName_128 ?_
          refine k_bipush hX dTR_readName_129 (by decide) ?_
          refine k_iload_n hX dTR_readName_131 rfl ?_
          refine cl_69 hX (by decide) (Nat.le_of_ble_eq_true rfl) dTR_readName_132 (fun r18 τ17 => ?_)
          refine k_if_ne (tgt := 146) hX dTR_readName_135 (by decide) ?_ ?_
          · refine k_less [true, false, true, false, false] (L' := [lq 1, none, li y3, none, none]) rfl ?_
            exact tTR_readName_J146 hX hR y3 τ17 hT
          · refine k_aload_n hX dTR_readName_138 rfl ?_
            refine k_iload_n hX dTR_readName_139 rfl ?_
            refine cl_70 hX (by decide) (Nat.le_of_ble_eq_true rfl) dTR_readName_140 (fun r20 τ19 => ?_)
            refine k_if_eq (tgt := 153) hX dTR_readName_143 (by decide) ?_ ?_
            · refine k_aload_n hX dTR_readName_153 rfl ?_
              refine gf_130 hX dTR_readName_154 ?_
              refine k_aload_n hX dTR_readName_157 rfl ?_
              refine gf_128 hX dTR_readName_158 ?_
              refine k_iload_n hX dTR_readName_161 rfl ?_
              refine k_iast hX (by decide) rfl dTR_readName_162 rfl (fun τ21 => ?_)
              refine k_aload_n hX dTR_readName_163 rfl ?_
              refine k_dupr hX dTR_readName_164 ?_
              refine gf_128 hX dTR_readName_165 ?_
              refine k_iconst hX dTR_readName_168 ?_
              refine k_iadd hX dTR_readName_169 ?_
              refine gp_127 hX dTR_readName_170 (fun τ22 => ?_)
              exact k_vret hX hR hT dTR_readName_173
            · refine k_less [true, false, true, false, false] (L' := [lq 1, none, li y3, none, none]) rfl ?_
              exact tTR_readName_J146 hX hR y3 τ19 hT
        · refine k_aload_n hX dTR_readName_95 rfl ?_
          refine k_iconst hX dTR_readName_96 ?_
          refine k_aload_n hX dTR_readName_97 rfl ?_
          refine gf_126 hX dTR_readName_98 ?_
          refine cl_66 hX (by decide) (Nat.le_of_ble_eq_true rfl) dTR_readName_101 (fun _ τ23 => ?_)
          exact k_vret hX hR hT dTR_readName_104
      · refine k_less [true, false, true, true, true] (L' := [lq 1, none, li y3, none, none]) rfl ?_
        exact tTR_readName_J50 hX hR y3 τ4 hT
  · refine k_aload_n hX dTR_readName_17 rfl ?_
    refine k_iconst hX dTR_readName_18 ?_
    refine k_iload_n hX dTR_readName_19 rfl ?_
    refine cl_66 hX (by decide) (Nat.le_of_ble_eq_true rfl) dTR_readName_20 (fun _ τ24 => ?_)
    exact k_vret hX hR hT dTR_readName_23
theorem cl_71 {X : KC} {d n : Nat} {cc : ByteArray} {pc : Nat} {L : List (Option KV)} {st : List KV} {σ : KM} {Z : Type} {Θ : Z → Prop} {G : Int → KM → Option Z} (hX : kOk X d cc n "KeyPath$TextReader") (hdd : 3 + 1 ≤ d) (hst : k_cat st ≤ 8) (hd : decode cc pc = .ok (.invokevirtual 73, 3)) (h : ∀ r τ, kJ X (pc + 3) L (st) τ (G r τ) Θ) : kJ X pc L (kr 1 :: st) σ (kCall (fTR_readName σ) G) Θ :=
  k_callV (np := 0) (av := []) (ret := none) hX (by decide) rfl rfl rfl (sTR_readName σ) ⟨⟨hdd, by decide⟩, tw_433, tw_2, by decide +kernel⟩ rfl tw_430 tw_432 ts_8 hst hd h
theorem dTR_readNumber_0 : decode prog_8_method_14_code 0 = .ok (.iconst 0, 1) := by decide +kernel
theorem dTR_readNumber_1 : decode prog_8_method_14_code 1 = .ok (.istore_n 1, 1) := by decide +kernel
theorem dTR_readNumber_2 : decode prog_8_method_14_code 2 = .ok (.aload_n 0, 1) := by decide +kernel
theorem dTR_readNumber_3 : decode prog_8_method_14_code 3 = .ok (.getfield 41, 3) := by decide +kernel
theorem dTR_readNumber_6 : decode prog_8_method_14_code 6 = .ok (.aload_n 0, 1) := by decide +kernel
theorem dTR_readNumber_7 : decode prog_8_method_14_code 7 = .ok (.getfield 38, 3) := by decide +kernel
theorem dTR_readNumber_10 : decode prog_8_method_14_code 10 = .ok (.if_icmp .ge 55, 3) := by decide +kernel
theorem dTR_readNumber_13 : decode prog_8_method_14_code 13 = .ok (.aload_n 0, 1) := by decide +kernel
theorem dTR_readNumber_14 : decode prog_8_method_14_code 14 = .ok (.getfield 9, 3) := by decide +kernel
theorem dTR_readNumber_17 : decode prog_8_method_14_code 17 = .ok (.aload_n 0, 1) := by decide +kernel
theorem dTR_readNumber_18 : decode prog_8_method_14_code 18 = .ok (.getfield 41, 3) := by decide +kernel
theorem dTR_readNumber_21 : decode prog_8_method_14_code 21 = .ok (.iaload, 1) := by decide +kernel
theorem dTR_readNumber_22 : decode prog_8_method_14_code 22 = .ok (.invokestatic 86, 3) := by decide +kernel
theorem dTR_readNumber_25 : decode prog_8_method_14_code 25 = .ok (.ifCond .eq 40, 3) := by decide +kernel
theorem dTR_readNumber_28 : decode prog_8_method_14_code 28 = .ok (.sipush 1000, 3) := by decide +kernel
theorem dTR_readNumber_31 : decode prog_8_method_14_code 31 = .ok (.iload_n 1, 1) := by decide +kernel
theorem dTR_readNumber_32 : decode prog_8_method_14_code 32 = .ok (.bipush 10, 2) := by decide +kernel
theorem dTR_readNumber_34 : decode prog_8_method_14_code 34 = .ok (.imul, 1) := by decide +kernel
theorem dTR_readNumber_35 : decode prog_8_method_14_code 35 = .ok (.aload_n 0, 1) := by decide +kernel
theorem dTR_readNumber_36 : decode prog_8_method_14_code 36 = .ok (.getfield 9, 3) := by decide +kernel
theorem dTR_readNumber_39 : decode prog_8_method_14_code 39 = .ok (.aload_n 0, 1) := by decide +kernel
theorem dTR_readNumber_40 : decode prog_8_method_14_code 40 = .ok (.getfield 41, 3) := by decide +kernel
theorem dTR_readNumber_43 : decode prog_8_method_14_code 43 = .ok (.iaload, 1) := by decide +kernel
theorem dTR_readNumber_44 : decode prog_8_method_14_code 44 = .ok (.iadd, 1) := by decide +kernel
theorem dTR_readNumber_45 : decode prog_8_method_14_code 45 = .ok (.bipush 48, 2) := by decide +kernel
theorem dTR_readNumber_47 : decode prog_8_method_14_code 47 = .ok (.isub, 1) := by decide +kernel
theorem dTR_readNumber_48 : decode prog_8_method_14_code 48 = .ok (.invokestatic 32, 3) := by decide +kernel
theorem dTR_readNumber_51 : decode prog_8_method_14_code 51 = .ok (.istore_n 1, 1) := by decide +kernel
theorem dTR_readNumber_52 : decode prog_8_method_14_code 52 = .ok (.aload_n 0, 1) := by decide +kernel
theorem dTR_readNumber_53 : decode prog_8_method_14_code 53 = .ok (.dup, 1) := by decide +kernel
theorem dTR_readNumber_54 : decode prog_8_method_14_code 54 = .ok (.getfield 41, 3) := by decide +kernel
theorem dTR_readNumber_57 : decode prog_8_method_14_code 57 = .ok (.iconst 1, 1) := by decide +kernel
theorem dTR_readNumber_58 : decode prog_8_method_14_code 58 = .ok (.iadd, 1) := by decide +kernel
theorem dTR_readNumber_59 : decode prog_8_method_14_code 59 = .ok (.putfield 41, 3) := by decide +kernel
theorem dTR_readNumber_62 : decode prog_8_method_14_code 62 = .ok (.goto (-60), 3) := by decide +kernel
theorem dTR_readNumber_65 : decode prog_8_method_14_code 65 = .ok (.iload_n 1, 1) := by decide +kernel
theorem dTR_readNumber_66 : decode prog_8_method_14_code 66 = .ok (.ireturn, 1) := by decide +kernel
set_option maxRecDepth 100000 in
set_option maxHeartbeats 4000000 in
theorem tTR_readNumber_J65 {X : KC} {q : Int × KM} (hX : kOk X 2 prog_8_method_14_code 2 "KeyPath$TextReader") (hR : kRet X (some .int) q) (x1 : Int) (σ : KM) {Θ : (Int × KM) → Prop} (hT : ∀ z, Θ (z) → z = q) : kJ X 65 [lq 1, li x1] [] σ (fTR_readNumber_J65 x1 σ) Θ := by
  refine k_iload_n hX dTR_readNumber_65 rfl ?_
  exact k_iret hX hR hT dTR_readNumber_66
set_option maxRecDepth 100000 in
set_option maxHeartbeats 4000000 in
theorem tTR_readNumber_B2 {X : KC} {q : Int × KM} (hX : kOk X 2 prog_8_method_14_code 2 "KeyPath$TextReader") (hR : kRet X (some .int) q) (x1 : Int) (σ : KM) {Θ : ((Int × KM) ⊕ (Int × KM)) → Prop} (hT : ∀ z, Θ (.inr (z)) → z = q) (hb0 : ∀ s : Int × KM, Θ (.inl s) → kW X 2 [lq 1, li s.1] [] s.2) : kJ X 2 [lq 1, li x1] [] σ (fTR_readNumber_B2 x1 σ) Θ := by
  refine k_aload_n hX dTR_readNumber_2 rfl ?_
  refine gf_126 hX dTR_readNumber_3 ?_
  refine k_aload_n hX dTR_readNumber_6 rfl ?_
  refine gf_124 hX dTR_readNumber_7 ?_
  refine k_icmp_ge (tgt := 65) hX dTR_readNumber_10 (by decide) ?_ ?_
  · refine k_exit ?_
    exact tTR_readNumber_J65 hX hR x1 σ hT
  · refine k_aload_n hX dTR_readNumber_13 rfl ?_
    refine gf_102 hX dTR_readNumber_14 ?_
    refine k_aload_n hX dTR_readNumber_17 rfl ?_
    refine gf_126 hX dTR_readNumber_18 ?_
    refine k_iald hX (by decide) rfl dTR_readNumber_21 rfl (fun y1 => ?_)
    refine cl_68 hX (by decide) (Nat.le_of_ble_eq_true rfl) dTR_readNumber_22 (fun r3 τ2 => ?_)
    refine k_if_eq (tgt := 65) hX dTR_readNumber_25 (by decide) ?_ ?_
    · refine k_exit ?_
      exact tTR_readNumber_J65 hX hR x1 τ2 hT
    · refine k_sipush hX dTR_readNumber_28 (by decide) ?_
      refine k_iload_n hX dTR_readNumber_31 rfl ?_
      refine k_bipush hX dTR_readNumber_32 (by decide) ?_
      refine k_imul hX dTR_readNumber_34 ?_
      refine k_aload_n hX dTR_readNumber_35 rfl ?_
      refine gf_102 hX dTR_readNumber_36 ?_
      refine k_aload_n hX dTR_readNumber_39 rfl ?_
      refine gf_126 hX dTR_readNumber_40 ?_
      refine k_iald hX (by decide) rfl dTR_readNumber_43 rfl (fun y4 => ?_)
      refine k_iadd hX dTR_readNumber_44 ?_
      refine k_bipush hX dTR_readNumber_45 (by decide) ?_
      refine k_isub hX dTR_readNumber_47 ?_
      refine k_mmin hX (by decide) (Nat.le_of_ble_eq_true rfl) tw_378 tw_379 tw_12 tw_380 dTR_readNumber_48 (fun y5 => ?_)
      refine k_istore_n (L' := [lq 1, li y5]) hX dTR_readNumber_51 rfl (by decide) rfl ?_
      refine k_aload_n hX dTR_readNumber_52 rfl ?_
      refine k_dupr hX dTR_readNumber_53 ?_
      refine gf_126 hX dTR_readNumber_54 ?_
      refine k_iconst hX dTR_readNumber_57 ?_
      refine k_iadd hX dTR_readNumber_58 ?_
      refine gp_118 hX dTR_readNumber_59 (fun τ6 => ?_)
      refine k_goto (tgt := 2) hX dTR_readNumber_62 (by decide) ?_
      exact k_back (hb0 (y5, τ6))
set_option maxRecDepth 100000 in
set_option maxHeartbeats 4000000 in
theorem tTR_readNumber_L2 {X : KC} {q : Int × KM} (hX : kOk X 2 prog_8_method_14_code 2 "KeyPath$TextReader") (hR : kRet X (some .int) q) (x1 : Int) (σ : KM) {Θ : (Int × KM) → Prop} (hT : ∀ z, Θ (z) → z = q) : kJ X 2 [lq 1, li x1] [] σ (fTR_readNumber_L2 x1 σ) Θ :=
  k_iter (f := fun s => fTR_readNumber_B2 s.1 s.2) (Lf := fun s => [lq 1, li s.1]) (mf := fun s => s.2) (Θ := Θ) (fun s => tTR_readNumber_B2 hX hR s.1 s.2 hT (fun _ h9 => h9)) kF (x1, σ)
set_option maxRecDepth 100000 in
set_option maxHeartbeats 4000000 in
theorem sTR_readNumber (σ : KM) : kSem 2 (⟨"KeyPath$TextReader", "readNumber", "()I"⟩ : MethodName) prog_8_method_14_code 2 (some .int) [kr 1] σ (fTR_readNumber σ) := by
  refine kSem.of (L0 := [lq 1, none]) (by decide) (Nat.le_of_ble_eq_true rfl) rfl (fun X q hX hR => ?_)
  have hT : ∀ z : Int × KM, (fun z => z = q) z → z = q := fun _ h => h
  refine k_iconst hX dTR_readNumber_0 ?_
  refine k_istore_n (L' := [lq 1, li 0]) hX dTR_readNumber_1 rfl (by decide) rfl ?_
  exact tTR_readNumber_L2 hX hR 0 σ hT
theorem cl_72 {X : KC} {d n : Nat} {cc : ByteArray} {pc : Nat} {L : List (Option KV)} {st : List KV} {σ : KM} {Z : Type} {Θ : Z → Prop} {G : Int → KM → Option Z} (hX : kOk X d cc n "KeyPath$TextReader") (hdd : 2 + 1 ≤ d) (hst : k_cat st ≤ 8) (hd : decode cc pc = .ok (.invokevirtual 96, 3)) (h : ∀ r τ, kJ X (pc + 3) L (ki r :: st) τ (G r τ) Θ) : kJ X pc L (kr 1 :: st) σ (kCall (fTR_readNumber σ) G) Θ :=
  k_callV (np := 0) (av := []) (ret := (some .int)) hX (by decide) rfl rfl rfl (sTR_readNumber σ) ⟨⟨hdd, by decide⟩, tw_403, tw_2, by decide +kernel⟩ rfl tw_400 tw_402 ts_4 hst hd h
theorem dNo_isBehindF_0 : decode prog_5_method_4_code 0 = .ok (.aload_n 0, 1) := by decide +kernel
theorem dNo_isBehindF_1 : decode prog_5_method_4_code 1 = .ok (.getfield 9, 3) := by decide +kernel
theorem dNo_isBehindF_4 : decode prog_5_method_4_code 4 = .ok (.iload_n 1, 1) := by decide +kernel
theorem dNo_isBehindF_5 : decode prog_5_method_4_code 5 = .ok (.iaload, 1) := by decide +kernel
theorem dNo_isBehindF_6 : decode prog_5_method_4_code 6 = .ok (.iload_n 2, 1) := by decide +kernel
theorem dNo_isBehindF_7 : decode prog_5_method_4_code 7 = .ok (.if_icmp .eq 19, 3) := by decide +kernel
theorem dNo_isBehindF_10 : decode prog_5_method_4_code 10 = .ok (.aload_n 0, 1) := by decide +kernel
theorem dNo_isBehindF_11 : decode prog_5_method_4_code 11 = .ok (.getfield 9, 3) := by decide +kernel
theorem dNo_isBehindF_14 : decode prog_5_method_4_code 14 = .ok (.iload_n 1, 1) := by decide +kernel
theorem dNo_isBehindF_15 : decode prog_5_method_4_code 15 = .ok (.iaload, 1) := by decide +kernel
theorem dNo_isBehindF_16 : decode prog_5_method_4_code 16 = .ok (.iload_n 2, 1) := by decide +kernel
theorem dNo_isBehindF_17 : decode prog_5_method_4_code 17 = .ok (.if_icmp .le 7, 3) := by decide +kernel
theorem dNo_isBehindF_20 : decode prog_5_method_4_code 20 = .ok (.iconst 1, 1) := by decide +kernel
theorem dNo_isBehindF_21 : decode prog_5_method_4_code 21 = .ok (.goto 4, 3) := by decide +kernel
theorem dNo_isBehindF_24 : decode prog_5_method_4_code 24 = .ok (.iconst 0, 1) := by decide +kernel
theorem dNo_isBehindF_25 : decode prog_5_method_4_code 25 = .ok (.ireturn, 1) := by decide +kernel
theorem dNo_isBehindF_26 : decode prog_5_method_4_code 26 = .ok (.aload_n 0, 1) := by decide +kernel
theorem dNo_isBehindF_27 : decode prog_5_method_4_code 27 = .ok (.getfield 18, 3) := by decide +kernel
theorem dNo_isBehindF_30 : decode prog_5_method_4_code 30 = .ok (.iload_n 1, 1) := by decide +kernel
theorem dNo_isBehindF_31 : decode prog_5_method_4_code 31 = .ok (.iaload, 1) := by decide +kernel
theorem dNo_isBehindF_32 : decode prog_5_method_4_code 32 = .ok (.iload 4, 2) := by decide +kernel
theorem dNo_isBehindF_34 : decode prog_5_method_4_code 34 = .ok (.if_icmp .eq 20, 3) := by decide +kernel
theorem dNo_isBehindF_37 : decode prog_5_method_4_code 37 = .ok (.aload_n 0, 1) := by decide +kernel
theorem dNo_isBehindF_38 : decode prog_5_method_4_code 38 = .ok (.getfield 18, 3) := by decide +kernel
theorem dNo_isBehindF_41 : decode prog_5_method_4_code 41 = .ok (.iload_n 1, 1) := by decide +kernel
theorem dNo_isBehindF_42 : decode prog_5_method_4_code 42 = .ok (.iaload, 1) := by decide +kernel
theorem dNo_isBehindF_43 : decode prog_5_method_4_code 43 = .ok (.iload 4, 2) := by decide +kernel
theorem dNo_isBehindF_45 : decode prog_5_method_4_code 45 = .ok (.if_icmp .le 7, 3) := by decide +kernel
theorem dNo_isBehindF_48 : decode prog_5_method_4_code 48 = .ok (.iconst 1, 1) := by decide +kernel
theorem dNo_isBehindF_49 : decode prog_5_method_4_code 49 = .ok (.goto 4, 3) := by decide +kernel
theorem dNo_isBehindF_52 : decode prog_5_method_4_code 52 = .ok (.iconst 0, 1) := by decide +kernel
theorem dNo_isBehindF_53 : decode prog_5_method_4_code 53 = .ok (.ireturn, 1) := by decide +kernel
theorem dNo_isBehindF_54 : decode prog_5_method_4_code 54 = .ok (.aload_n 0, 1) := by decide +kernel
theorem dNo_isBehindF_55 : decode prog_5_method_4_code 55 = .ok (.getfield 15, 3) := by decide +kernel
theorem dNo_isBehindF_58 : decode prog_5_method_4_code 58 = .ok (.iload_n 1, 1) := by decide +kernel
theorem dNo_isBehindF_59 : decode prog_5_method_4_code 59 = .ok (.iaload, 1) := by decide +kernel
theorem dNo_isBehindF_60 : decode prog_5_method_4_code 60 = .ok (.iload_n 3, 1) := by decide +kernel
theorem dNo_isBehindF_61 : decode prog_5_method_4_code 61 = .ok (.if_icmp .le 7, 3) := by decide +kernel
theorem dNo_isBehindF_64 : decode prog_5_method_4_code 64 = .ok (.iconst 1, 1) := by decide +kernel
theorem dNo_isBehindF_65 : decode prog_5_method_4_code 65 = .ok (.goto 4, 3) := by decide +kernel
theorem dNo_isBehindF_68 : decode prog_5_method_4_code 68 = .ok (.iconst 0, 1) := by decide +kernel
theorem dNo_isBehindF_69 : decode prog_5_method_4_code 69 = .ok (.ireturn, 1) := by decide +kernel
set_option maxRecDepth 100000 in
set_option maxHeartbeats 4000000 in
theorem tNo_isBehindF_J69 {X : KC} {q : Int × KM} (hX : kOk X 1 prog_5_method_4_code 5 "KeyPath$Notes") (hR : kRet X (some .boolean) q) (t0 : Int) (σ : KM) {Θ : (Int × KM) → Prop} (hT : ∀ z, Θ (z) → z = q) : kJ X 69 [lq 2, none, none, none, none] [ki t0] σ (fNo_isBehindF_J69 t0 σ) Θ := by
  exact k_zret hX hR hT dNo_isBehindF_69
set_option maxRecDepth 100000 in
set_option maxHeartbeats 4000000 in
theorem tNo_isBehindF_J53 {X : KC} {q : Int × KM} (hX : kOk X 1 prog_5_method_4_code 5 "KeyPath$Notes") (hR : kRet X (some .boolean) q) (t0 : Int) (σ : KM) {Θ : (Int × KM) → Prop} (hT : ∀ z, Θ (z) → z = q) : kJ X 53 [lq 2, none, none, none, none] [ki t0] σ (fNo_isBehindF_J53 t0 σ) Θ := by
  exact k_zret hX hR hT dNo_isBehindF_53
set_option maxRecDepth 100000 in
set_option maxHeartbeats 4000000 in
theorem tNo_isBehindF_J25 {X : KC} {q : Int × KM} (hX : kOk X 1 prog_5_method_4_code 5 "KeyPath$Notes") (hR : kRet X (some .boolean) q) (t0 : Int) (σ : KM) {Θ : (Int × KM) → Prop} (hT : ∀ z, Θ (z) → z = q) : kJ X 25 [lq 2, none, none, none, none] [ki t0] σ (fNo_isBehindF_J25 t0 σ) Θ := by
  exact k_zret hX hR hT dNo_isBehindF_25
set_option maxRecDepth 100000 in
set_option maxHeartbeats 4000000 in
theorem sNo_isBehindF (x1 x2 x3 x4 : Int) (σ : KM) : kSem 1 (⟨"KeyPath$Notes", "isBehind", "(IIII)Z"⟩ : MethodName) prog_5_method_4_code 5 (some .boolean) [kr 2, ki x1, ki x2, ki x3, ki x4] σ (fNo_isBehindF x1 x2 x3 x4 σ) := by
  refine kSem.of (L0 := [lq 2, li x1, li x2, li x3, li x4]) (by decide) (Nat.le_of_ble_eq_true rfl) rfl (fun X q hX hR => ?_)
  have hT : ∀ z : Int × KM, (fun z => z = q) z → z = q := fun _ h => h
  refine k_aload_n hX dNo_isBehindF_0 rfl ?_
  refine gf_133 hX dNo_isBehindF_1 ?_
  refine k_iload_n hX dNo_isBehindF_4 rfl ?_
  refine k_iald hX (by decide) rfl dNo_isBehindF_5 rfl (fun y1 => ?_)
  refine k_iload_n hX dNo_isBehindF_6 rfl ?_
  refine k_icmp_eq (tgt := 26) hX dNo_isBehindF_7 (by decide) ?_ ?_
  · refine k_aload_n hX dNo_isBehindF_26 rfl ?_
    refine gf_134 hX dNo_isBehindF_27 ?_
    refine k_iload_n hX dNo_isBehindF_30 rfl ?_
    refine k_iald hX (by decide) rfl dNo_isBehindF_31 rfl (fun y2 => ?_)
    refine k_iload hX dNo_isBehindF_32 rfl ?_
    refine k_icmp_eq (tgt := 54) hX dNo_isBehindF_34 (by decide) ?_ ?_
    · refine k_aload_n hX dNo_isBehindF_54 rfl ?_
      refine gf_135 hX dNo_isBehindF_55 ?_
      refine k_iload_n hX dNo_isBehindF_58 rfl ?_
      refine k_iald hX (by decide) rfl dNo_isBehindF_59 rfl (fun y3 => ?_)
      refine k_iload_n hX dNo_isBehindF_60 rfl ?_
      refine k_icmp_le (tgt := 68) hX dNo_isBehindF_61 (by decide) ?_ ?_
      · refine k_iconst hX dNo_isBehindF_68 ?_
        refine k_less [true, false, false, false, false] (L' := [lq 2, none, none, none, none]) rfl ?_
        exact tNo_isBehindF_J69 hX hR 0 σ hT
      · refine k_iconst hX dNo_isBehindF_64 ?_
        refine k_goto (tgt := 69) hX dNo_isBehindF_65 (by decide) ?_
        refine k_less [true, false, false, false, false] (L' := [lq 2, none, none, none, none]) rfl ?_
        exact tNo_isBehindF_J69 hX hR 1 σ hT
    · refine k_aload_n hX dNo_isBehindF_37 rfl ?_
      refine gf_134 hX dNo_isBehindF_38 ?_
      refine k_iload_n hX dNo_isBehindF_41 rfl ?_
      refine k_iald hX (by decide) rfl dNo_isBehindF_42 rfl (fun y4 => ?_)
      refine k_iload hX dNo_isBehindF_43 rfl ?_
      refine k_icmp_le (tgt := 52) hX dNo_isBehindF_45 (by decide) ?_ ?_
      · refine k_iconst hX dNo_isBehindF_52 ?_
        refine k_less [true, false, false, false, false] (L' := [lq 2, none, none, none, none]) rfl ?_
        exact tNo_isBehindF_J53 hX hR 0 σ hT
      · refine k_iconst hX dNo_isBehindF_48 ?_
        refine k_goto (tgt := 53) hX dNo_isBehindF_49 (by decide) ?_
        refine k_less [true, false, false, false, false] (L' := [lq 2, none, none, none, none]) rfl ?_
        exact tNo_isBehindF_J53 hX hR 1 σ hT
  · refine k_aload_n hX dNo_isBehindF_10 rfl ?_
    refine gf_133 hX dNo_isBehindF_11 ?_
    refine k_iload_n hX dNo_isBehindF_14 rfl ?_
    refine k_iald hX (by decide) rfl dNo_isBehindF_15 rfl (fun y5 => ?_)
    refine k_iload_n hX dNo_isBehindF_16 rfl ?_
    refine k_icmp_le (tgt := 24) hX dNo_isBehindF_17 (by decide) ?_ ?_
    · refine k_iconst hX dNo_isBehindF_24 ?_
      refine k_less [true, false, false, false, false] (L' := [lq 2, none, none, none, none]) rfl ?_
      exact tNo_isBehindF_J25 hX hR 0 σ hT
    · refine k_iconst hX dNo_isBehindF_20 ?_
      refine k_goto (tgt := 25) hX dNo_isBehindF_21 (by decide) ?_
      refine k_less [true, false, false, false, false] (L' := [lq 2, none, none, none, none]) rfl ?_
      exact tNo_isBehindF_J25 hX hR 1 σ hT
theorem cl_73 {X : KC} {d n : Nat} {cc : ByteArray} {pc : Nat} {L : List (Option KV)} {st : List KV} {σ : KM} {Z : Type} {Θ : Z → Prop} {G : Int → KM → Option Z} {x1 x2 x3 x4 : Int} (hX : kOk X d cc n "KeyPath$Notes") (hdd : 1 + 1 ≤ d) (hst : k_cat st ≤ 8) (hd : decode cc pc = .ok (.invokevirtual 25, 3)) (h : ∀ r τ, kJ X (pc + 3) L (ki r :: st) τ (G r τ) Θ) : kJ X pc L (ki x4 :: ki x3 :: ki x2 :: ki x1 :: kr 2 :: st) σ (kCall (fNo_isBehindF x1 x2 x3 x4 σ) G) Θ :=
  k_callV (np := 4) (av := [ki x1, ki x2, ki x3, ki x4]) (ret := (some .boolean)) hX (by decide) rfl rfl rfl (sNo_isBehindF _ _ _ _ σ) ⟨⟨hdd, by decide⟩, tw_418, tw_3, by decide +kernel⟩ rfl tw_415 tw_417 ts_6 hst hd h
theorem dNo_placeForF_0 : decode prog_5_method_3_code 0 = .ok (.aload_n 0, 1) := by decide +kernel
theorem dNo_placeForF_1 : decode prog_5_method_3_code 1 = .ok (.getfield 21, 3) := by decide +kernel
theorem dNo_placeForF_4 : decode prog_5_method_3_code 4 = .ok (.istore 4, 2) := by decide +kernel
theorem dNo_placeForF_6 : decode prog_5_method_3_code 6 = .ok (.iload 4, 2) := by decide +kernel
theorem dNo_placeForF_8 : decode prog_5_method_3_code 8 = .ok (.ifCond .le 23, 3) := by decide +kernel
theorem dNo_placeForF_11 : decode prog_5_method_3_code 11 = .ok (.aload_n 0, 1) := by decide +kernel
theorem dNo_placeForF_12 : decode prog_5_method_3_code 12 = .ok (.iload 4, 2) := by decide +kernel
theorem dNo_placeForF_14 : decode prog_5_method_3_code 14 = .ok (.iconst 1, 1) := by decide +kernel
theorem dNo_placeForF_15 : decode prog_5_method_3_code 15 = .ok (.isub, 1) := by decide +kernel
theorem dNo_placeForF_16 : decode prog_5_method_3_code 16 = .ok (.iload_n 1, 1) := by decide +kernel
theorem dNo_placeForF_17 : decode prog_5_method_3_code 17 = .ok (.iload_n 2, 1) := by decide +kernel
theorem dNo_placeForF_18 : decode prog_5_method_3_code 18 = .ok (.iload_n 3, 1) := by decide +kernel
theorem dNo_placeForF_19 : decode prog_5_method_3_code 19 = .ok (.invokevirtual 25, 3) := by decide +kernel
theorem dNo_placeForF_22 : decode prog_5_method_3_code 22 = .ok (.ifCond .eq 9, 3) := by decide +kernel
theorem dNo_placeForF_25 : decode prog_5_method_3_code 25 = .ok (.iinc 4 (-1), 3) := by decide +kernel
theorem dNo_placeForF_28 : decode prog_5_method_3_code 28 = .ok (.goto (-22), 3) := by decide +kernel
theorem dNo_placeForF_31 : decode prog_5_method_3_code 31 = .ok (.iload 4, 2) := by decide +kernel
theorem dNo_placeForF_33 : decode prog_5_method_3_code 33 = .ok (.ireturn, 1) := by decide +kernel
set_option maxRecDepth 100000 in
set_option maxHeartbeats 4000000 in
theorem tNo_placeForF_J31 {X : KC} {q : Int × KM} (hX : kOk X 2 prog_5_method_3_code 5 "KeyPath$Notes") (hR : kRet X (some .int) q) (x4 : Int) (σ : KM) {Θ : (Int × KM) → Prop} (hT : ∀ z, Θ (z) → z = q) : kJ X 31 [lq 2, none, none, none, li x4] [] σ (fNo_placeForF_J31 x4 σ) Θ := by
  refine k_iload hX dNo_placeForF_31 rfl ?_
  exact k_iret hX hR hT dNo_placeForF_33
set_option maxRecDepth 100000 in
set_option maxHeartbeats 4000000 in
theorem tNo_placeForF_B6 {X : KC} {q : Int × KM} (hX : kOk X 2 prog_5_method_3_code 5 "KeyPath$Notes") (hR : kRet X (some .int) q) (x1 x2 x3 x4 : Int) (σ : KM) {Θ : ((Int × KM) ⊕ (Int × KM)) → Prop} (hT : ∀ z, Θ (.inr (z)) → z = q) (hb0 : ∀ s : Int × KM, Θ (.inl s) → kW X 6 [lq 2, li x1, li x2, li x3, li s.1] [] s.2) : kJ X 6 [lq 2, li x1, li x2, li x3, li x4] [] σ (fNo_placeForF_B6 x1 x2 x3 x4 σ) Θ := by
  refine k_iload hX dNo_placeForF_6 rfl ?_
  refine k_if_le (tgt := 31) hX dNo_placeForF_8 (by decide) ?_ ?_
  · refine k_exit ?_
    refine k_less [true, false, false, false, true] (L' := [lq 2, none, none, none, li x4]) rfl ?_
    exact tNo_placeForF_J31 hX hR x4 σ hT
  · refine k_aload_n hX dNo_placeForF_11 rfl ?_
    refine k_iload hX dNo_placeForF_12 rfl ?_
    refine k_iconst hX dNo_placeForF_14 ?_
    refine k_isub hX dNo_placeForF_15 ?_
    refine k_iload_n hX dNo_placeForF_16 rfl ?_
    refine k_iload_n hX dNo_placeForF_17 rfl ?_
    refine k_iload_n hX dNo_placeForF_18 rfl ?_
    refine cl_73 hX (by decide) (Nat.le_of_ble_eq_true rfl) dNo_placeForF_19 (fun r2 τ1 => ?_)
    refine k_if_eq (tgt := 31) hX dNo_placeForF_22 (by decide) ?_ ?_
    · refine k_exit ?_
      refine k_less [true, false, false, false, true] (L' := [lq 2, none, none, none, li x4]) rfl ?_
      exact tNo_placeForF_J31 hX hR x4 τ1 hT
    · refine k_iincL (Lf := fun y3 => [lq 2, li x1, li x2, li x3, li y3]) hX dNo_placeForF_25 rfl (by decide) rfl (fun _ => rfl) (fun y3 => ?_)
      refine k_goto (tgt := 6) hX dNo_placeForF_28 (by decide) ?_
      exact k_back (hb0 (y3, τ1))
set_option maxRecDepth 100000 in
set_option maxHeartbeats 4000000 in
theorem tNo_placeForF_L6 {X : KC} {q : Int × KM} (hX : kOk X 2 prog_5_method_3_code 5 "KeyPath$Notes") (hR : kRet X (some .int) q) (x1 x2 x3 x4 : Int) (σ : KM) {Θ : (Int × KM) → Prop} (hT : ∀ z, Θ (z) → z = q) : kJ X 6 [lq 2, li x1, li x2, li x3, li x4] [] σ (fNo_placeForF_L6 x1 x2 x3 x4 σ) Θ :=
  k_iter (f := fun s => fNo_placeForF_B6 x1 x2 x3 s.1 s.2) (Lf := fun s => [lq 2, li x1, li x2, li x3, li s.1]) (mf := fun s => s.2) (Θ := Θ) (fun s => tNo_placeForF_B6 hX hR x1 x2 x3 s.1 s.2 hT (fun _ h9 => h9)) kF (x4, σ)
set_option maxRecDepth 100000 in
set_option maxHeartbeats 4000000 in
theorem sNo_placeForF (x1 x2 x3 : Int) (σ : KM) : kSem 2 (⟨"KeyPath$Notes", "placeFor", "(III)I"⟩ : MethodName) prog_5_method_3_code 5 (some .int) [kr 2, ki x1, ki x2, ki x3] σ (fNo_placeForF x1 x2 x3 σ) := by
  refine kSem.of (L0 := [lq 2, li x1, li x2, li x3, none]) (by decide) (Nat.le_of_ble_eq_true rfl) rfl (fun X q hX hR => ?_)
  have hT : ∀ z : Int × KM, (fun z => z = q) z → z = q := fun _ h => h
  refine k_aload_n hX dNo_placeForF_0 rfl ?_
  refine gf_132 hX dNo_placeForF_1 ?_
  refine k_istoreL (Lf := fun y1 => [lq 2, li x1, li x2, li x3, li y1]) hX dNo_placeForF_4 rfl (by decide) (fun _ => rfl) (fun y1 => ?_)
  exact tNo_placeForF_L6 hX hR x1 x2 x3 y1 σ hT
theorem cl_74 {X : KC} {d n : Nat} {cc : ByteArray} {pc : Nat} {L : List (Option KV)} {st : List KV} {σ : KM} {Z : Type} {Θ : Z → Prop} {G : Int → KM → Option Z} {x1 x2 x3 : Int} (hX : kOk X d cc n "KeyPath$TextReader") (hdd : 2 + 1 ≤ d) (hst : k_cat st ≤ 8) (hd : decode cc pc = .ok (.invokevirtual 103, 3)) (h : ∀ r τ, kJ X (pc + 3) L (ki r :: st) τ (G r τ) Θ) : kJ X pc L (ki x3 :: ki x2 :: ki x1 :: kr 2 :: st) σ (kCall (fNo_placeForF x1 x2 x3 σ) G) Θ :=
  k_callV (np := 3) (av := [ki x1, ki x2, ki x3]) (ret := (some .int)) hX (by decide) rfl rfl rfl (sNo_placeForF _ _ _ σ) ⟨⟨hdd, by decide⟩, tw_414, tw_3, by decide +kernel⟩ rfl tw_411 tw_412 tw_413 hst hd h
theorem dNo_insertF_0 : decode prog_5_method_5_code 0 = .ok (.aload_n 0, 1) := by decide +kernel
theorem dNo_insertF_1 : decode prog_5_method_5_code 1 = .ok (.getfield 21, 3) := by decide +kernel
theorem dNo_insertF_4 : decode prog_5_method_5_code 4 = .ok (.bipush 100, 2) := by decide +kernel
theorem dNo_insertF_6 : decode prog_5_method_5_code 6 = .ok (.if_icmp .ge 15, 3) := by decide +kernel
theorem dNo_insertF_9 : decode prog_5_method_5_code 9 = .ok (.iload_n 1, 1) := by decide +kernel
theorem dNo_insertF_10 : decode prog_5_method_5_code 10 = .ok (.ifCond .lt 11, 3) := by decide +kernel
theorem dNo_insertF_13 : decode prog_5_method_5_code 13 = .ok (.iload_n 1, 1) := by decide +kernel
theorem dNo_insertF_14 : decode prog_5_method_5_code 14 = .ok (.aload_n 0, 1) := by decide +kernel
theorem dNo_insertF_15 : decode prog_5_method_5_code 15 = .ok (.getfield 21, 3) := by decide +kernel
theorem dNo_insertF_18 : decode prog_5_method_5_code 18 = .ok (.if_icmp .le 4, 3) := by decide +kernel
theorem dNo_insertF_21 : decode prog_5_method_5_code 21 = .ok (.return_, 1) := by decide +kernel
theorem dNo_insertF_22 : decode prog_5_method_5_code 22 = .ok (.aload_n 0, 1) := by decide +kernel
theorem dNo_insertF_23 : decode prog_5_method_5_code 23 = .ok (.getfield 21, 3) := by decide +kernel
theorem dNo_insertF_26 : decode prog_5_method_5_code 26 = .ok (.iload_n 1, 1) := by decide +kernel
theorem dNo_insertF_27 : decode prog_5_method_5_code 27 = .ok (.isub, 1) := by decide +kernel
theorem dNo_insertF_28 : decode prog_5_method_5_code 28 = .ok (.istore 5, 2) := by decide +kernel
theorem dNo_insertF_30 : decode prog_5_method_5_code 30 = .ok (.aload_n 0, 1) := by decide +kernel
theorem dNo_insertF_31 : decode prog_5_method_5_code 31 = .ok (.getfield 9, 3) := by decide +kernel
theorem dNo_insertF_34 : decode prog_5_method_5_code 34 = .ok (.iload_n 1, 1) := by decide +kernel
theorem dNo_insertF_35 : decode prog_5_method_5_code 35 = .ok (.aload_n 0, 1) := by decide +kernel
theorem dNo_insertF_36 : decode prog_5_method_5_code 36 = .ok (.getfield 9, 3) := by decide +kernel
theorem dNo_insertF_39 : decode prog_5_method_5_code 39 = .ok (.iload_n 1, 1) := by decide +kernel
theorem dNo_insertF_40 : decode prog_5_method_5_code 40 = .ok (.iconst 1, 1) := by decide +kernel
theorem dNo_insertF_41 : decode prog_5_method_5_code 41 = .ok (.iadd, 1) := by decide +kernel
theorem dNo_insertF_42 : decode prog_5_method_5_code 42 = .ok (.iload 5, 2) := by decide +kernel
theorem dNo_insertF_44 : decode prog_5_method_5_code 44 = .ok (.invokestatic 29, 3) := by decide +kernel
theorem dNo_insertF_47 : decode prog_5_method_5_code 47 = .ok (.aload_n 0, 1) := by decide +kernel
theorem dNo_insertF_48 : decode prog_5_method_5_code 48 = .ok (.getfield 15, 3) := by decide +kernel
theorem dNo_insertF_51 : decode prog_5_method_5_code 51 = .ok (.iload_n 1, 1) := by decide +kernel
theorem dNo_insertF_52 : decode prog_5_method_5_code 52 = .ok (.aload_n 0, 1) := by decide +kernel
theorem dNo_insertF_53 : decode prog_5_method_5_code 53 = .ok (.getfield 15, 3) := by decide +kernel
theorem dNo_insertF_56 : decode prog_5_method_5_code 56 = .ok (.iload_n 1, 1) := by decide +kernel
theorem dNo_insertF_57 : decode prog_5_method_5_code 57 = .ok (.iconst 1, 1) := by decide +kernel
theorem dNo_insertF_58 : decode prog_5_method_5_code 58 = .ok (.iadd, 1) := by decide +kernel
theorem dNo_insertF_59 : decode prog_5_method_5_code 59 = .ok (.iload 5, 2) := by decide +kernel
theorem dNo_insertF_61 : decode prog_5_method_5_code 61 = .ok (.invokestatic 29, 3) := by decide +kernel
theorem dNo_insertF_64 : decode prog_5_method_5_code 64 = .ok (.aload_n 0, 1) := by decide +kernel
theorem dNo_insertF_65 : decode prog_5_method_5_code 65 = .ok (.getfield 18, 3) := by decide +kernel
theorem dNo_insertF_68 : decode prog_5_method_5_code 68 = .ok (.iload_n 1, 1) := by decide +kernel
theorem dNo_insertF_69 : decode prog_5_method_5_code 69 = .ok (.aload_n 0, 1) := by decide +kernel
theorem dNo_insertF_70 : decode prog_5_method_5_code 70 = .ok (.getfield 18, 3) := by decide +kernel
theorem dNo_insertF_73 : decode prog_5_method_5_code 73 = .ok (.iload_n 1, 1) := by decide +kernel
theorem dNo_insertF_74 : decode prog_5_method_5_code 74 = .ok (.iconst 1, 1) := by decide +kernel
theorem dNo_insertF_75 : decode prog_5_method_5_code 75 = .ok (.iadd, 1) := by decide +kernel
theorem dNo_insertF_76 : decode prog_5_method_5_code 76 = .ok (.iload 5, 2) := by decide +kernel
theorem dNo_insertF_78 : decode prog_5_method_5_code 78 = .ok (.invokestatic 29, 3) := by decide +kernel
theorem dNo_insertF_81 : decode prog_5_method_5_code 81 = .ok (.aload_n 0, 1) := by decide +kernel
theorem dNo_insertF_82 : decode prog_5_method_5_code 82 = .ok (.getfield 9, 3) := by decide +kernel
theorem dNo_insertF_85 : decode prog_5_method_5_code 85 = .ok (.iload_n 1, 1) := by decide +kernel
theorem dNo_insertF_86 : decode prog_5_method_5_code 86 = .ok (.iload_n 2, 1) := by decide +kernel
theorem dNo_insertF_87 : decode prog_5_method_5_code 87 = .ok (.iastore, 1) := by decide +kernel
theorem dNo_insertF_88 : decode prog_5_method_5_code 88 = .ok (.aload_n 0, 1) := by decide +kernel
theorem dNo_insertF_89 : decode prog_5_method_5_code 89 = .ok (.getfield 15, 3) := by decide +kernel
theorem dNo_insertF_92 : decode prog_5_method_5_code 92 = .ok (.iload_n 1, 1) := by decide +kernel
theorem dNo_insertF_93 : decode prog_5_method_5_code 93 = .ok (.iload_n 3, 1) := by decide +kernel
theorem dNo_insertF_94 : decode prog_5_method_5_code 94 = .ok (.iastore, 1) := by decide +kernel
theorem dNo_insertF_95 : decode prog_5_method_5_code 95 = .ok (.aload_n 0, 1) := by decide +kernel
theorem dNo_insertF_96 : decode prog_5_method_5_code 96 = .ok (.getfield 18, 3) := by decide +kernel
theorem dNo_insertF_99 : decode prog_5_method_5_code 99 = .ok (.iload_n 1, 1) := by decide +kernel
theorem dNo_insertF_100 : decode prog_5_method_5_code 100 = .ok (.iload 4, 2) := by decide +kernel
theorem dNo_insertF_102 : decode prog_5_method_5_code 102 = .ok (.iastore, 1) := by decide +kernel
theorem dNo_insertF_103 : decode prog_5_method_5_code 103 = .ok (.aload_n 0, 1) := by decide +kernel
theorem dNo_insertF_104 : decode prog_5_method_5_code 104 = .ok (.dup, 1) := by decide +kernel
theorem dNo_insertF_105 : decode prog_5_method_5_code 105 = .ok (.getfield 21, 3) := by decide +kernel
theorem dNo_insertF_108 : decode prog_5_method_5_code 108 = .ok (.iconst 1, 1) := by decide +kernel
theorem dNo_insertF_109 : decode prog_5_method_5_code 109 = .ok (.iadd, 1) := by decide +kernel
theorem dNo_insertF_110 : decode prog_5_method_5_code 110 = .ok (.putfield 21, 3) := by decide +kernel
theorem dNo_insertF_113 : decode prog_5_method_5_code 113 = .ok (.return_, 1) := by decide +kernel
set_option maxRecDepth 100000 in
set_option maxHeartbeats 4000000 in
theorem tNo_insertF_J21 {X : KC} {q : Int × KM} (hX : kOk X 1 prog_5_method_5_code 6 "KeyPath$Notes") (hR : kRet X none q) (σ : KM) {Θ : (Int × KM) → Prop} (hT : ∀ z, Θ (z) → z = q) : kJ X 21 [lq 2, none, none, none, none, none] [] σ (fNo_insertF_J21 σ) Θ := by
  exact k_vret hX hR hT dNo_insertF_21
set_option maxRecDepth 100000 in
set_option maxHeartbeats 4000000 in
theorem sNo_insertF (x1 x2 x3 x4 : Int) (σ : KM) : kSem 1 (⟨"KeyPath$Notes", "insert", "(IIII)V"⟩ : MethodName) prog_5_method_5_code 6 none [kr 2, ki x1, ki x2, ki x3, ki x4] σ (fNo_insertF x1 x2 x3 x4 σ) := by
  refine kSem.of (L0 := [lq 2, li x1, li x2, li x3, li x4, none]) (by decide) (Nat.le_of_ble_eq_true rfl) rfl (fun X q hX hR => ?_)
  have hT : ∀ z : Int × KM, (fun z => z = q) z → z = q := fun _ h => h
  refine k_aload_n hX dNo_insertF_0 rfl ?_
  refine gf_132 hX dNo_insertF_1 ?_
  refine k_bipush hX dNo_insertF_4 (by decide) ?_
  refine k_icmp_ge (tgt := 21) hX dNo_insertF_6 (by decide) ?_ ?_
  · refine k_less [true, false, false, false, false, true] (L' := [lq 2, none, none, none, none, none]) rfl ?_
    exact tNo_insertF_J21 hX hR σ hT
  · refine k_iload_n hX dNo_insertF_9 rfl ?_
    refine k_if_lt (tgt := 21) hX dNo_insertF_10 (by decide) ?_ ?_
    · refine k_less [true, false, false, false, false, true] (L' := [lq 2, none, none, none, none, none]) rfl ?_
      exact tNo_insertF_J21 hX hR σ hT
    · refine k_iload_n hX dNo_insertF_13 rfl ?_
      refine k_aload_n hX dNo_insertF_14 rfl ?_
      refine gf_132 hX dNo_insertF_15 ?_
      refine k_icmp_le (tgt := 22) hX dNo_insertF_18 (by decide) ?_ ?_
      · refine k_aload_n hX dNo_insertF_22 rfl ?_
        refine gf_132 hX dNo_insertF_23 ?_
        refine k_iload_n hX dNo_insertF_26 rfl ?_
        refine k_isub hX dNo_insertF_27 ?_
        refine k_istoreL (Lf := fun y1 => [lq 2, li x1, li x2, li x3, li x4, li y1]) hX dNo_insertF_28 rfl (by decide) (fun _ => rfl) (fun y1 => ?_)
        refine k_aload_n hX dNo_insertF_30 rfl ?_
        refine gf_133 hX dNo_insertF_31 ?_
        refine k_iload_n hX dNo_insertF_34 rfl ?_
        refine k_aload_n hX dNo_insertF_35 rfl ?_
        refine gf_133 hX dNo_insertF_36 ?_
        refine k_iload_n hX dNo_insertF_39 rfl ?_
        refine k_iconst hX dNo_insertF_40 ?_
        refine k_iadd hX dNo_insertF_41 ?_
        refine k_iload hX dNo_insertF_42 rfl ?_
        refine k_copy hX (by decide) (Nat.le_of_ble_eq_true rfl) (by decide) (by decide) rfl rfl tw_423 tw_425 tw_424 tw_13 dNo_insertF_44 rfl rfl (fun τ2 => ?_)
        refine k_aload_n hX dNo_insertF_47 rfl ?_
        refine gf_135 hX dNo_insertF_48 ?_
        refine k_iload_n hX dNo_insertF_51 rfl ?_
        refine k_aload_n hX dNo_insertF_52 rfl ?_
        refine gf_135 hX dNo_insertF_53 ?_
        refine k_iload_n hX dNo_insertF_56 rfl ?_
        refine k_iconst hX dNo_insertF_57 ?_
        refine k_iadd hX dNo_insertF_58 ?_
        refine k_iload hX dNo_insertF_59 rfl ?_
        refine k_copy hX (by decide) (Nat.le_of_ble_eq_true rfl) (by decide) (by decide) rfl rfl tw_423 tw_425 tw_424 tw_13 dNo_insertF_61 rfl rfl (fun τ3 => ?_)
        refine k_aload_n hX dNo_insertF_64 rfl ?_
        refine gf_134 hX dNo_insertF_65 ?_
        refine k_iload_n hX dNo_insertF_68 rfl ?_
        refine k_aload_n hX dNo_insertF_69 rfl ?_
        refine gf_134 hX dNo_insertF_70 ?_
        refine k_iload_n hX dNo_insertF_73 rfl ?_
        refine k_iconst hX dNo_insertF_74 ?_
        refine k_iadd hX dNo_insertF_75 ?_
        refine k_iload hX dNo_insertF_76 rfl ?_
        refine k_copy hX (by decide) (Nat.le_of_ble_eq_true rfl) (by decide) (by decide) rfl rfl tw_423 tw_425 tw_424 tw_13 dNo_insertF_78 rfl rfl (fun τ4 => ?_)
        refine k_aload_n hX dNo_insertF_81 rfl ?_
        refine gf_133 hX dNo_insertF_82 ?_
        refine k_iload_n hX dNo_insertF_85 rfl ?_
        refine k_iload_n hX dNo_insertF_86 rfl ?_
        refine k_iast hX (by decide) rfl dNo_insertF_87 rfl (fun τ5 => ?_)
        refine k_aload_n hX dNo_insertF_88 rfl ?_
        refine gf_135 hX dNo_insertF_89 ?_
        refine k_iload_n hX dNo_insertF_92 rfl ?_
        refine k_iload_n hX dNo_insertF_93 rfl ?_
        refine k_iast hX (by decide) rfl dNo_insertF_94 rfl (fun τ6 => ?_)
        refine k_aload_n hX dNo_insertF_95 rfl ?_
        refine gf_134 hX dNo_insertF_96 ?_
        refine k_iload_n hX dNo_insertF_99 rfl ?_
        refine k_iload hX dNo_insertF_100 rfl ?_
        refine k_iast hX (by decide) rfl dNo_insertF_102 rfl (fun τ7 => ?_)
        refine k_aload_n hX dNo_insertF_103 rfl ?_
        refine k_dupr hX dNo_insertF_104 ?_
        refine gf_132 hX dNo_insertF_105 ?_
        refine k_iconst hX dNo_insertF_108 ?_
        refine k_iadd hX dNo_insertF_109 ?_
        refine gp_136 hX dNo_insertF_110 (fun τ8 => ?_)
        exact k_vret hX hR hT dNo_insertF_113
      · refine k_less [true, false, false, false, false, true] (L' := [lq 2, none, none, none, none, none]) rfl ?_
        exact tNo_insertF_J21 hX hR σ hT
theorem cl_75 {X : KC} {d n : Nat} {cc : ByteArray} {pc : Nat} {L : List (Option KV)} {st : List KV} {σ : KM} {Z : Type} {Θ : Z → Prop} {G : Int → KM → Option Z} {x1 x2 x3 x4 : Int} (hX : kOk X d cc n "KeyPath$TextReader") (hdd : 1 + 1 ≤ d) (hst : k_cat st ≤ 8) (hd : decode cc pc = .ok (.invokevirtual 107, 3)) (h : ∀ r τ, kJ X (pc + 3) L (st) τ (G r τ) Θ) : kJ X pc L (ki x4 :: ki x3 :: ki x2 :: ki x1 :: kr 2 :: st) σ (kCall (fNo_insertF x1 x2 x3 x4 σ) G) Θ :=
  k_callV (np := 4) (av := [ki x1, ki x2, ki x3, ki x4]) (ret := none) hX (by decide) rfl rfl rfl (sNo_insertF _ _ _ _ σ) ⟨⟨hdd, by decide⟩, tw_422, tw_3, by decide +kernel⟩ rfl tw_419 tw_420 tw_421 hst hd h
theorem dTR_soundNamed_0 : decode prog_8_method_15_code 0 = .ok (.iconst 0, 1) := by decide +kernel
theorem dTR_soundNamed_1 : decode prog_8_method_15_code 1 = .ok (.istore_n 2, 1) := by decide +kernel
theorem dTR_soundNamed_2 : decode prog_8_method_15_code 2 = .ok (.iload_n 2, 1) := by decide +kernel
theorem dTR_soundNamed_3 : decode prog_8_method_15_code 3 = .ok (.aload_n 0, 1) := by decide +kernel
theorem dTR_soundNamed_4 : decode prog_8_method_15_code 4 = .ok (.getfield 60, 3) := by decide +kernel
theorem dTR_soundNamed_7 : decode prog_8_method_15_code 7 = .ok (.if_icmp .ge 45, 3) := by decide +kernel
theorem dTR_soundNamed_10 : decode prog_8_method_15_code 10 = .ok (.aload_n 0, 1) := by decide +kernel
theorem dTR_soundNamed_11 : decode prog_8_method_15_code 11 = .ok (.getfield 18, 3) := by decide +kernel
theorem dTR_soundNamed_14 : decode prog_8_method_15_code 14 = .ok (.aload_n 0, 1) := by decide +kernel
theorem dTR_soundNamed_15 : decode prog_8_method_15_code 15 = .ok (.getfield 18, 3) := by decide +kernel
theorem dTR_soundNamed_18 : decode prog_8_method_15_code 18 = .ok (.aload_n 0, 1) := by decide +kernel
theorem dTR_soundNamed_19 : decode prog_8_method_15_code 19 = .ok (.getfield 44, 3) := by decide +kernel
theorem dTR_soundNamed_22 : decode prog_8_method_15_code 22 = .ok (.iload_n 1, 1) := by decide +kernel
theorem dTR_soundNamed_23 : decode prog_8_method_15_code 23 = .ok (.aload_n 0, 1) := by decide +kernel
theorem dTR_soundNamed_24 : decode prog_8_method_15_code 24 = .ok (.getfield 26, 3) := by decide +kernel
theorem dTR_soundNamed_27 : decode prog_8_method_15_code 27 = .ok (.iload_n 2, 1) := by decide +kernel
theorem dTR_soundNamed_28 : decode prog_8_method_15_code 28 = .ok (.iaload, 1) := by decide +kernel
theorem dTR_soundNamed_29 : decode prog_8_method_15_code 29 = .ok (.invokevirtual 103, 3) := by decide +kernel
theorem dTR_soundNamed_32 : decode prog_8_method_15_code 32 = .ok (.aload_n 0, 1) := by decide +kernel
theorem dTR_soundNamed_33 : decode prog_8_method_15_code 33 = .ok (.getfield 44, 3) := by decide +kernel
theorem dTR_soundNamed_36 : decode prog_8_method_15_code 36 = .ok (.iload_n 1, 1) := by decide +kernel
theorem dTR_soundNamed_37 : decode prog_8_method_15_code 37 = .ok (.aload_n 0, 1) := by decide +kernel
theorem dTR_soundNamed_38 : decode prog_8_method_15_code 38 = .ok (.getfield 26, 3) := by decide +kernel
theorem dTR_soundNamed_41 : decode prog_8_method_15_code 41 = .ok (.iload_n 2, 1) := by decide +kernel
theorem dTR_soundNamed_42 : decode prog_8_method_15_code 42 = .ok (.iaload, 1) := by decide +kernel
theorem dTR_soundNamed_43 : decode prog_8_method_15_code 43 = .ok (.invokevirtual 107, 3) := by decide +kernel
theorem dTR_soundNamed_46 : decode prog_8_method_15_code 46 = .ok (.iinc 2 1, 3) := by decide +kernel
theorem dTR_soundNamed_49 : decode prog_8_method_15_code 49 = .ok (.goto (-47), 3) := by decide +kernel
theorem dTR_soundNamed_52 : decode prog_8_method_15_code 52 = .ok (.return_, 1) := by decide +kernel
set_option maxRecDepth 100000 in
set_option maxHeartbeats 4000000 in
theorem tTR_soundNamed_J52 {X : KC} {q : Int × KM} (hX : kOk X 3 prog_8_method_15_code 3 "KeyPath$TextReader") (hR : kRet X none q) (σ : KM) {Θ : (Int × KM) → Prop} (hT : ∀ z, Θ (z) → z = q) : kJ X 52 [lq 1, none, none] [] σ (fTR_soundNamed_J52 σ) Θ := by
  exact k_vret hX hR hT dTR_soundNamed_52
set_option maxRecDepth 100000 in
set_option maxHeartbeats 4000000 in
theorem tTR_soundNamed_B2 {X : KC} {q : Int × KM} (hX : kOk X 3 prog_8_method_15_code 3 "KeyPath$TextReader") (hR : kRet X none q) (x1 x2 : Int) (σ : KM) {Θ : ((Int × KM) ⊕ (Int × KM)) → Prop} (hT : ∀ z, Θ (.inr (z)) → z = q) (hb0 : ∀ s : Int × KM, Θ (.inl s) → kW X 2 [lq 1, li x1, li s.1] [] s.2) : kJ X 2 [lq 1, li x1, li x2] [] σ (fTR_soundNamed_B2 x1 x2 σ) Θ := by
  refine k_iload_n hX dTR_soundNamed_2 rfl ?_
  refine k_aload_n hX dTR_soundNamed_3 rfl ?_
  refine gf_128 hX dTR_soundNamed_4 ?_
  refine k_icmp_ge (tgt := 52) hX dTR_soundNamed_7 (by decide) ?_ ?_
  · refine k_exit ?_
    refine k_less [true, false, false] (L' := [lq 1, none, none]) rfl ?_
    exact tTR_soundNamed_J52 hX hR σ hT
  · refine k_aload_n hX dTR_soundNamed_10 rfl ?_
    refine gf_122 hX dTR_soundNamed_11 ?_
    refine k_aload_n hX dTR_soundNamed_14 rfl ?_
    refine gf_122 hX dTR_soundNamed_15 ?_
    refine k_aload_n hX dTR_soundNamed_18 rfl ?_
    refine gf_131 hX dTR_soundNamed_19 ?_
    refine k_iload_n hX dTR_soundNamed_22 rfl ?_
    refine k_aload_n hX dTR_soundNamed_23 rfl ?_
    refine gf_130 hX dTR_soundNamed_24 ?_
    refine k_iload_n hX dTR_soundNamed_27 rfl ?_
    refine k_iald hX (by decide) rfl dTR_soundNamed_28 rfl (fun y1 => ?_)
    refine cl_74 hX (by decide) (Nat.le_of_ble_eq_true rfl) dTR_soundNamed_29 (fun r3 τ2 => ?_)
    refine k_aload_n hX dTR_soundNamed_32 rfl ?_
    refine gf_131 hX dTR_soundNamed_33 ?_
    refine k_iload_n hX dTR_soundNamed_36 rfl ?_
    refine k_aload_n hX dTR_soundNamed_37 rfl ?_
    refine gf_130 hX dTR_soundNamed_38 ?_
    refine k_iload_n hX dTR_soundNamed_41 rfl ?_
    refine k_iald hX (by decide) rfl dTR_soundNamed_42 rfl (fun y4 => ?_)
    refine cl_75 hX (by decide) (Nat.le_of_ble_eq_true rfl) dTR_soundNamed_43 (fun _ τ5 => ?_)
    refine k_iincL (Lf := fun y6 => [lq 1, li x1, li y6]) hX dTR_soundNamed_46 rfl (by decide) rfl (fun _ => rfl) (fun y6 => ?_)
    refine k_goto (tgt := 2) hX dTR_soundNamed_49 (by decide) ?_
    exact k_back (hb0 (y6, τ5))
set_option maxRecDepth 100000 in
set_option maxHeartbeats 4000000 in
theorem tTR_soundNamed_L2 {X : KC} {q : Int × KM} (hX : kOk X 3 prog_8_method_15_code 3 "KeyPath$TextReader") (hR : kRet X none q) (x1 x2 : Int) (σ : KM) {Θ : (Int × KM) → Prop} (hT : ∀ z, Θ (z) → z = q) : kJ X 2 [lq 1, li x1, li x2] [] σ (fTR_soundNamed_L2 x1 x2 σ) Θ :=
  k_iter (f := fun s => fTR_soundNamed_B2 x1 s.1 s.2) (Lf := fun s => [lq 1, li x1, li s.1]) (mf := fun s => s.2) (Θ := Θ) (fun s => tTR_soundNamed_B2 hX hR x1 s.1 s.2 hT (fun _ h9 => h9)) kF (x2, σ)
set_option maxRecDepth 100000 in
set_option maxHeartbeats 4000000 in
theorem sTR_soundNamed (x1 : Int) (σ : KM) : kSem 3 (⟨"KeyPath$TextReader", "soundNamed", "(I)V"⟩ : MethodName) prog_8_method_15_code 3 none [kr 1, ki x1] σ (fTR_soundNamed x1 σ) := by
  refine kSem.of (L0 := [lq 1, li x1, none]) (by decide) (Nat.le_of_ble_eq_true rfl) rfl (fun X q hX hR => ?_)
  have hT : ∀ z : Int × KM, (fun z => z = q) z → z = q := fun _ h => h
  refine k_iconst hX dTR_soundNamed_0 ?_
  refine k_istore_n (L' := [lq 1, li x1, li 0]) hX dTR_soundNamed_1 rfl (by decide) rfl ?_
  exact tTR_soundNamed_L2 hX hR x1 0 σ hT
theorem cl_76 {X : KC} {d n : Nat} {cc : ByteArray} {pc : Nat} {L : List (Option KV)} {st : List KV} {σ : KM} {Z : Type} {Θ : Z → Prop} {G : Int → KM → Option Z} {x1 : Int} (hX : kOk X d cc n "KeyPath$TextReader") (hdd : 3 + 1 ≤ d) (hst : k_cat st ≤ 8) (hd : decode cc pc = .ok (.invokevirtual 99, 3)) (h : ∀ r τ, kJ X (pc + 3) L (st) τ (G r τ) Θ) : kJ X pc L (ki x1 :: kr 1 :: st) σ (kCall (fTR_soundNamed x1 σ) G) Θ :=
  k_callV (np := 1) (av := [ki x1]) (ret := none) hX (by decide) rfl rfl rfl (sTR_soundNamed _ σ) ⟨⟨hdd, by decide⟩, tw_410, tw_2, by decide +kernel⟩ rfl tw_407 tw_409 ts_5 hst hd h
theorem dTR_readLength_0 : decode prog_8_method_13_code 0 = .ok (.aload_n 0, 1) := by decide +kernel
theorem dTR_readLength_1 : decode prog_8_method_13_code 1 = .ok (.getfield 47, 3) := by decide +kernel
theorem dTR_readLength_4 : decode prog_8_method_13_code 4 = .ok (.ifCond .eq 4, 3) := by decide +kernel
theorem dTR_readLength_7 : decode prog_8_method_13_code 7 = .ok (.return_, 1) := by decide +kernel
theorem dTR_readLength_8 : decode prog_8_method_13_code 8 = .ok (.aload_n 0, 1) := by decide +kernel
theorem dTR_readLength_9 : decode prog_8_method_13_code 9 = .ok (.invokevirtual 53, 3) := by decide +kernel
theorem dTR_readLength_12 : decode prog_8_method_13_code 12 = .ok (.bipush 58, 2) := by decide +kernel
theorem dTR_readLength_14 : decode prog_8_method_13_code 14 = .ok (.if_icmp .eq 13, 3) := by decide +kernel
theorem dTR_readLength_17 : decode prog_8_method_13_code 17 = .ok (.aload_n 0, 1) := by decide +kernel
theorem dTR_readLength_18 : decode prog_8_method_13_code 18 = .ok (.iconst 1, 1) := by decide +kernel
theorem dTR_readLength_19 : decode prog_8_method_13_code 19 = .ok (.aload_n 0, 1) := by decide +kernel
theorem dTR_readLength_20 : decode prog_8_method_13_code 20 = .ok (.getfield 41, 3) := by decide +kernel
theorem dTR_readLength_23 : decode prog_8_method_13_code 23 = .ok (.invokevirtual 76, 3) := by decide +kernel
theorem dTR_readLength_26 : decode prog_8_method_13_code 26 = .ok (.return_, 1) := by decide +kernel
theorem dTR_readLength_27 : decode prog_8_method_13_code 27 = .ok (.aload_n 0, 1) := by decide +kernel
theorem dTR_readLength_28 : decode prog_8_method_13_code 28 = .ok (.dup, 1) := by decide +kernel
theorem dTR_readLength_29 : decode prog_8_method_13_code 29 = .ok (.getfield 41, 3) := by decide +kernel
theorem dTR_readLength_32 : decode prog_8_method_13_code 32 = .ok (.iconst 1, 1) := by decide +kernel
theorem dTR_readLength_33 : decode prog_8_method_13_code 33 = .ok (.iadd, 1) := by decide +kernel
theorem dTR_readLength_34 : decode prog_8_method_13_code 34 = .ok (.putfield 41, 3) := by decide +kernel
theorem dTR_readLength_37 : decode prog_8_method_13_code 37 = .ok (.aload_n 0, 1) := by decide +kernel
theorem dTR_readLength_38 : decode prog_8_method_13_code 38 = .ok (.invokevirtual 53, 3) := by decide +kernel
theorem dTR_readLength_41 : decode prog_8_method_13_code 41 = .ok (.invokestatic 86, 3) := by decide +kernel
theorem dTR_readLength_44 : decode prog_8_method_13_code 44 = .ok (.ifCond .ne 13, 3) := by decide +kernel
theorem dTR_readLength_47 : decode prog_8_method_13_code 47 = .ok (.aload_n 0, 1) := by decide +kernel
theorem dTR_readLength_48 : decode prog_8_method_13_code 48 = .ok (.iconst 1, 1) := by decide +kernel
theorem dTR_readLength_49 : decode prog_8_method_13_code 49 = .ok (.aload_n 0, 1) := by decide +kernel
theorem dTR_readLength_50 : decode prog_8_method_13_code 50 = .ok (.getfield 41, 3) := by decide +kernel
theorem dTR_readLength_53 : decode prog_8_method_13_code 53 = .ok (.invokevirtual 76, 3) := by decide +kernel
theorem dTR_readLength_56 : decode prog_8_method_13_code 56 = .ok (.return_, 1) := by decide +kernel
theorem dTR_readLength_57 : decode prog_8_method_13_code 57 = .ok (.aload_n 0, 1) := by decide +kernel
theorem dTR_readLength_58 : decode prog_8_method_13_code 58 = .ok (.getfield 41, 3) := by decide +kernel
theorem dTR_readLength_61 : decode prog_8_method_13_code 61 = .ok (.istore_n 1, 1) := by decide +kernel
theorem dTR_readLength_62 : decode prog_8_method_13_code 62 = .ok (.aload_n 0, 1) := by decide +kernel
theorem dTR_readLength_63 : decode prog_8_method_13_code 63 = .ok (.invokevirtual 96, 3) := by decide +kernel
theorem dTR_readLength_66 : decode prog_8_method_13_code 66 = .ok (.istore_n 2, 1) := by decide +kernel
theorem dTR_readLength_67 : decode prog_8_method_13_code 67 = .ok (.aload_n 0, 1) := by decide +kernel
theorem dTR_readLength_68 : decode prog_8_method_13_code 68 = .ok (.getfield 41, 3) := by decide +kernel
theorem dTR_readLength_71 : decode prog_8_method_13_code 71 = .ok (.iload_n 1, 1) := by decide +kernel
theorem dTR_readLength_72 : decode prog_8_method_13_code 72 = .ok (.isub, 1) := by decide +kernel
theorem dTR_readLength_73 : decode prog_8_method_13_code 73 = .ok (.iconst 2, 1) := by decide +kernel
theorem dTR_readLength_74 : decode prog_8_method_13_code 74 = .ok (.if_icmp .gt 13, 3) := by decide +kernel
theorem dTR_readLength_77 : decode prog_8_method_13_code 77 = .ok (.iconst 1, 1) := by decide +kernel
theorem dTR_readLength_78 : decode prog_8_method_13_code 78 = .ok (.bipush 64, 2) := by decide +kernel
theorem dTR_readLength_80 : decode prog_8_method_13_code 80 = .ok (.iload_n 2, 1) := by decide +kernel
theorem dTR_readLength_81 : decode prog_8_method_13_code 81 = .ok (.invokestatic 89, 3) := by decide +kernel
theorem dTR_readLength_84 : decode prog_8_method_13_code 84 = .ok (.ifCond .eq 12, 3) := by decide +kernel
theorem dTR_readLength_87 : decode prog_8_method_13_code 87 = .ok (.aload_n 0, 1) := by decide +kernel
theorem dTR_readLength_88 : decode prog_8_method_13_code 88 = .ok (.iconst 2, 1) := by decide +kernel
theorem dTR_readLength_89 : decode prog_8_method_13_code 89 = .ok (.iload_n 1, 1) := by decide +kernel
theorem dTR_readLength_90 : decode prog_8_method_13_code 90 = .ok (.invokevirtual 76, 3) := by decide +kernel
theorem dTR_readLength_93 : decode prog_8_method_13_code 93 = .ok (.goto 39, 3) := by decide +kernel
theorem dTR_readLength_96 : decode prog_8_method_13_code 96 = .ok (.aload_n 0, 1) := by decide +kernel
theorem dTR_readLength_97 : decode prog_8_method_13_code 97 = .ok (.getfield 44, 3) := by decide +kernel
theorem dTR_readLength_100 : decode prog_8_method_13_code 100 = .ok (.iload_n 2, 1) := by decide +kernel
theorem dTR_readLength_101 : decode prog_8_method_13_code 101 = .ok (.iadd, 1) := by decide +kernel
theorem dTR_readLength_102 : decode prog_8_method_13_code 102 = .ok (.sipush 512, 3) := by decide +kernel
theorem dTR_readLength_105 : decode prog_8_method_13_code 105 = .ok (.if_icmp .le 12, 3) := by decide +kernel
theorem dTR_readLength_108 : decode prog_8_method_13_code 108 = .ok (.aload_n 0, 1) := by decide +kernel
theorem dTR_readLength_109 : decode prog_8_method_13_code 109 = .ok (.iconst 4, 1) := by decide +kernel
theorem dTR_readLength_110 : decode prog_8_method_13_code 110 = .ok (.iload_n 1, 1) := by decide +kernel
theorem dTR_readLength_111 : decode prog_8_method_13_code 111 = .ok (.invokevirtual 76, 3) := by decide +kernel
theorem dTR_readLength_114 : decode prog_8_method_13_code 114 = .ok (.goto 18, 3) := by decide +kernel
theorem dTR_readLength_117 : decode prog_8_method_13_code 117 = .ok (.aload_n 0, 1) := by decide +kernel
theorem dTR_readLength_118 : decode prog_8_method_13_code 118 = .ok (.iload_n 2, 1) := by decide +kernel
theorem dTR_readLength_119 : decode prog_8_method_13_code 119 = .ok (.invokevirtual 99, 3) := by decide +kernel
theorem dTR_readLength_122 : decode prog_8_method_13_code 122 = .ok (.aload_n 0, 1) := by decide +kernel
theorem dTR_readLength_123 : decode prog_8_method_13_code 123 = .ok (.dup, 1) := by decide +kernel
theorem dTR_readLength_124 : decode prog_8_method_13_code 124 = .ok (.getfield 44, 3) := by decide +kernel
theorem dTR_readLength_127 : decode prog_8_method_13_code 127 = .ok (.iload_n 2, 1) := by decide +kernel
theorem dTR_readLength_128 : decode prog_8_method_13_code 128 = .ok (.iadd, 1) := by decide +kernel
theorem dTR_readLength_129 : decode prog_8_method_13_code 129 = .ok (.putfield 44, 3) := by decide +kernel
theorem dTR_readLength_132 : decode prog_8_method_13_code 132 = .ok (.return_, 1) := by decide +kernel
set_option maxRecDepth 100000 in
set_option maxHeartbeats 4000000 in
theorem tTR_readLength_J132 {X : KC} {q : Int × KM} (hX : kOk X 4 prog_8_method_13_code 3 "KeyPath$TextReader") (hR : kRet X none q) (σ : KM) {Θ : (Int × KM) → Prop} (hT : ∀ z, Θ (z) → z = q) : kJ X 132 [lq 1, none, none] [] σ (fTR_readLength_J132 σ) Θ := by
  exact k_vret hX hR hT dTR_readLength_132
set_option maxRecDepth 100000 in
set_option maxHeartbeats 4000000 in
theorem tTR_readLength_J87 {X : KC} {q : Int × KM} (hX : kOk X 4 prog_8_method_13_code 3 "KeyPath$TextReader") (hR : kRet X none q) (x1 : Int) (σ : KM) {Θ : (Int × KM) → Prop} (hT : ∀ z, Θ (z) → z = q) : kJ X 87 [lq 1, li x1, none] [] σ (fTR_readLength_J87 x1 σ) Θ := by
  refine k_aload_n hX dTR_readLength_87 rfl ?_
  refine k_iconst hX dTR_readLength_88 ?_
  refine k_iload_n hX dTR_readLength_89 rfl ?_
  refine cl_66 hX (by decide) (Nat.le_of_ble_eq_true rfl) dTR_readLength_90 (fun _ τ1 => ?_)
  refine k_goto (tgt := 132) hX dTR_readLength_93 (by decide) ?_
  refine k_less [true, false, true] (L' := [lq 1, none, none]) rfl ?_
  exact tTR_readLength_J132 hX hR τ1 hT
set_option maxRecDepth 100000 in
set_option maxHeartbeats 4000000 in
theorem sTR_readLength (σ : KM) : kSem 4 (⟨"KeyPath$TextReader", "readLength", "()V"⟩ : MethodName) prog_8_method_13_code 3 none [kr 1] σ (fTR_readLength σ) := by
  refine kSem.of (L0 := [lq 1, none, none]) (by decide) (Nat.le_of_ble_eq_true rfl) rfl (fun X q hX hR => ?_)
  have hT : ∀ z : Int × KM, (fun z => z = q) z → z = q := fun _ h => h
  refine k_aload_n hX dTR_readLength_0 rfl ?_
  refine gf_125 hX dTR_readLength_1 ?_
  refine k_if_eq (tgt := 8) hX dTR_readLength_4 (by decide) ?_ ?_
  · refine k_aload_n hX dTR_readLength_8 rfl ?_
    refine cl_64 hX (by decide) (Nat.le_of_ble_eq_true rfl) dTR_readLength_9 (fun r2 τ1 => ?_)
    refine k_bipush hX dTR_readLength_12 (by decide) ?_
    refine k_icmp_eq (tgt := 27) hX dTR_readLength_14 (by decide) ?_ ?_
    · refine k_aload_n hX dTR_readLength_27 rfl ?_
      refine k_dupr hX dTR_readLength_28 ?_
      refine gf_126 hX dTR_readLength_29 ?_
      refine k_iconst hX dTR_readLength_32 ?_
      refine k_iadd hX dTR_readLength_33 ?_
      refine gp_118 hX dTR_readLength_34 (fun τ3 => ?_)
      refine k_aload_n hX dTR_readLength_37 rfl ?_
      refine cl_64 hX (by decide) (Nat.le_of_ble_eq_true rfl) dTR_readLength_38 (fun r5 τ4 => ?_)
      refine cl_68 hX (by decide) (Nat.le_of_ble_eq_true rfl) dTR_readLength_41 (fun r7 τ6 => ?_)
      refine k_if_ne (tgt := 57) hX dTR_readLength_44 (by decide) ?_ ?_
      · refine k_aload_n hX dTR_readLength_57 rfl ?_
        refine gf_126 hX dTR_readLength_58 ?_
        refine k_istoreL_n (Lf := fun y8 => [lq 1, li y8, none]) hX dTR_readLength_61 rfl (by decide) (fun _ => rfl) (fun y8 => ?_)
        refine k_aload_n hX dTR_readLength_62 rfl ?_
        refine cl_72 hX (by decide) (Nat.le_of_ble_eq_true rfl) dTR_readLength_63 (fun r10 τ9 => ?_)
        refine k_istore_n (L' := [lq 1, li y8, li r10]) hX dTR_readLength_66 rfl (by decide) rfl ?_
        refine k_aload_n hX dTR_readLength_67 rfl ?_
        refine gf_126 hX dTR_readLength_68 ?_
        refine k_iload_n hX dTR_readLength_71 rfl ?_
        refine k_isub hX dTR_readLength_72 ?_
        refine k_iconst hX dTR_readLength_73 ?_
        refine k_icmp_gt (tgt := 87) hX dTR_readLength_74 (by decide) ?_ ?_
        · refine k_less [true, true, false] (L' := [lq 1, li y8, none]) rfl ?_
          exact tTR_readLength_J87 hX hR y8 τ9 hT
        · refine k_iconst hX dTR_readLength_77 ?_
          refine k_bipush hX dTR_readLength_78 (by decide) ?_
          refine k_iload_n hX dTR_readLength_80 rfl ?_
          refine cl_69 hX (by decide) (Nat.le_of_ble_eq_true rfl) dTR_readLength_81 (fun r12 τ11 => ?_)
          refine k_if_eq (tgt := 96) hX dTR_readLength_84 (by decide) ?_ ?_
          · refine k_aload_n hX dTR_readLength_96 rfl ?_
            refine gf_131 hX dTR_readLength_97 ?_
            refine k_iload_n hX dTR_readLength_100 rfl ?_
            refine k_iadd hX dTR_readLength_101 ?_
            refine k_sipush hX dTR_readLength_102 (by decide) ?_
            refine k_icmp_le (tgt := 117) hX dTR_readLength_105 (by decide) ?_ ?_
            · refine k_aload_n hX dTR_readLength_117 rfl ?_
              refine k_iload_n hX dTR_readLength_118 rfl ?_
              refine cl_76 hX (by decide) (Nat.le_of_ble_eq_true rfl) dTR_readLength_119 (fun _ τ13 => ?_)
              refine k_aload_n hX dTR_readLength_122 rfl ?_
              refine k_dupr hX dTR_readLength_123 ?_
              refine gf_131 hX dTR_readLength_124 ?_
              refine k_iload_n hX dTR_readLength_127 rfl ?_
              refine k_iadd hX dTR_readLength_128 ?_
              refine gp_119 hX dTR_readLength_129 (fun τ14 => ?_)
              refine k_less [true, false, false] (L' := [lq 1, none, none]) rfl ?_
              exact tTR_readLength_J132 hX hR τ14 hT
            · refine k_aload_n hX dTR_readLength_108 rfl ?_
              refine k_iconst hX dTR_readLength_109 ?_
              refine k_iload_n hX dTR_readLength_110 rfl ?_
              refine cl_66 hX (by decide) (Nat.le_of_ble_eq_true rfl) dTR_readLength_111 (fun _ τ15 => ?_)
              refine k_goto (tgt := 132) hX dTR_readLength_114 (by decide) ?_
              refine k_less [true, false, false] (L' := [lq 1, none, none]) rfl ?_
              exact tTR_readLength_J132 hX hR τ15 hT
          · refine k_less [true, true, false] (L' := [lq 1, li y8, none]) rfl ?_
            exact tTR_readLength_J87 hX hR y8 τ11 hT
      · refine k_aload_n hX dTR_readLength_47 rfl ?_
        refine k_iconst hX dTR_readLength_48 ?_
        refine k_aload_n hX dTR_readLength_49 rfl ?_
        refine gf_126 hX dTR_readLength_50 ?_
        refine cl_66 hX (by decide) (Nat.le_of_ble_eq_true rfl) dTR_readLength_53 (fun _ τ16 => ?_)
        exact k_vret hX hR hT dTR_readLength_56
    · refine k_aload_n hX dTR_readLength_17 rfl ?_
      refine k_iconst hX dTR_readLength_18 ?_
      refine k_aload_n hX dTR_readLength_19 rfl ?_
      refine gf_126 hX dTR_readLength_20 ?_
      refine cl_66 hX (by decide) (Nat.le_of_ble_eq_true rfl) dTR_readLength_23 (fun _ τ17 => ?_)
      exact k_vret hX hR hT dTR_readLength_26
  · exact k_vret hX hR hT dTR_readLength_7
theorem cl_77 {X : KC} {d n : Nat} {cc : ByteArray} {pc : Nat} {L : List (Option KV)} {st : List KV} {σ : KM} {Z : Type} {Θ : Z → Prop} {G : Int → KM → Option Z} (hX : kOk X d cc n "KeyPath$TextReader") (hdd : 4 + 1 ≤ d) (hst : k_cat st ≤ 8) (hd : decode cc pc = .ok (.invokevirtual 63, 3)) (h : ∀ r τ, kJ X (pc + 3) L (st) τ (G r τ) Θ) : kJ X pc L (kr 1 :: st) σ (kCall (fTR_readLength σ) G) Θ :=
  k_callV (np := 0) (av := []) (ret := none) hX (by decide) rfl rfl rfl (sTR_readLength σ) ⟨⟨hdd, by decide⟩, tw_392, tw_2, by decide +kernel⟩ rfl tw_389 tw_391 ts_2 hst hd h
