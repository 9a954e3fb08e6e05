theorem dM_outside_0 : decode prog_11_method_82_code 0 = .ok (.aload_n 0, 1) := by decide +kernel
theorem dM_outside_1 : decode prog_11_method_82_code 1 = .ok (.iconst 0, 1) := by decide +kernel
theorem dM_outside_2 : decode prog_11_method_82_code 2 = .ok (.putfield 1, 3) := by decide +kernel
theorem dM_outside_5 : decode prog_11_method_82_code 5 = .ok (.aload_n 0, 1) := by decide +kernel
theorem dM_outside_6 : decode prog_11_method_82_code 6 = .ok (.invokevirtual 287, 3) := by decide +kernel
theorem dM_outside_9 : decode prog_11_method_82_code 9 = .ok (.ifCond .ne 6, 3) := by decide +kernel
theorem dM_outside_12 : decode prog_11_method_82_code 12 = .ok (.bipush (-5), 2) := by decide +kernel
theorem dM_outside_14 : decode prog_11_method_82_code 14 = .ok (.ireturn, 1) := by decide +kernel
theorem dM_outside_15 : decode prog_11_method_82_code 15 = .ok (.iconst 0, 1) := by decide +kernel
theorem dM_outside_16 : decode prog_11_method_82_code 16 = .ok (.istore_n 1, 1) := by decide +kernel
theorem dM_outside_17 : decode prog_11_method_82_code 17 = .ok (.iconst 0, 1) := by decide +kernel
theorem dM_outside_18 : decode prog_11_method_82_code 18 = .ok (.istore_n 2, 1) := by decide +kernel
theorem dM_outside_19 : decode prog_11_method_82_code 19 = .ok (.iload_n 2, 1) := by decide +kernel
theorem dM_outside_20 : decode prog_11_method_82_code 20 = .ok (.aload_n 0, 1) := by decide +kernel
theorem dM_outside_21 : decode prog_11_method_82_code 21 = .ok (.getfield 267, 3) := by decide +kernel
theorem dM_outside_24 : decode prog_11_method_82_code 24 = .ok (.if_icmp .ge 35, 3) := by decide +kernel
theorem dM_outside_27 : decode prog_11_method_82_code 27 = .ok (.iload_n 1, 1) := by decide +kernel
theorem dM_outside_28 : decode prog_11_method_82_code 28 = .ok (.aload_n 0, 1) := by decide +kernel
theorem dM_outside_29 : decode prog_11_method_82_code 29 = .ok (.getfield 93, 3) := by decide +kernel
theorem dM_outside_32 : decode prog_11_method_82_code 32 = .ok (.iload_n 2, 1) := by decide +kernel
theorem dM_outside_33 : decode prog_11_method_82_code 33 = .ok (.baload, 1) := by decide +kernel
theorem dM_outside_34 : decode prog_11_method_82_code 34 = .ok (.ifCond .ne 16, 3) := by decide +kernel
theorem dM_outside_37 : decode prog_11_method_82_code 37 = .ok (.aload_n 0, 1) := by decide +kernel
theorem dM_outside_38 : decode prog_11_method_82_code 38 = .ok (.iload_n 2, 1) := by decide +kernel
theorem dM_outside_39 : decode prog_11_method_82_code 39 = .ok (.invokevirtual 320, 3) := by decide +kernel
theorem dM_outside_42 : decode prog_11_method_82_code 42 = .ok (.iconst (-1), 1) := by decide +kernel
theorem dM_outside_43 : decode prog_11_method_82_code 43 = .ok (.if_icmp .ne 7, 3) := by decide +kernel
theorem dM_outside_46 : decode prog_11_method_82_code 46 = .ok (.iconst 1, 1) := by decide +kernel
theorem dM_outside_47 : decode prog_11_method_82_code 47 = .ok (.goto 4, 3) := by decide +kernel
theorem dM_outside_50 : decode prog_11_method_82_code 50 = .ok (.iconst 0, 1) := by decide +kernel
theorem dM_outside_51 : decode prog_11_method_82_code 51 = .ok (.iadd, 1) := by decide +kernel
theorem dM_outside_52 : decode prog_11_method_82_code 52 = .ok (.istore_n 1, 1) := by decide +kernel
theorem dM_outside_53 : decode prog_11_method_82_code 53 = .ok (.iinc 2 1, 3) := by decide +kernel
theorem dM_outside_56 : decode prog_11_method_82_code 56 = .ok (.goto (-37), 3) := by decide +kernel
theorem dM_outside_59 : decode prog_11_method_82_code 59 = .ok (.iload_n 1, 1) := by decide +kernel
theorem dM_outside_60 : decode prog_11_method_82_code 60 = .ok (.ireturn, 1) := by decide +kernel
set_option maxRecDepth 100000 in
set_option maxHeartbeats 4000000 in
theorem tM_outside_J59 {X : KC} {q : Int × KM} (hX : kOk X 6 prog_11_method_82_code 3 "KeyPathModel") (hR : kRet X (some .int) q) (x1 : Int) (σ : KM) {Θ : (Int × KM) → Prop} (hT : ∀ z, Θ (z) → z = q) : kJ X 59 [lq 10, li x1, none] [] σ (fM_outside_J59 x1 σ) Θ := by
  refine k_iload_n hX dM_outside_59 rfl ?_
  exact k_iret hX hR hT dM_outside_60
set_option maxRecDepth 100000 in
set_option maxHeartbeats 4000000 in
theorem tM_outside_J51 {X : KC} {q : Int × KM} (hX : kOk X 6 prog_11_method_82_code 3 "KeyPathModel") (hR : kRet X (some .int) q) (x2 t0 t1 : Int) (σ : KM) {Θ : ((Int × Int × KM) ⊕ (Int × KM)) → Prop} (hT : ∀ z, Θ (.inr (z)) → z = q) (hb0 : ∀ s : Int × Int × KM, Θ (.inl s) → kW X 19 [lq 10, li s.1, li s.2.1] [] s.2.2) : kJ X 51 [lq 10, none, li x2] [ki t0, ki t1] σ (fM_outside_J51 x2 t0 t1 σ) Θ := by
  refine k_iadd hX dM_outside_51 ?_
  refine k_istoreL_n (Lf := fun y1 => [lq 10, li y1, li x2]) hX dM_outside_52 rfl (by decide) (fun _ => rfl) (fun y1 => ?_)
  refine k_iincL (Lf := fun y2 => [lq 10, li y1, li y2]) hX dM_outside_53 rfl (by decide) rfl (fun _ => rfl) (fun y2 => ?_)
  refine k_goto (tgt := 19) hX dM_outside_56 (by decide) ?_
  exact k_back (hb0 (y1, y2, σ))
set_option maxRecDepth 100000 in
set_option maxHeartbeats 4000000 in
theorem tM_outside_J50 {X : KC} {q : Int × KM} (hX : kOk X 6 prog_11_method_82_code 3 "KeyPathModel") (hR : kRet X (some .int) q) (x2 t0 : Int) (σ : KM) {Θ : ((Int × Int × KM) ⊕ (Int × KM)) → Prop} (hT : ∀ z, Θ (.inr (z)) → z = q) (hb0 : ∀ s : Int × Int × KM, Θ (.inl s) → kW X 19 [lq 10, li s.1, li s.2.1] [] s.2.2) : kJ X 50 [lq 10, none, li x2] [ki t0] σ (fM_outside_J50 x2 t0 σ) Θ := by
  refine k_iconst hX dM_outside_50 ?_
  exact tM_outside_J51 hX hR x2 0 t0 σ hT hb0
set_option maxRecDepth 100000 in
set_option maxHeartbeats 4000000 in
theorem tM_outside_B19 {X : KC} {q : Int × KM} (hX : kOk X 6 prog_11_method_82_code 3 "KeyPathModel") (hR : kRet X (some .int) q) (x1 x2 : Int) (σ : KM) {Θ : ((Int × Int × KM) ⊕ (Int × KM)) → Prop} (hT : ∀ z, Θ (.inr (z)) → z = q) (hb0 : ∀ s : Int × Int × KM, Θ (.inl s) → kW X 19 [lq 10, li s.1, li s.2.1] [] s.2.2) : kJ X 19 [lq 10, li x1, li x2] [] σ (fM_outside_B19 x1 x2 σ) Θ := by
  refine k_iload_n hX dM_outside_19 rfl ?_
  refine k_aload_n hX dM_outside_20 rfl ?_
  refine gf_174 hX dM_outside_21 ?_
  refine k_icmp_ge (tgt := 59) hX dM_outside_24 (by decide) ?_ ?_
  · refine k_exit ?_
    refine k_less [true, true, false] (L' := [lq 10, li x1, none]) rfl ?_
    exact tM_outside_J59 hX hR x1 σ hT
  · refine k_iload_n hX dM_outside_27 rfl ?_
    refine k_aload_n hX dM_outside_28 rfl ?_
    refine gf_175 hX dM_outside_29 ?_
    refine k_iload_n hX dM_outside_32 rfl ?_
    refine k_zald hX (by decide) rfl dM_outside_33 rfl (fun y1 => ?_)
    refine k_if_ne (tgt := 50) hX dM_outside_34 (by decide) ?_ ?_
    · refine k_less [true, false, true] (L' := [lq 10, none, li x2]) rfl ?_
      exact tM_outside_J50 hX hR x2 x1 σ hT hb0
    · refine k_aload_n hX dM_outside_37 rfl ?_
      refine k_iload_n hX dM_outside_38 rfl ?_
      refine cl_140 hX (by decide) (Nat.le_of_ble_eq_true rfl) dM_outside_39 (fun r3 τ2 => ?_)
      refine k_iconst hX dM_outside_42 ?_
      refine k_icmp_ne (tgt := 50) hX dM_outside_43 (by decide) ?_ ?_
      · refine k_less [true, false, true] (L' := [lq 10, none, li x2]) rfl ?_
        exact tM_outside_J50 hX hR x2 x1 τ2 hT hb0
      · refine k_iconst hX dM_outside_46 ?_
        refine k_goto (tgt := 51) hX dM_outside_47 (by decide) ?_
        refine k_less [true, false, true] (L' := [lq 10, none, li x2]) rfl ?_
        exact tM_outside_J51 hX hR x2 1 x1 τ2 hT hb0
set_option maxRecDepth 100000 in
set_option maxHeartbeats 4000000 in
theorem tM_outside_L19 {X : KC} {q : Int × KM} (hX : kOk X 6 prog_11_method_82_code 3 "KeyPathModel") (hR : kRet X (some .int) q) (x1 x2 : Int) (σ : KM) {Θ : (Int × KM) → Prop} (hT : ∀ z, Θ (z) → z = q) : kJ X 19 [lq 10, li x1, li x2] [] σ (fM_outside_L19 x1 x2 σ) Θ :=
  k_iter (f := fun s => fM_outside_B19 s.1 s.2.1 s.2.2) (Lf := fun s => [lq 10, li s.1, li s.2.1]) (mf := fun s => s.2.2) (Θ := Θ) (fun s => tM_outside_B19 hX hR s.1 s.2.1 s.2.2 hT (fun _ h9 => h9)) kF (x1, x2, σ)
set_option maxRecDepth 100000 in
set_option maxHeartbeats 4000000 in
theorem sM_outside (σ : KM) : kSem 6 (⟨"KeyPathModel", "outside", "()I"⟩ : MethodName) prog_11_method_82_code 3 (some .int) [kr 10] σ (fM_outside σ) := by
  refine kSem.of (L0 := [lq 10, none, none]) (by decide) (Nat.le_of_ble_eq_true rfl) rfl (fun X q hX hR => ?_)
  have hT : ∀ z : Int × KM, (fun z => z = q) z → z = q := fun _ h => h
  refine k_aload_n hX dM_outside_0 rfl ?_
  refine k_iconst hX dM_outside_1 ?_
  refine gp_157 hX dM_outside_2 (fun τ1 => ?_)
  refine k_aload_n hX dM_outside_5 rfl ?_
  refine cl_136 hX (by decide) (Nat.le_of_ble_eq_true rfl) dM_outside_6 (fun r3 τ2 => ?_)
  refine k_if_ne (tgt := 15) hX dM_outside_9 (by decide) ?_ ?_
  · refine k_iconst hX dM_outside_15 ?_
    refine k_istore_n (L' := [lq 10, li 0, none]) hX dM_outside_16 rfl (by decide) rfl ?_
    refine k_iconst hX dM_outside_17 ?_
    refine k_istore_n (L' := [lq 10, li 0, li 0]) hX dM_outside_18 rfl (by decide) rfl ?_
    exact tM_outside_L19 hX hR 0 0 τ2 hT
  · refine k_bipush hX dM_outside_12 (by decide) ?_
    exact k_iret hX hR hT dM_outside_14
theorem dM_rankedNow_0 : decode prog_11_method_41_code 0 = .ok (.iconst 0, 1) := by decide +kernel
theorem dM_rankedNow_1 : decode prog_11_method_41_code 1 = .ok (.istore_n 2, 1) := by decide +kernel
theorem dM_rankedNow_2 : decode prog_11_method_41_code 2 = .ok (.iload_n 2, 1) := by decide +kernel
theorem dM_rankedNow_3 : decode prog_11_method_41_code 3 = .ok (.bipush 24, 2) := by decide +kernel
theorem dM_rankedNow_5 : decode prog_11_method_41_code 5 = .ok (.if_icmp .ge 76, 3) := by decide +kernel
theorem dM_rankedNow_8 : decode prog_11_method_41_code 8 = .ok (.iconst 0, 1) := by decide +kernel
theorem dM_rankedNow_9 : decode prog_11_method_41_code 9 = .ok (.istore_n 3, 1) := by decide +kernel
theorem dM_rankedNow_10 : decode prog_11_method_41_code 10 = .ok (.iconst 0, 1) := by decide +kernel
theorem dM_rankedNow_11 : decode prog_11_method_41_code 11 = .ok (.istore 4, 2) := by decide +kernel
theorem dM_rankedNow_13 : decode prog_11_method_41_code 13 = .ok (.iload 4, 2) := by decide +kernel
theorem dM_rankedNow_15 : decode prog_11_method_41_code 15 = .ok (.bipush 24, 2) := by decide +kernel
theorem dM_rankedNow_17 : decode prog_11_method_41_code 17 = .ok (.if_icmp .ge 51, 3) := by decide +kernel
theorem dM_rankedNow_20 : decode prog_11_method_41_code 20 = .ok (.iload_n 3, 1) := by decide +kernel
theorem dM_rankedNow_21 : decode prog_11_method_41_code 21 = .ok (.aload_n 0, 1) := by decide +kernel
theorem dM_rankedNow_22 : decode prog_11_method_41_code 22 = .ok (.iload 4, 2) := by decide +kernel
theorem dM_rankedNow_24 : decode prog_11_method_41_code 24 = .ok (.invokevirtual 242, 3) := by decide +kernel
theorem dM_rankedNow_27 : decode prog_11_method_41_code 27 = .ok (.aload_n 0, 1) := by decide +kernel
theorem dM_rankedNow_28 : decode prog_11_method_41_code 28 = .ok (.iload_n 2, 1) := by decide +kernel
theorem dM_rankedNow_29 : decode prog_11_method_41_code 29 = .ok (.invokevirtual 242, 3) := by decide +kernel
theorem dM_rankedNow_32 : decode prog_11_method_41_code 32 = .ok (.if_icmp .gt 23, 3) := by decide +kernel
theorem dM_rankedNow_35 : decode prog_11_method_41_code 35 = .ok (.aload_n 0, 1) := by decide +kernel
theorem dM_rankedNow_36 : decode prog_11_method_41_code 36 = .ok (.iload 4, 2) := by decide +kernel
theorem dM_rankedNow_38 : decode prog_11_method_41_code 38 = .ok (.invokevirtual 242, 3) := by decide +kernel
theorem dM_rankedNow_41 : decode prog_11_method_41_code 41 = .ok (.aload_n 0, 1) := by decide +kernel
theorem dM_rankedNow_42 : decode prog_11_method_41_code 42 = .ok (.iload_n 2, 1) := by decide +kernel
theorem dM_rankedNow_43 : decode prog_11_method_41_code 43 = .ok (.invokevirtual 242, 3) := by decide +kernel
theorem dM_rankedNow_46 : decode prog_11_method_41_code 46 = .ok (.if_icmp .ne 13, 3) := by decide +kernel
theorem dM_rankedNow_49 : decode prog_11_method_41_code 49 = .ok (.iload 4, 2) := by decide +kernel
theorem dM_rankedNow_51 : decode prog_11_method_41_code 51 = .ok (.iload_n 2, 1) := by decide +kernel
theorem dM_rankedNow_52 : decode prog_11_method_41_code 52 = .ok (.if_icmp .ge 7, 3) := by decide +kernel
theorem dM_rankedNow_55 : decode prog_11_method_41_code 55 = .ok (.iconst 1, 1) := by decide +kernel
theorem dM_rankedNow_56 : decode prog_11_method_41_code 56 = .ok (.goto 4, 3) := by decide +kernel
theorem dM_rankedNow_59 : decode prog_11_method_41_code 59 = .ok (.iconst 0, 1) := by decide +kernel
theorem dM_rankedNow_60 : decode prog_11_method_41_code 60 = .ok (.iadd, 1) := by decide +kernel
theorem dM_rankedNow_61 : decode prog_11_method_41_code 61 = .ok (.istore_n 3, 1) := by decide +kernel
theorem dM_rankedNow_62 : decode prog_11_method_41_code 62 = .ok (.iinc 4 1, 3) := by decide +kernel
theorem dM_rankedNow_65 : decode prog_11_method_41_code 65 = .ok (.goto (-52), 3) := by decide +kernel
theorem dM_rankedNow_68 : decode prog_11_method_41_code 68 = .ok (.iload_n 3, 1) := by decide +kernel
theorem dM_rankedNow_69 : decode prog_11_method_41_code 69 = .ok (.iload_n 1, 1) := by decide +kernel
theorem dM_rankedNow_70 : decode prog_11_method_41_code 70 = .ok (.if_icmp .ne 5, 3) := by decide +kernel
theorem dM_rankedNow_73 : decode prog_11_method_41_code 73 = .ok (.iload_n 2, 1) := by decide +kernel
theorem dM_rankedNow_74 : decode prog_11_method_41_code 74 = .ok (.ireturn, 1) := by decide +kernel
theorem dM_rankedNow_75 : decode prog_11_method_41_code 75 = .ok (.iinc 2 1, 3) := by decide +kernel
theorem dM_rankedNow_78 : decode prog_11_method_41_code 78 = .ok (.goto (-76), 3) := by decide +kernel
theorem dM_rankedNow_81 : decode prog_11_method_41_code 81 = .ok (.iconst (-1), 1) := by decide +kernel
theorem dM_rankedNow_82 : decode prog_11_method_41_code 82 = .ok (.ireturn, 1) := by decide +kernel
set_option maxRecDepth 100000 in
set_option maxHeartbeats 4000000 in
theorem tM_rankedNow_J81 {X : KC} {q : Int × KM} (hX : kOk X 3 prog_11_method_41_code 5 "KeyPathModel") (hR : kRet X (some .int) q) (σ : KM) {Θ : (Int × KM) → Prop} (hT : ∀ z, Θ (z) → z = q) : kJ X 81 [lq 10, none, none, none, none] [] σ (fM_rankedNow_J81 σ) Θ := by
  refine k_iconst hX dM_rankedNow_81 ?_
  exact k_iret hX hR hT dM_rankedNow_82
set_option maxRecDepth 100000 in
set_option maxHeartbeats 4000000 in
theorem tM_rankedNow_J73 {X : KC} {q : Int × KM} (hX : kOk X 3 prog_11_method_41_code 5 "KeyPathModel") (hR : kRet X (some .int) q) (x2 : Int) (σ : KM) {Θ : (Int × KM) → Prop} (hT : ∀ z, Θ (z) → z = q) : kJ X 73 [lq 10, none, li x2, none, none] [] σ (fM_rankedNow_J73 x2 σ) Θ := by
  refine k_iload_n hX dM_rankedNow_73 rfl ?_
  exact k_iret hX hR hT dM_rankedNow_74
set_option maxRecDepth 100000 in
set_option maxHeartbeats 4000000 in
theorem tM_rankedNow_J68 {X : KC} {q : Int × KM} (hX : kOk X 3 prog_11_method_41_code 5 "KeyPathModel") (hR : kRet X (some .int) q) (x1 x2 x3 : Int) (σ : KM) {Θ : ((Int × KM) ⊕ (Int × KM)) → Prop} (hT : ∀ z, Θ (.inr (z)) → z = q) (hb0 : ∀ s : Int × KM, Θ (.inl s) → kW X 2 [lq 10, li x1, li s.1, none, none] [] s.2) : kJ X 68 [lq 10, li x1, li x2, li x3, none] [] σ (fM_rankedNow_J68 x1 x2 x3 σ) Θ := by
  refine k_iload_n hX dM_rankedNow_68 rfl ?_
  refine k_iload_n hX dM_rankedNow_69 rfl ?_
  refine k_icmp_ne (tgt := 75) hX dM_rankedNow_70 (by decide) ?_ ?_
  · refine k_iincL (Lf := fun y1 => [lq 10, li x1, li y1, li x3, none]) hX dM_rankedNow_75 rfl (by decide) rfl (fun _ => rfl) (fun y1 => ?_)
    refine k_goto (tgt := 2) hX dM_rankedNow_78 (by decide) ?_
    refine k_less [true, true, true, false, true] (L' := [lq 10, li x1, li y1, none, none]) rfl ?_
    exact k_back (hb0 (y1, σ))
  · refine k_exit ?_
    refine k_less [true, false, true, false, true] (L' := [lq 10, none, li x2, none, none]) rfl ?_
    exact tM_rankedNow_J73 hX hR x2 σ hT
set_option maxRecDepth 100000 in
set_option maxHeartbeats 4000000 in
theorem tM_rankedNow_J60 {X : KC} {q : Int × KM} (hX : kOk X 3 prog_11_method_41_code 5 "KeyPathModel") (hR : kRet X (some .int) q) (x1 x2 x4 t0 t1 : Int) (σ : KM) {Θ : ((Int × Int × KM) ⊕ ((Int × KM) ⊕ (Int × KM))) → Prop} (hT : ∀ z, Θ (.inr (.inr (z))) → z = q) (hb0 : ∀ s : Int × Int × KM, Θ (.inl s) → kW X 13 [lq 10, li x1, li x2, li s.1, li s.2.1] [] s.2.2) (hb1 : ∀ s : Int × KM, Θ (.inr (.inl s)) → kW X 2 [lq 10, li x1, li s.1, none, none] [] s.2) : kJ X 60 [lq 10, li x1, li x2, none, li x4] [ki t0, ki t1] σ (fM_rankedNow_J60 x1 x2 x4 t0 t1 σ) Θ := by
  refine k_iadd hX dM_rankedNow_60 ?_
  refine k_istoreL_n (Lf := fun y1 => [lq 10, li x1, li x2, li y1, li x4]) hX dM_rankedNow_61 rfl (by decide) (fun _ => rfl) (fun y1 => ?_)
  refine k_iincL (Lf := fun y2 => [lq 10, li x1, li x2, li y1, li y2]) hX dM_rankedNow_62 rfl (by decide) rfl (fun _ => rfl) (fun y2 => ?_)
  refine k_goto (tgt := 13) hX dM_rankedNow_65 (by decide) ?_
  exact k_back (hb0 (y1, y2, σ))
set_option maxRecDepth 100000 in
set_option maxHeartbeats 4000000 in
theorem tM_rankedNow_J55 {X : KC} {q : Int × KM} (hX : kOk X 3 prog_11_method_41_code 5 "KeyPathModel") (hR : kRet X (some .int) q) (x1 x2 x4 t0 : Int) (σ : KM) {Θ : ((Int × Int × KM) ⊕ ((Int × KM) ⊕ (Int × KM))) → Prop} (hT : ∀ z, Θ (.inr (.inr (z))) → z = q) (hb0 : ∀ s : Int × Int × KM, Θ (.inl s) → kW X 13 [lq 10, li x1, li x2, li s.1, li s.2.1] [] s.2.2) (hb1 : ∀ s : Int × KM, Θ (.inr (.inl s)) → kW X 2 [lq 10, li x1, li s.1, none, none] [] s.2) : kJ X 55 [lq 10, li x1, li x2, none, li x4] [ki t0] σ (fM_rankedNow_J55 x1 x2 x4 t0 σ) Θ := by
  refine k_iconst hX dM_rankedNow_55 ?_
  refine k_goto (tgt := 60) hX dM_rankedNow_56 (by decide) ?_
  exact tM_rankedNow_J60 hX hR x1 x2 x4 1 t0 σ hT hb0 hb1
set_option maxRecDepth 100000 in
set_option maxHeartbeats 4000000 in
theorem tM_rankedNow_J59 {X : KC} {q : Int × KM} (hX : kOk X 3 prog_11_method_41_code 5 "KeyPathModel") (hR : kRet X (some .int) q) (x1 x2 x4 t0 : Int) (σ : KM) {Θ : ((Int × Int × KM) ⊕ ((Int × KM) ⊕ (Int × KM))) → Prop} (hT : ∀ z, Θ (.inr (.inr (z))) → z = q) (hb0 : ∀ s : Int × Int × KM, Θ (.inl s) → kW X 13 [lq 10, li x1, li x2, li s.1, li s.2.1] [] s.2.2) (hb1 : ∀ s : Int × KM, Θ (.inr (.inl s)) → kW X 2 [lq 10, li x1, li s.1, none, none] [] s.2) : kJ X 59 [lq 10, li x1, li x2, none, li x4] [ki t0] σ (fM_rankedNow_J59 x1 x2 x4 t0 σ) Θ := by
  refine k_iconst hX dM_rankedNow_59 ?_
  exact tM_rankedNow_J60 hX hR x1 x2 x4 0 t0 σ hT hb0 hb1
set_option maxRecDepth 100000 in
set_option maxHeartbeats 4000000 in
theorem tM_rankedNow_B13 {X : KC} {q : Int × KM} (hX : kOk X 3 prog_11_method_41_code 5 "KeyPathModel") (hR : kRet X (some .int) q) (x1 x2 x3 x4 : Int) (σ : KM) {Θ : ((Int × Int × KM) ⊕ ((Int × KM) ⊕ (Int × KM))) → Prop} (hT : ∀ z, Θ (.inr (.inr (z))) → z = q) (hb0 : ∀ s : Int × Int × KM, Θ (.inl s) → kW X 13 [lq 10, li x1, li x2, li s.1, li s.2.1] [] s.2.2) (hb1 : ∀ s : Int × KM, Θ (.inr (.inl s)) → kW X 2 [lq 10, li x1, li s.1, none, none] [] s.2) : kJ X 13 [lq 10, li x1, li x2, li x3, li x4] [] σ (fM_rankedNow_B13 x1 x2 x3 x4 σ) Θ := by
  refine k_iload hX dM_rankedNow_13 rfl ?_
  refine k_bipush hX dM_rankedNow_15 (by decide) ?_
  refine k_icmp_ge (tgt := 68) hX dM_rankedNow_17 (by decide) ?_ ?_
  · refine k_exit ?_
    refine k_less [true, true, true, true, false] (L' := [lq 10, li x1, li x2, li x3, none]) rfl ?_
    exact tM_rankedNow_J68 hX hR x1 x2 x3 σ hT hb1
  · refine k_iload_n hX dM_rankedNow_20 rfl ?_
    refine k_aload_n hX dM_rankedNow_21 rfl ?_
    refine k_iload hX dM_rankedNow_22 rfl ?_
    refine cl_131 hX (by decide) (Nat.le_of_ble_eq_true rfl) dM_rankedNow_24 (fun r2 τ1 => ?_)
    refine k_aload_n hX dM_rankedNow_27 rfl ?_
    refine k_iload_n hX dM_rankedNow_28 rfl ?_
    refine cl_131 hX (by decide) (Nat.le_of_ble_eq_true rfl) dM_rankedNow_29 (fun r4 τ3 => ?_)
    refine k_icmp_gt (tgt := 55) hX dM_rankedNow_32 (by decide) ?_ ?_
    · refine k_less [true, true, true, false, true] (L' := [lq 10, li x1, li x2, none, li x4]) rfl ?_
      exact tM_rankedNow_J55 hX hR x1 x2 x4 x3 τ3 hT hb0 hb1
    · refine k_aload_n hX dM_rankedNow_35 rfl ?_
      refine k_iload hX dM_rankedNow_36 rfl ?_
      refine cl_131 hX (by decide) (Nat.le_of_ble_eq_true rfl) dM_rankedNow_38 (fun r6 τ5 => ?_)
      refine k_aload_n hX dM_rankedNow_41 rfl ?_
      refine k_iload_n hX dM_rankedNow_42 rfl ?_
      refine cl_131 hX (by decide) (Nat.le_of_ble_eq_true rfl) dM_rankedNow_43 (fun r8 τ7 => ?_)
      refine k_icmp_ne (tgt := 59) hX dM_rankedNow_46 (by decide) ?_ ?_
      · refine k_less [true, true, true, false, true] (L' := [lq 10, li x1, li x2, none, li x4]) rfl ?_
        exact tM_rankedNow_J59 hX hR x1 x2 x4 x3 τ7 hT hb0 hb1
      · refine k_iload hX dM_rankedNow_49 rfl ?_
        refine k_iload_n hX dM_rankedNow_51 rfl ?_
        refine k_icmp_ge (tgt := 59) hX dM_rankedNow_52 (by decide) ?_ ?_
        · refine k_less [true, true, true, false, true] (L' := [lq 10, li x1, li x2, none, li x4]) rfl ?_
          exact tM_rankedNow_J59 hX hR x1 x2 x4 x3 τ7 hT hb0 hb1
        · refine k_less [true, true, true, false, true] (L' := [lq 10, li x1, li x2, none, li x4]) rfl ?_
          exact tM_rankedNow_J55 hX hR x1 x2 x4 x3 τ7 hT hb0 hb1
set_option maxRecDepth 100000 in
set_option maxHeartbeats 4000000 in
theorem tM_rankedNow_L13 {X : KC} {q : Int × KM} (hX : kOk X 3 prog_11_method_41_code 5 "KeyPathModel") (hR : kRet X (some .int) q) (x1 x2 x3 x4 : Int) (σ : KM) {Θ : ((Int × KM) ⊕ (Int × KM)) → Prop} (hT : ∀ z, Θ (.inr (z)) → z = q) (hb0 : ∀ s : Int × KM, Θ (.inl s) → kW X 2 [lq 10, li x1, li s.1, none, none] [] s.2) : kJ X 13 [lq 10, li x1, li x2, li x3, li x4] [] σ (fM_rankedNow_L13 x1 x2 x3 x4 σ) Θ :=
  k_iter (f := fun s => fM_rankedNow_B13 x1 x2 s.1 s.2.1 s.2.2) (Lf := fun s => [lq 10, li x1, li x2, li s.1, li s.2.1]) (mf := fun s => s.2.2) (Θ := Θ) (fun s => tM_rankedNow_B13 hX hR x1 x2 s.1 s.2.1 s.2.2 hT (fun _ h9 => h9) hb0) kF (x3, x4, σ)
set_option maxRecDepth 100000 in
set_option maxHeartbeats 4000000 in
theorem tM_rankedNow_B2 {X : KC} {q : Int × KM} (hX : kOk X 3 prog_11_method_41_code 5 "KeyPathModel") (hR : kRet X (some .int) q) (x1 x2 : Int) (σ : KM) {Θ : ((Int × KM) ⊕ (Int × KM)) → Prop} (hT : ∀ z, Θ (.inr (z)) → z = q) (hb0 : ∀ s : Int × KM, Θ (.inl s) → kW X 2 [lq 10, li x1, li s.1, none, none] [] s.2) : kJ X 2 [lq 10, li x1, li x2, none, none] [] σ (fM_rankedNow_B2 x1 x2 σ) Θ := by
  refine k_iload_n hX dM_rankedNow_2 rfl ?_
  refine k_bipush hX dM_rankedNow_3 (by decide) ?_
  refine k_icmp_ge (tgt := 81) hX dM_rankedNow_5 (by decide) ?_ ?_
  · refine k_exit ?_
    refine k_less [true, false, false, true, true] (L' := [lq 10, none, none, none, none]) rfl ?_
    exact tM_rankedNow_J81 hX hR σ hT
  · refine k_iconst hX dM_rankedNow_8 ?_
    refine k_istore_n (L' := [lq 10, li x1, li x2, li 0, none]) hX dM_rankedNow_9 rfl (by decide) rfl ?_
    refine k_iconst hX dM_rankedNow_10 ?_
    refine k_istore (L' := [lq 10, li x1, li x2, li 0, li 0]) hX dM_rankedNow_11 rfl (by decide) rfl ?_
    exact tM_rankedNow_L13 hX hR x1 x2 0 0 σ hT hb0
set_option maxRecDepth 100000 in
set_option maxHeartbeats 4000000 in
theorem tM_rankedNow_L2 {X : KC} {q : Int × KM} (hX : kOk X 3 prog_11_method_41_code 5 "KeyPathModel") (hR : kRet X (some .int) q) (x1 x2 : Int) (σ : KM) {Θ : (Int × KM) → Prop} (hT : ∀ z, Θ (z) → z = q) : kJ X 2 [lq 10, li x1, li x2, none, none] [] σ (fM_rankedNow_L2 x1 x2 σ) Θ :=
  k_iter (f := fun s => fM_rankedNow_B2 x1 s.1 s.2) (Lf := fun s => [lq 10, li x1, li s.1, none, none]) (mf := fun s => s.2) (Θ := Θ) (fun s => tM_rankedNow_B2 hX hR x1 s.1 s.2 hT (fun _ h9 => h9)) kF (x2, σ)
set_option maxRecDepth 100000 in
set_option maxHeartbeats 4000000 in
theorem sM_rankedNow (x1 : Int) (σ : KM) : kSem 3 (⟨"KeyPathModel", "rankedNow", "(I)I"⟩ : MethodName) prog_11_method_41_code 5 (some .int) [kr 10, ki x1] σ (fM_rankedNow x1 σ) := by
  refine kSem.of (L0 := [lq 10, li x1, none, none, none]) (by decide) (Nat.le_of_ble_eq_true rfl) rfl (fun X q hX hR => ?_)
  have hT : ∀ z : Int × KM, (fun z => z = q) z → z = q := fun _ h => h
  refine k_iconst hX dM_rankedNow_0 ?_
  refine k_istore_n (L' := [lq 10, li x1, li 0, none, none]) hX dM_rankedNow_1 rfl (by decide) rfl ?_
  exact tM_rankedNow_L2 hX hR x1 0 σ hT
theorem cl_161 {X : KC} {d n : Nat} {cc : ByteArray} {pc : Nat} {L : List (Option KV)} {st : List KV} {σ : KM} {Z : Type} {Θ : Z → Prop} {G : Int → KM → Option Z} {x1 : Int} (hX : kOk X d cc n "KeyPathModel") (hdd : 3 + 1 ≤ d) (hst : k_cat st ≤ 8) (hd : decode cc pc = .ok (.invokevirtual 245, 3)) (h : ∀ r τ, kJ X (pc + 3) L (ki r :: st) τ (G r τ) Θ) : kJ X pc L (ki x1 :: kr 10 :: st) σ (kCall (fM_rankedNow x1 σ) G) Θ :=
  k_callV (np := 1) (av := [ki x1]) (ret := (some .int)) hX (by decide) rfl rfl rfl (sM_rankedNow _ σ) ⟨⟨hdd, by decide⟩, tw_1285, tw_11, by decide +kernel⟩ rfl tw_1282 tw_1284 ts_56 hst hd h
theorem dM_overall_0 : decode prog_11_method_43_code 0 = .ok (.aload_n 0, 1) := by decide +kernel
theorem dM_overall_1 : decode prog_11_method_43_code 1 = .ok (.iconst 0, 1) := by decide +kernel
theorem dM_overall_2 : decode prog_11_method_43_code 2 = .ok (.putfield 1, 3) := by decide +kernel
theorem dM_overall_5 : decode prog_11_method_43_code 5 = .ok (.iload_n 1, 1) := by decide +kernel
theorem dM_overall_6 : decode prog_11_method_43_code 6 = .ok (.invokestatic 220, 3) := by decide +kernel
theorem dM_overall_9 : decode prog_11_method_43_code 9 = .ok (.ifCond .ne 6, 3) := by decide +kernel
theorem dM_overall_12 : decode prog_11_method_43_code 12 = .ok (.bipush (-3), 2) := by decide +kernel
theorem dM_overall_14 : decode prog_11_method_43_code 14 = .ok (.ireturn, 1) := by decide +kernel
theorem dM_overall_15 : decode prog_11_method_43_code 15 = .ok (.aload_n 0, 1) := by decide +kernel
theorem dM_overall_16 : decode prog_11_method_43_code 16 = .ok (.iconst 0, 1) := by decide +kernel
theorem dM_overall_17 : decode prog_11_method_43_code 17 = .ok (.aload_n 0, 1) := by decide +kernel
theorem dM_overall_18 : decode prog_11_method_43_code 18 = .ok (.invokevirtual 192, 3) := by decide +kernel
theorem dM_overall_21 : decode prog_11_method_43_code 21 = .ok (.invokevirtual 226, 3) := by decide +kernel
theorem dM_overall_24 : decode prog_11_method_43_code 24 = .ok (.aload_n 0, 1) := by decide +kernel
theorem dM_overall_25 : decode prog_11_method_43_code 25 = .ok (.iload_n 1, 1) := by decide +kernel
theorem dM_overall_26 : decode prog_11_method_43_code 26 = .ok (.invokevirtual 245, 3) := by decide +kernel
theorem dM_overall_29 : decode prog_11_method_43_code 29 = .ok (.ireturn, 1) := by decide +kernel
set_option maxRecDepth 100000 in
set_option maxHeartbeats 4000000 in
theorem sM_overall (x1 : Int) (σ : KM) : kSem 4 (⟨"KeyPathModel", "overall", "(I)I"⟩ : MethodName) prog_11_method_43_code 2 (some .int) [kr 10, ki x1] σ (fM_overall x1 σ) := by
  refine kSem.of (L0 := [lq 10, li x1]) (by decide) (Nat.le_of_ble_eq_true rfl) rfl (fun X q hX hR => ?_)
  have hT : ∀ z : Int × KM, (fun z => z = q) z → z = q := fun _ h => h
  refine k_aload_n hX dM_overall_0 rfl ?_
  refine k_iconst hX dM_overall_1 ?_
  refine gp_157 hX dM_overall_2 (fun τ1 => ?_)
  refine k_iload_n hX dM_overall_5 rfl ?_
  refine cl_143 hX (by decide) (Nat.le_of_ble_eq_true rfl) dM_overall_6 (fun r3 τ2 => ?_)
  refine k_if_ne (tgt := 15) hX dM_overall_9 (by decide) ?_ ?_
  · refine k_aload_n hX dM_overall_15 rfl ?_
    refine k_iconst hX dM_overall_16 ?_
    refine k_aload_n hX dM_overall_17 rfl ?_
    refine cl_117 hX (by decide) (Nat.le_of_ble_eq_true rfl) dM_overall_18 (fun r5 τ4 => ?_)
    refine cl_122 hX (by decide) (Nat.le_of_ble_eq_true rfl) dM_overall_21 (fun _ τ6 => ?_)
    refine k_aload_n hX dM_overall_24 rfl ?_
    refine k_iload_n hX dM_overall_25 rfl ?_
    refine cl_161 hX (by decide) (Nat.le_of_ble_eq_true rfl) dM_overall_26 (fun r8 τ7 => ?_)
    exact k_iret hX hR hT dM_overall_29
  · refine k_bipush hX dM_overall_12 (by decide) ?_
    exact k_iret hX hR hT dM_overall_14
theorem dM_pin_0 : decode prog_11_method_31_code 0 = .ok (.aload_n 0, 1) := by decide +kernel
theorem dM_pin_1 : decode prog_11_method_31_code 1 = .ok (.iconst 0, 1) := by decide +kernel
theorem dM_pin_2 : decode prog_11_method_31_code 2 = .ok (.putfield 1, 3) := by decide +kernel
theorem dM_pin_5 : decode prog_11_method_31_code 5 = .ok (.iload_n 1, 1) := by decide +kernel
theorem dM_pin_6 : decode prog_11_method_31_code 6 = .ok (.i2l, 1) := by decide +kernel
theorem dM_pin_7 : decode prog_11_method_31_code 7 = .ok (.lconst 0, 1) := by decide +kernel
theorem dM_pin_8 : decode prog_11_method_31_code 8 = .ok (.ldc2_w 218, 3) := by decide +kernel
theorem dM_pin_11 : decode prog_11_method_31_code 11 = .ok (.invokestatic 134, 3) := by decide +kernel
theorem dM_pin_14 : decode prog_11_method_31_code 14 = .ok (.ifCond .eq 15, 3) := by decide +kernel
theorem dM_pin_17 : decode prog_11_method_31_code 17 = .ok (.iload_n 2, 1) := by decide +kernel
theorem dM_pin_18 : decode prog_11_method_31_code 18 = .ok (.iconst (-1), 1) := by decide +kernel
theorem dM_pin_19 : decode prog_11_method_31_code 19 = .ok (.if_icmp .eq 13, 3) := by decide +kernel
theorem dM_pin_22 : decode prog_11_method_31_code 22 = .ok (.iload_n 2, 1) := by decide +kernel
theorem dM_pin_23 : decode prog_11_method_31_code 23 = .ok (.invokestatic 220, 3) := by decide +kernel
theorem dM_pin_26 : decode prog_11_method_31_code 26 = .ok (.ifCond .ne 6, 3) := by decide +kernel
theorem dM_pin_29 : decode prog_11_method_31_code 29 = .ok (.bipush (-2), 2) := by decide +kernel
theorem dM_pin_31 : decode prog_11_method_31_code 31 = .ok (.ireturn, 1) := by decide +kernel
theorem dM_pin_32 : decode prog_11_method_31_code 32 = .ok (.aload_n 0, 1) := by decide +kernel
theorem dM_pin_33 : decode prog_11_method_31_code 33 = .ok (.getfield 56, 3) := by decide +kernel
theorem dM_pin_36 : decode prog_11_method_31_code 36 = .ok (.iload_n 1, 1) := by decide +kernel
theorem dM_pin_37 : decode prog_11_method_31_code 37 = .ok (.iaload, 1) := by decide +kernel
theorem dM_pin_38 : decode prog_11_method_31_code 38 = .ok (.istore_n 3, 1) := by decide +kernel
theorem dM_pin_39 : decode prog_11_method_31_code 39 = .ok (.aload_n 0, 1) := by decide +kernel
theorem dM_pin_40 : decode prog_11_method_31_code 40 = .ok (.getfield 56, 3) := by decide +kernel
theorem dM_pin_43 : decode prog_11_method_31_code 43 = .ok (.iload_n 1, 1) := by decide +kernel
theorem dM_pin_44 : decode prog_11_method_31_code 44 = .ok (.iload_n 2, 1) := by decide +kernel
theorem dM_pin_45 : decode prog_11_method_31_code 45 = .ok (.iastore, 1) := by decide +kernel
theorem dM_pin_46 : decode prog_11_method_31_code 46 = .ok (.iload_n 3, 1) := by decide +kernel
theorem dM_pin_47 : decode prog_11_method_31_code 47 = .ok (.ireturn, 1) := by decide +kernel
set_option maxRecDepth 100000 in
set_option maxHeartbeats 4000000 in
theorem tM_pin_J29 {X : KC} {q : Int × KM} (hX : kOk X 3 prog_11_method_31_code 4 "KeyPathModel") (hR : kRet X (some .int) q) (σ : KM) {Θ : (Int × KM) → Prop} (hT : ∀ z, Θ (z) → z = q) : kJ X 29 [lq 10, none, none, none] [] σ (fM_pin_J29 σ) Θ := by
  refine k_bipush hX dM_pin_29 (by decide) ?_
  exact k_iret hX hR hT dM_pin_31
set_option maxRecDepth 100000 in
set_option maxHeartbeats 4000000 in
theorem tM_pin_J32 {X : KC} {q : Int × KM} (hX : kOk X 3 prog_11_method_31_code 4 "KeyPathModel") (hR : kRet X (some .int) q) (x1 x2 : Int) (σ : KM) {Θ : (Int × KM) → Prop} (hT : ∀ z, Θ (z) → z = q) : kJ X 32 [lq 10, li x1, li x2, none] [] σ (fM_pin_J32 x1 x2 σ) Θ := by
  refine k_aload_n hX dM_pin_32 rfl ?_
  refine gf_177 hX dM_pin_33 ?_
  refine k_iload_n hX dM_pin_36 rfl ?_
  refine k_iald hX (by decide) rfl dM_pin_37 rfl (fun y1 => ?_)
  refine k_istore_n (L' := [lq 10, li x1, li x2, li y1]) hX dM_pin_38 rfl (by decide) rfl ?_
  refine k_aload_n hX dM_pin_39 rfl ?_
  refine gf_177 hX dM_pin_40 ?_
  refine k_iload_n hX dM_pin_43 rfl ?_
  refine k_iload_n hX dM_pin_44 rfl ?_
  refine k_iast hX (by decide) rfl dM_pin_45 rfl (fun τ2 => ?_)
  refine k_iload_n hX dM_pin_46 rfl ?_
  exact k_iret hX hR hT dM_pin_47
set_option maxRecDepth 100000 in
set_option maxHeartbeats 4000000 in
theorem sM_pin (x1 x2 : Int) (σ : KM) : kSem 3 (⟨"KeyPathModel", "pin", "(II)I"⟩ : MethodName) prog_11_method_31_code 4 (some .int) [kr 10, ki x1, ki x2] σ (fM_pin x1 x2 σ) := by
  refine kSem.of (L0 := [lq 10, li x1, li x2, none]) (by decide) (Nat.le_of_ble_eq_true rfl) rfl (fun X q hX hR => ?_)
  have hT : ∀ z : Int × KM, (fun z => z = q) z → z = q := fun _ h => h
  refine k_aload_n hX dM_pin_0 rfl ?_
  refine k_iconst hX dM_pin_1 ?_
  refine gp_157 hX dM_pin_2 (fun τ1 => ?_)
  refine k_iload_n hX dM_pin_5 rfl ?_
  refine k_i2l hX dM_pin_6 ?_
  refine k_lconst0 hX dM_pin_7 ?_
  refine k_ldc2 (v := 47) hX dM_pin_8 tw_1238 ?_
  refine cl_120 hX (by decide) (Nat.le_of_ble_eq_true rfl) dM_pin_11 (fun r3 τ2 => ?_)
  refine k_if_eq (tgt := 29) hX dM_pin_14 (by decide) ?_ ?_
  · refine k_less [true, false, false, true] (L' := [lq 10, none, none, none]) rfl ?_
    exact tM_pin_J29 hX hR τ2 hT
  · refine k_iload_n hX dM_pin_17 rfl ?_
    refine k_iconst hX dM_pin_18 ?_
    refine k_icmp_eq (tgt := 32) hX dM_pin_19 (by decide) ?_ ?_
    · exact tM_pin_J32 hX hR x1 x2 τ2 hT
    · refine k_iload_n hX dM_pin_22 rfl ?_
      refine cl_143 hX (by decide) (Nat.le_of_ble_eq_true rfl) dM_pin_23 (fun r5 τ4 => ?_)
      refine k_if_ne (tgt := 32) hX dM_pin_26 (by decide) ?_ ?_
      · exact tM_pin_J32 hX hR x1 x2 τ4 hT
      · refine k_less [true, false, false, true] (L' := [lq 10, none, none, none]) rfl ?_
        exact tM_pin_J29 hX hR τ4 hT
theorem dM_pivot_0 : decode prog_11_method_78_code 0 = .ok (.aload_n 0, 1) := by decide +kernel
theorem dM_pivot_1 : decode prog_11_method_78_code 1 = .ok (.iconst 0, 1) := by decide +kernel
theorem dM_pivot_2 : decode prog_11_method_78_code 2 = .ok (.putfield 1, 3) := by decide +kernel
theorem dM_pivot_5 : decode prog_11_method_78_code 5 = .ok (.aload_n 0, 1) := by decide +kernel
theorem dM_pivot_6 : decode prog_11_method_78_code 6 = .ok (.invokevirtual 287, 3) := by decide +kernel
theorem dM_pivot_9 : decode prog_11_method_78_code 9 = .ok (.ifCond .ne 6, 3) := by decide +kernel
theorem dM_pivot_12 : decode prog_11_method_78_code 12 = .ok (.bipush (-5), 2) := by decide +kernel
theorem dM_pivot_14 : decode prog_11_method_78_code 14 = .ok (.ireturn, 1) := by decide +kernel
theorem dM_pivot_15 : decode prog_11_method_78_code 15 = .ok (.iload_n 1, 1) := by decide +kernel
theorem dM_pivot_16 : decode prog_11_method_78_code 16 = .ok (.i2l, 1) := by decide +kernel
theorem dM_pivot_17 : decode prog_11_method_78_code 17 = .ok (.lconst 0, 1) := by decide +kernel
theorem dM_pivot_18 : decode prog_11_method_78_code 18 = .ok (.aload_n 0, 1) := by decide +kernel
theorem dM_pivot_19 : decode prog_11_method_78_code 19 = .ok (.invokevirtual 306, 3) := by decide +kernel
theorem dM_pivot_22 : decode prog_11_method_78_code 22 = .ok (.iconst 2, 1) := by decide +kernel
theorem dM_pivot_23 : decode prog_11_method_78_code 23 = .ok (.isub, 1) := by decide +kernel
theorem dM_pivot_24 : decode prog_11_method_78_code 24 = .ok (.i2l, 1) := by decide +kernel
theorem dM_pivot_25 : decode prog_11_method_78_code 25 = .ok (.invokestatic 134, 3) := by decide +kernel
theorem dM_pivot_28 : decode prog_11_method_78_code 28 = .ok (.ifCond .eq 15, 3) := by decide +kernel
theorem dM_pivot_31 : decode prog_11_method_78_code 31 = .ok (.iload_n 2, 1) := by decide +kernel
theorem dM_pivot_32 : decode prog_11_method_78_code 32 = .ok (.i2l, 1) := by decide +kernel
theorem dM_pivot_33 : decode prog_11_method_78_code 33 = .ok (.lconst 0, 1) := by decide +kernel
theorem dM_pivot_34 : decode prog_11_method_78_code 34 = .ok (.ldc2_w 190, 3) := by decide +kernel
theorem dM_pivot_37 : decode prog_11_method_78_code 37 = .ok (.invokestatic 134, 3) := by decide +kernel
theorem dM_pivot_40 : decode prog_11_method_78_code 40 = .ok (.ifCond .ne 6, 3) := by decide +kernel
theorem dM_pivot_43 : decode prog_11_method_78_code 43 = .ok (.bipush (-2), 2) := by decide +kernel
theorem dM_pivot_45 : decode prog_11_method_78_code 45 = .ok (.ireturn, 1) := by decide +kernel
theorem dM_pivot_46 : decode prog_11_method_78_code 46 = .ok (.aload_n 0, 1) := by decide +kernel
theorem dM_pivot_47 : decode prog_11_method_78_code 47 = .ok (.iload_n 1, 1) := by decide +kernel
theorem dM_pivot_48 : decode prog_11_method_78_code 48 = .ok (.iconst 1, 1) := by decide +kernel
theorem dM_pivot_49 : decode prog_11_method_78_code 49 = .ok (.iadd, 1) := by decide +kernel
theorem dM_pivot_50 : decode prog_11_method_78_code 50 = .ok (.invokevirtual 309, 3) := by decide +kernel
theorem dM_pivot_53 : decode prog_11_method_78_code 53 = .ok (.istore_n 3, 1) := by decide +kernel
theorem dM_pivot_54 : decode prog_11_method_78_code 54 = .ok (.aload_n 0, 1) := by decide +kernel
theorem dM_pivot_55 : decode prog_11_method_78_code 55 = .ok (.iload_n 3, 1) := by decide +kernel
theorem dM_pivot_56 : decode prog_11_method_78_code 56 = .ok (.iconst 1, 1) := by decide +kernel
theorem dM_pivot_57 : decode prog_11_method_78_code 57 = .ok (.isub, 1) := by decide +kernel
theorem dM_pivot_58 : decode prog_11_method_78_code 58 = .ok (.invokevirtual 232, 3) := by decide +kernel
theorem dM_pivot_61 : decode prog_11_method_78_code 61 = .ok (.iconst 0, 1) := by decide +kernel
theorem dM_pivot_62 : decode prog_11_method_78_code 62 = .ok (.istore 4, 2) := by decide +kernel
theorem dM_pivot_64 : decode prog_11_method_78_code 64 = .ok (.iload 4, 2) := by decide +kernel
theorem dM_pivot_66 : decode prog_11_method_78_code 66 = .ok (.bipush 12, 2) := by decide +kernel
theorem dM_pivot_68 : decode prog_11_method_78_code 68 = .ok (.if_icmp .ge 23, 3) := by decide +kernel
theorem dM_pivot_71 : decode prog_11_method_78_code 71 = .ok (.aload_n 0, 1) := by decide +kernel
theorem dM_pivot_72 : decode prog_11_method_78_code 72 = .ok (.getfield 103, 3) := by decide +kernel
theorem dM_pivot_75 : decode prog_11_method_78_code 75 = .ok (.iload 4, 2) := by decide +kernel
theorem dM_pivot_77 : decode prog_11_method_78_code 77 = .ok (.aload_n 0, 1) := by decide +kernel
theorem dM_pivot_78 : decode prog_11_method_78_code 78 = .ok (.getfield 66, 3) := by decide +kernel
theorem dM_pivot_81 : decode prog_11_method_78_code 81 = .ok (.iload 4, 2) := by decide +kernel
theorem dM_pivot_83 : decode prog_11_method_78_code 83 = .ok (.iaload, 1) := by decide +kernel
theorem dM_pivot_84 : decode prog_11_method_78_code 84 = .ok (.iastore, 1) := by decide +kernel
theorem dM_pivot_85 : decode prog_11_method_78_code 85 = .ok (.iinc 4 1, 3) := by decide +kernel
theorem dM_pivot_88 : decode prog_11_method_78_code 88 = .ok (.goto (-24), 3) := by decide +kernel
theorem dM_pivot_91 : decode prog_11_method_78_code 91 = .ok (.aload_n 0, 1) := by decide +kernel
theorem dM_pivot_92 : decode prog_11_method_78_code 92 = .ok (.iload_n 3, 1) := by decide +kernel
theorem dM_pivot_93 : decode prog_11_method_78_code 93 = .ok (.invokevirtual 232, 3) := by decide +kernel
theorem dM_pivot_96 : decode prog_11_method_78_code 96 = .ok (.iconst 0, 1) := by decide +kernel
theorem dM_pivot_97 : decode prog_11_method_78_code 97 = .ok (.istore 4, 2) := by decide +kernel
theorem dM_pivot_99 : decode prog_11_method_78_code 99 = .ok (.iload 4, 2) := by decide +kernel
theorem dM_pivot_101 : decode prog_11_method_78_code 101 = .ok (.bipush 12, 2) := by decide +kernel
theorem dM_pivot_103 : decode prog_11_method_78_code 103 = .ok (.if_icmp .ge 26, 3) := by decide +kernel
theorem dM_pivot_106 : decode prog_11_method_78_code 106 = .ok (.aload_n 0, 1) := by decide +kernel
theorem dM_pivot_107 : decode prog_11_method_78_code 107 = .ok (.getfield 103, 3) := by decide +kernel
theorem dM_pivot_110 : decode prog_11_method_78_code 110 = .ok (.iload 4, 2) := by decide +kernel
theorem dM_pivot_112 : decode prog_11_method_78_code 112 = .ok (.dup2, 1) := by decide +kernel
theorem dM_pivot_113 : decode prog_11_method_78_code 113 = .ok (.iaload, 1) := by decide +kernel
theorem dM_pivot_114 : decode prog_11_method_78_code 114 = .ok (.aload_n 0, 1) := by decide +kernel
theorem dM_pivot_115 : decode prog_11_method_78_code 115 = .ok (.getfield 66, 3) := by decide +kernel
theorem dM_pivot_118 : decode prog_11_method_78_code 118 = .ok (.iload 4, 2) := by decide +kernel
theorem dM_pivot_120 : decode prog_11_method_78_code 120 = .ok (.iaload, 1) := by decide +kernel
theorem dM_pivot_121 : decode prog_11_method_78_code 121 = .ok (.iadd, 1) := by decide +kernel
theorem dM_pivot_122 : decode prog_11_method_78_code 122 = .ok (.iastore, 1) := by decide +kernel
theorem dM_pivot_123 : decode prog_11_method_78_code 123 = .ok (.iinc 4 1, 3) := by decide +kernel
theorem dM_pivot_126 : decode prog_11_method_78_code 126 = .ok (.goto (-27), 3) := by decide +kernel
theorem dM_pivot_129 : decode prog_11_method_78_code 129 = .ok (.iconst (-1), 1) := by decide +kernel
theorem dM_pivot_130 : decode prog_11_method_78_code 130 = .ok (.istore 4, 2) := by decide +kernel
theorem dM_pivot_132 : decode prog_11_method_78_code 132 = .ok (.iconst 0, 1) := by decide +kernel
theorem dM_pivot_133 : decode prog_11_method_78_code 133 = .ok (.istore 5, 2) := by decide +kernel
theorem dM_pivot_135 : decode prog_11_method_78_code 135 = .ok (.iconst 0, 1) := by decide +kernel
theorem dM_pivot_136 : decode prog_11_method_78_code 136 = .ok (.istore 6, 2) := by decide +kernel
theorem dM_pivot_138 : decode prog_11_method_78_code 138 = .ok (.iload 6, 2) := by decide +kernel
theorem dM_pivot_140 : decode prog_11_method_78_code 140 = .ok (.bipush 36, 2) := by decide +kernel
theorem dM_pivot_142 : decode prog_11_method_78_code 142 = .ok (.if_icmp .ge 126, 3) := by decide +kernel
theorem dM_pivot_145 : decode prog_11_method_78_code 145 = .ok (.iload 6, 2) := by decide +kernel
theorem dM_pivot_147 : decode prog_11_method_78_code 147 = .ok (.aload_n 0, 1) := by decide +kernel
theorem dM_pivot_148 : decode prog_11_method_78_code 148 = .ok (.getfield 90, 3) := by decide +kernel
theorem dM_pivot_151 : decode prog_11_method_78_code 151 = .ok (.iload_n 3, 1) := by decide +kernel
theorem dM_pivot_152 : decode prog_11_method_78_code 152 = .ok (.iconst 1, 1) := by decide +kernel
theorem dM_pivot_153 : decode prog_11_method_78_code 153 = .ok (.isub, 1) := by decide +kernel
theorem dM_pivot_154 : decode prog_11_method_78_code 154 = .ok (.iaload, 1) := by decide +kernel
theorem dM_pivot_155 : decode prog_11_method_78_code 155 = .ok (.invokestatic 317, 3) := by decide +kernel
theorem dM_pivot_158 : decode prog_11_method_78_code 158 = .ok (.iconst (-1), 1) := by decide +kernel
theorem dM_pivot_159 : decode prog_11_method_78_code 159 = .ok (.if_icmp .eq 103, 3) := by decide +kernel
theorem dM_pivot_162 : decode prog_11_method_78_code 162 = .ok (.iload 6, 2) := by decide +kernel
theorem dM_pivot_164 : decode prog_11_method_78_code 164 = .ok (.aload_n 0, 1) := by decide +kernel
theorem dM_pivot_165 : decode prog_11_method_78_code 165 = .ok (.getfield 90, 3) := by decide +kernel
theorem dM_pivot_168 : decode prog_11_method_78_code 168 = .ok (.iload_n 3, 1) := by decide +kernel
theorem dM_pivot_169 : decode prog_11_method_78_code 169 = .ok (.iaload, 1) := by decide +kernel
theorem dM_pivot_170 : decode prog_11_method_78_code 170 = .ok (.invokestatic 317, 3) := by decide +kernel
theorem dM_pivot_173 : decode prog_11_method_78_code 173 = .ok (.iconst (-1), 1) := by decide +kernel
theorem dM_pivot_174 : decode prog_11_method_78_code 174 = .ok (.if_icmp .ne 6, 3) := by decide +kernel
theorem dM_pivot_177 : decode prog_11_method_78_code 177 = .ok (.goto 85, 3) := by decide +kernel
theorem dM_pivot_180 : decode prog_11_method_78_code 180 = .ok (.aload_n 0, 1) := by decide +kernel
theorem dM_pivot_181 : decode prog_11_method_78_code 181 = .ok (.getfield 103, 3) := by decide +kernel
theorem dM_pivot_184 : decode prog_11_method_78_code 184 = .ok (.iload 6, 2) := by decide +kernel
theorem dM_pivot_186 : decode prog_11_method_78_code 186 = .ok (.iconst 0, 1) := by decide +kernel
theorem dM_pivot_187 : decode prog_11_method_78_code 187 = .ok (.invokestatic 248, 3) := by decide +kernel
theorem dM_pivot_190 : decode prog_11_method_78_code 190 = .ok (.iaload, 1) := by decide +kernel
theorem dM_pivot_191 : decode prog_11_method_78_code 191 = .ok (.istore 7, 2) := by decide +kernel
theorem dM_pivot_193 : decode prog_11_method_78_code 193 = .ok (.iconst 1, 1) := by decide +kernel
theorem dM_pivot_194 : decode prog_11_method_78_code 194 = .ok (.istore 8, 2) := by decide +kernel
theorem dM_pivot_196 : decode prog_11_method_78_code 196 = .ok (.iload 8, 2) := by decide +kernel
theorem dM_pivot_198 : decode prog_11_method_78_code 198 = .ok (.iconst 3, 1) := by decide +kernel
theorem dM_pivot_199 : decode prog_11_method_78_code 199 = .ok (.if_icmp .ge 45, 3) := by decide +kernel
theorem dM_pivot_202 : decode prog_11_method_78_code 202 = .ok (.aload_n 0, 1) := by decide +kernel
theorem dM_pivot_203 : decode prog_11_method_78_code 203 = .ok (.getfield 103, 3) := by decide +kernel
theorem dM_pivot_206 : decode prog_11_method_78_code 206 = .ok (.iload 6, 2) := by decide +kernel
theorem dM_pivot_208 : decode prog_11_method_78_code 208 = .ok (.iload 8, 2) := by decide +kernel
theorem dM_pivot_210 : decode prog_11_method_78_code 210 = .ok (.invokestatic 248, 3) := by decide +kernel
theorem dM_pivot_213 : decode prog_11_method_78_code 213 = .ok (.iaload, 1) := by decide +kernel
theorem dM_pivot_214 : decode prog_11_method_78_code 214 = .ok (.iload 7, 2) := by decide +kernel
theorem dM_pivot_216 : decode prog_11_method_78_code 216 = .ok (.if_icmp .ge 18, 3) := by decide +kernel
theorem dM_pivot_219 : decode prog_11_method_78_code 219 = .ok (.aload_n 0, 1) := by decide +kernel
theorem dM_pivot_220 : decode prog_11_method_78_code 220 = .ok (.getfield 103, 3) := by decide +kernel
theorem dM_pivot_223 : decode prog_11_method_78_code 223 = .ok (.iload 6, 2) := by decide +kernel
theorem dM_pivot_225 : decode prog_11_method_78_code 225 = .ok (.iload 8, 2) := by decide +kernel
theorem dM_pivot_227 : decode prog_11_method_78_code 227 = .ok (.invokestatic 248, 3) := by decide +kernel
theorem dM_pivot_230 : decode prog_11_method_78_code 230 = .ok (.iaload, 1) := by decide +kernel
theorem dM_pivot_231 : decode prog_11_method_78_code 231 = .ok (.goto 5, 3) := by decide +kernel
theorem dM_pivot_234 : decode prog_11_method_78_code 234 = .ok (.iload 7, 2) := by decide +kernel
theorem dM_pivot_236 : decode prog_11_method_78_code 236 = .ok (.istore 7, 2) := by decide +kernel
theorem dM_pivot_238 : decode prog_11_method_78_code 238 = .ok (.iinc 8 1, 3) := by decide +kernel
theorem dM_pivot_241 : decode prog_11_method_78_code 241 = .ok (.goto (-45), 3) := by decide +kernel
theorem dM_pivot_244 : decode prog_11_method_78_code 244 = .ok (.iload 7, 2) := by decide +kernel
theorem dM_pivot_246 : decode prog_11_method_78_code 246 = .ok (.iload 5, 2) := by decide +kernel
theorem dM_pivot_248 : decode prog_11_method_78_code 248 = .ok (.if_icmp .gt 6, 3) := by decide +kernel
theorem dM_pivot_251 : decode prog_11_method_78_code 251 = .ok (.goto 11, 3) := by decide +kernel
theorem dM_pivot_254 : decode prog_11_method_78_code 254 = .ok (.iload 7, 2) := by decide +kernel
theorem dM_pivot_256 : decode prog_11_method_78_code 256 = .ok (.istore 5, 2) := by decide +kernel
theorem dM_pivot_258 : decode prog_11_method_78_code 258 = .ok (.iload 6, 2) := by decide +kernel
theorem dM_pivot_260 : decode prog_11_method_78_code 260 = .ok (.istore 4, 2) := by decide +kernel
theorem dM_pivot_262 : decode prog_11_method_78_code 262 = .ok (.iinc 6 1, 3) := by decide +kernel
theorem dM_pivot_265 : decode prog_11_method_78_code 265 = .ok (.goto (-127), 3) := by decide +kernel
theorem dM_pivot_268 : decode prog_11_method_78_code 268 = .ok (.iload 4, 2) := by decide +kernel
theorem dM_pivot_270 : decode prog_11_method_78_code 270 = .ok (.iconst (-1), 1) := by decide +kernel
theorem dM_pivot_271 : decode prog_11_method_78_code 271 = .ok (.if_icmp .ne 5, 3) := by decide +kernel
theorem dM_pivot_274 : decode prog_11_method_78_code 274 = .ok (.iconst (-1), 1) := by decide +kernel
theorem dM_pivot_275 : decode prog_11_method_78_code 275 = .ok (.ireturn, 1) := by decide +kernel
theorem dM_pivot_276 : decode prog_11_method_78_code 276 = .ok (.iload_n 2, 1) := by decide +kernel
theorem dM_pivot_277 : decode prog_11_method_78_code 277 = .ok (.ifCond .ne 8, 3) := by decide +kernel
theorem dM_pivot_280 : decode prog_11_method_78_code 280 = .ok (.iload 4, 2) := by decide +kernel
theorem dM_pivot_282 : decode prog_11_method_78_code 282 = .ok (.goto 45, 3) := by decide +kernel
theorem dM_pivot_285 : decode prog_11_method_78_code 285 = .ok (.iload_n 2, 1) := by decide +kernel
theorem dM_pivot_286 : decode prog_11_method_78_code 286 = .ok (.iconst 1, 1) := by decide +kernel
theorem dM_pivot_287 : decode prog_11_method_78_code 287 = .ok (.if_icmp .ne 19, 3) := by decide +kernel
theorem dM_pivot_290 : decode prog_11_method_78_code 290 = .ok (.iload 4, 2) := by decide +kernel
theorem dM_pivot_292 : decode prog_11_method_78_code 292 = .ok (.aload_n 0, 1) := by decide +kernel
theorem dM_pivot_293 : decode prog_11_method_78_code 293 = .ok (.getfield 90, 3) := by decide +kernel
theorem dM_pivot_296 : decode prog_11_method_78_code 296 = .ok (.iload_n 3, 1) := by decide +kernel
theorem dM_pivot_297 : decode prog_11_method_78_code 297 = .ok (.iconst 1, 1) := by decide +kernel
theorem dM_pivot_298 : decode prog_11_method_78_code 298 = .ok (.isub, 1) := by decide +kernel
theorem dM_pivot_299 : decode prog_11_method_78_code 299 = .ok (.iaload, 1) := by decide +kernel
theorem dM_pivot_300 : decode prog_11_method_78_code 300 = .ok (.invokestatic 317, 3) := by decide +kernel
theorem dM_pivot_303 : decode prog_11_method_78_code 303 = .ok (.goto 24, 3) := by decide +kernel
theorem dM_pivot_306 : decode prog_11_method_78_code 306 = .ok (.iload_n 2, 1) := by decide +kernel
theorem dM_pivot_307 : decode prog_11_method_78_code 307 = .ok (.iconst 2, 1) := by decide +kernel
theorem dM_pivot_308 : decode prog_11_method_78_code 308 = .ok (.if_icmp .ne 17, 3) := by decide +kernel
theorem dM_pivot_311 : decode prog_11_method_78_code 311 = .ok (.iload 4, 2) := by decide +kernel
theorem dM_pivot_313 : decode prog_11_method_78_code 313 = .ok (.aload_n 0, 1) := by decide +kernel
theorem dM_pivot_314 : decode prog_11_method_78_code 314 = .ok (.getfield 90, 3) := by decide +kernel
theorem dM_pivot_317 : decode prog_11_method_78_code 317 = .ok (.iload_n 3, 1) := by decide +kernel
theorem dM_pivot_318 : decode prog_11_method_78_code 318 = .ok (.iaload, 1) := by decide +kernel
theorem dM_pivot_319 : decode prog_11_method_78_code 319 = .ok (.invokestatic 317, 3) := by decide +kernel
theorem dM_pivot_322 : decode prog_11_method_78_code 322 = .ok (.goto 5, 3) := by decide +kernel
theorem dM_pivot_325 : decode prog_11_method_78_code 325 = .ok (.iload 5, 2) := by decide +kernel
theorem dM_pivot_327 : decode prog_11_method_78_code 327 = .ok (.ireturn, 1) := by decide +kernel
set_option maxRecDepth 100000 in
set_option maxHeartbeats 4000000 in
theorem tM_pivot_J43 {X : KC} {q : Int × KM} (hX : kOk X 6 prog_11_method_78_code 9 "KeyPathModel") (hR : kRet X (some .int) q) (σ : KM) {Θ : (Int × KM) → Prop} (hT : ∀ z, Θ (z) → z = q) : kJ X 43 [lq 10, none, none, none, none, none, none, none, none] [] σ (fM_pivot_J43 σ) Θ := by
  refine k_bipush hX dM_pivot_43 (by decide) ?_
  exact k_iret hX hR hT dM_pivot_45
set_option maxRecDepth 100000 in
set_option maxHeartbeats 4000000 in
theorem tM_pivot_J327 {X : KC} {q : Int × KM} (hX : kOk X 6 prog_11_method_78_code 9 "KeyPathModel") (hR : kRet X (some .int) q) (t0 : Int) (σ : KM) {Θ : (Int × KM) → Prop} (hT : ∀ z, Θ (z) → z = q) : kJ X 327 [lq 10, none, none, none, none, none, none, none, none] [ki t0] σ (fM_pivot_J327 t0 σ) Θ := by
  exact k_iret hX hR hT dM_pivot_327
set_option maxRecDepth 100000 in
set_option maxHeartbeats 4000000 in
theorem tM_pivot_J268 {X : KC} {q : Int × KM} (hX : kOk X 6 prog_11_method_78_code 9 "KeyPathModel") (hR : kRet X (some .int) q) (x2 x3 x4 x5 : Int) (σ : KM) {Θ : (Int × KM) → Prop} (hT : ∀ z, Θ (z) → z = q) : kJ X 268 [lq 10, none, li x2, li x3, li x4, li x5, none, none, none] [] σ (fM_pivot_J268 x2 x3 x4 x5 σ) Θ := by
  refine k_iload hX dM_pivot_268 rfl ?_
  refine k_iconst hX dM_pivot_270 ?_
  refine k_icmp_ne (tgt := 276) hX dM_pivot_271 (by decide) ?_ ?_
  · refine k_iload_n hX dM_pivot_276 rfl ?_
    refine k_if_ne (tgt := 285) hX dM_pivot_277 (by decide) ?_ ?_
    · refine k_iload_n hX dM_pivot_285 rfl ?_
      refine k_iconst hX dM_pivot_286 ?_
      refine k_icmp_ne (tgt := 306) hX dM_pivot_287 (by decide) ?_ ?_
      · refine k_iload_n hX dM_pivot_306 rfl ?_
        refine k_iconst hX dM_pivot_307 ?_
        refine k_icmp_ne (tgt := 325) hX dM_pivot_308 (by decide) ?_ ?_
        · refine k_iload hX dM_pivot_325 rfl ?_
          refine k_less [true, true, false, false, false, false, true, true, true] (L' := [lq 10, none, none, none, none, none, none, none, none]) rfl ?_
          exact tM_pivot_J327 hX hR x5 σ hT
        · refine k_iload hX dM_pivot_311 rfl ?_
          refine k_aload_n hX dM_pivot_313 rfl ?_
          refine gf_182 hX dM_pivot_314 ?_
          refine k_iload_n hX dM_pivot_317 rfl ?_
          refine k_iald hX (by decide) rfl dM_pivot_318 rfl (fun y1 => ?_)
          refine cl_137 hX (by decide) (Nat.le_of_ble_eq_true rfl) dM_pivot_319 (fun r3 τ2 => ?_)
          refine k_goto (tgt := 327) hX dM_pivot_322 (by decide) ?_
          refine k_less [true, true, false, false, false, false, true, true, true] (L' := [lq 10, none, none, none, none, none, none, none, none]) rfl ?_
          exact tM_pivot_J327 hX hR r3 τ2 hT
      · refine k_iload hX dM_pivot_290 rfl ?_
        refine k_aload_n hX dM_pivot_292 rfl ?_
        refine gf_182 hX dM_pivot_293 ?_
        refine k_iload_n hX dM_pivot_296 rfl ?_
        refine k_iconst hX dM_pivot_297 ?_
        refine k_isub hX dM_pivot_298 ?_
        refine k_iald hX (by decide) rfl dM_pivot_299 rfl (fun y4 => ?_)
        refine cl_137 hX (by decide) (Nat.le_of_ble_eq_true rfl) dM_pivot_300 (fun r6 τ5 => ?_)
        refine k_goto (tgt := 327) hX dM_pivot_303 (by decide) ?_
        refine k_less [true, true, false, false, false, false, true, true, true] (L' := [lq 10, none, none, none, none, none, none, none, none]) rfl ?_
        exact tM_pivot_J327 hX hR r6 τ5 hT
    · refine k_iload hX dM_pivot_280 rfl ?_
      refine k_goto (tgt := 327) hX dM_pivot_282 (by decide) ?_
      refine k_less [true, true, false, false, false, false, true, true, true] (L' := [lq 10, none, none, none, none, none, none, none, none]) rfl ?_
      exact tM_pivot_J327 hX hR x4 σ hT
  · refine k_iconst hX dM_pivot_274 ?_
    exact k_iret hX hR hT dM_pivot_275
set_option maxRecDepth 100000 in
set_option maxHeartbeats 4000000 in
theorem tM_pivot_J262 {X : KC} {q : Int × KM} (hX : kOk X 6 prog_11_method_78_code 9 "KeyPathModel") (hR : kRet X (some .int) q) (x2 x3 x4 x5 x6 : Int) (σ : KM) {Θ : ((Int × Int × Int × KM) ⊕ (Int × KM)) → Prop} (hT : ∀ z, Θ (.inr (z)) → z = q) (hb0 : ∀ s : Int × Int × Int × KM, Θ (.inl s) → kW X 138 [lq 10, none, li x2, li x3, li s.1, li s.2.1, li s.2.2.1, none, none] [] s.2.2.2) : kJ X 262 [lq 10, none, li x2, li x3, li x4, li x5, li x6, none, none] [] σ (fM_pivot_J262 x2 x3 x4 x5 x6 σ) Θ := by
  refine k_iincL (Lf := fun y1 => [lq 10, none, li x2, li x3, li x4, li x5, li y1, none, none]) hX dM_pivot_262 rfl (by decide) rfl (fun _ => rfl) (fun y1 => ?_)
  refine k_goto (tgt := 138) hX dM_pivot_265 (by decide) ?_
  exact k_back (hb0 (x4, x5, y1, σ))
set_option maxRecDepth 100000 in
set_option maxHeartbeats 4000000 in
theorem tM_pivot_J244 {X : KC} {q : Int × KM} (hX : kOk X 6 prog_11_method_78_code 9 "KeyPathModel") (hR : kRet X (some .int) q) (x2 x3 x4 x5 x6 x7 : Int) (σ : KM) {Θ : ((Int × Int × Int × KM) ⊕ (Int × KM)) → Prop} (hT : ∀ z, Θ (.inr (z)) → z = q) (hb0 : ∀ s : Int × Int × Int × KM, Θ (.inl s) → kW X 138 [lq 10, none, li x2, li x3, li s.1, li s.2.1, li s.2.2.1, none, none] [] s.2.2.2) : kJ X 244 [lq 10, none, li x2, li x3, li x4, li x5, li x6, li x7, none] [] σ (fM_pivot_J244 x2 x3 x4 x5 x6 x7 σ) Θ := by
  refine k_iload hX dM_pivot_244 rfl ?_
  refine k_iload hX dM_pivot_246 rfl ?_
  refine k_icmp_gt (tgt := 254) hX dM_pivot_248 (by decide) ?_ ?_
  · refine k_iload hX dM_pivot_254 rfl ?_
    refine k_istore (L' := [lq 10, none, li x2, li x3, li x4, li x7, li x6, li x7, none]) hX dM_pivot_256 rfl (by decide) rfl ?_
    refine k_iload hX dM_pivot_258 rfl ?_
    refine k_istore (L' := [lq 10, none, li x2, li x3, li x6, li x7, li x6, li x7, none]) hX dM_pivot_260 rfl (by decide) rfl ?_
    refine k_less [true, true, true, true, true, true, true, false, true] (L' := [lq 10, none, li x2, li x3, li x6, li x7, li x6, none, none]) rfl ?_
    exact tM_pivot_J262 hX hR x2 x3 x6 x7 x6 σ hT hb0
  · refine k_goto (tgt := 262) hX dM_pivot_251 (by decide) ?_
    refine k_less [true, true, true, true, true, true, true, false, true] (L' := [lq 10, none, li x2, li x3, li x4, li x5, li x6, none, none]) rfl ?_
    exact tM_pivot_J262 hX hR x2 x3 x4 x5 x6 σ hT hb0
set_option maxRecDepth 100000 in
set_option maxHeartbeats 4000000 in
theorem tM_pivot_J236 {X : KC} {q : Int × KM} (hX : kOk X 6 prog_11_method_78_code 9 "KeyPathModel") (hR : kRet X (some .int) q) (x2 x3 x4 x5 x6 x8 t0 : Int) (σ : KM) {Θ : ((Int × Int × KM) ⊕ ((Int × Int × Int × KM) ⊕ (Int × KM))) → Prop} (hT : ∀ z, Θ (.inr (.inr (z))) → z = q) (hb0 : ∀ s : Int × Int × KM, Θ (.inl s) → kW X 196 [lq 10, none, li x2, li x3, li x4, li x5, li x6, li s.1, li s.2.1] [] s.2.2) (hb1 : ∀ s : Int × Int × Int × KM, Θ (.inr (.inl s)) → kW X 138 [lq 10, none, li x2, li x3, li s.1, li s.2.1, li s.2.2.1, none, none] [] s.2.2.2) : kJ X 236 [lq 10, none, li x2, li x3, li x4, li x5, li x6, none, li x8] [ki t0] σ (fM_pivot_J236 x2 x3 x4 x5 x6 x8 t0 σ) Θ := by
  refine k_istore (L' := [lq 10, none, li x2, li x3, li x4, li x5, li x6, li t0, li x8]) hX dM_pivot_236 rfl (by decide) rfl ?_
  refine k_iincL (Lf := fun y1 => [lq 10, none, li x2, li x3, li x4, li x5, li x6, li t0, li y1]) hX dM_pivot_238 rfl (by decide) rfl (fun _ => rfl) (fun y1 => ?_)
  refine k_goto (tgt := 196) hX dM_pivot_241 (by decide) ?_
  exact k_back (hb0 (t0, y1, σ))
set_option maxRecDepth 100000 in
set_option maxHeartbeats 4000000 in
theorem tM_pivot_B196 {X : KC} {q : Int × KM} (hX : kOk X 6 prog_11_method_78_code 9 "KeyPathModel") (hR : kRet X (some .int) q) (x2 x3 x4 x5 x6 x7 x8 : Int) (σ : KM) {Θ : ((Int × Int × KM) ⊕ ((Int × Int × Int × KM) ⊕ (Int × KM))) → Prop} (hT : ∀ z, Θ (.inr (.inr (z))) → z = q) (hb0 : ∀ s : Int × Int × KM, Θ (.inl s) → kW X 196 [lq 10, none, li x2, li x3, li x4, li x5, li x6, li s.1, li s.2.1] [] s.2.2) (hb1 : ∀ s : Int × Int × Int × KM, Θ (.inr (.inl s)) → kW X 138 [lq 10, none, li x2, li x3, li s.1, li s.2.1, li s.2.2.1, none, none] [] s.2.2.2) : kJ X 196 [lq 10, none, li x2, li x3, li x4, li x5, li x6, li x7, li x8] [] σ (fM_pivot_B196 x2 x3 x4 x5 x6 x7 x8 σ) Θ := by
  refine k_iload hX dM_pivot_196 rfl ?_
  refine k_iconst hX dM_pivot_198 ?_
  refine k_icmp_ge (tgt := 244) hX dM_pivot_199 (by decide) ?_ ?_
  · refine k_exit ?_
    refine k_less [true, true, true, true, true, true, true, true, false] (L' := [lq 10, none, li x2, li x3, li x4, li x5, li x6, li x7, none]) rfl ?_
    exact tM_pivot_J244 hX hR x2 x3 x4 x5 x6 x7 σ hT hb1
  · refine k_aload_n hX dM_pivot_202 rfl ?_
    refine gf_213 hX dM_pivot_203 ?_
    refine k_iload hX dM_pivot_206 rfl ?_
    refine k_iload hX dM_pivot_208 rfl ?_
    refine cl_124 hX (by decide) (Nat.le_of_ble_eq_true rfl) dM_pivot_210 (fun r2 τ1 => ?_)
    refine k_iald hX (by decide) rfl dM_pivot_213 rfl (fun y3 => ?_)
    refine k_iload hX dM_pivot_214 rfl ?_
    refine k_icmp_ge (tgt := 234) hX dM_pivot_216 (by decide) ?_ ?_
    · refine k_iload hX dM_pivot_234 rfl ?_
      refine k_less [true, true, true, true, true, true, true, false, true] (L' := [lq 10, none, li x2, li x3, li x4, li x5, li x6, none, li x8]) rfl ?_
      exact tM_pivot_J236 hX hR x2 x3 x4 x5 x6 x8 x7 τ1 hT hb0 hb1
    · refine k_aload_n hX dM_pivot_219 rfl ?_
      refine gf_213 hX dM_pivot_220 ?_
      refine k_iload hX dM_pivot_223 rfl ?_
      refine k_iload hX dM_pivot_225 rfl ?_
      refine cl_124 hX (by decide) (Nat.le_of_ble_eq_true rfl) dM_pivot_227 (fun r5 τ4 => ?_)
      refine k_iald hX (by decide) rfl dM_pivot_230 rfl (fun y6 => ?_)
      refine k_goto (tgt := 236) hX dM_pivot_231 (by decide) ?_
      refine k_less [true, true, true, true, true, true, true, false, true] (L' := [lq 10, none, li x2, li x3, li x4, li x5, li x6, none, li x8]) rfl ?_
      exact tM_pivot_J236 hX hR x2 x3 x4 x5 x6 x8 y6 τ4 hT hb0 hb1
set_option maxRecDepth 100000 in
set_option maxHeartbeats 4000000 in
theorem tM_pivot_L196 {X : KC} {q : Int × KM} (hX : kOk X 6 prog_11_method_78_code 9 "KeyPathModel") (hR : kRet X (some .int) q) (x2 x3 x4 x5 x6 x7 x8 : Int) (σ : KM) {Θ : ((Int × Int × Int × KM) ⊕ (Int × KM)) → Prop} (hT : ∀ z, Θ (.inr (z)) → z = q) (hb0 : ∀ s : Int × Int × Int × KM, Θ (.inl s) → kW X 138 [lq 10, none, li x2, li x3, li s.1, li s.2.1, li s.2.2.1, none, none] [] s.2.2.2) : kJ X 196 [lq 10, none, li x2, li x3, li x4, li x5, li x6, li x7, li x8] [] σ (fM_pivot_L196 x2 x3 x4 x5 x6 x7 x8 σ) Θ :=
  k_iter (f := fun s => fM_pivot_B196 x2 x3 x4 x5 x6 s.1 s.2.1 s.2.2) (Lf := fun s => [lq 10, none, li x2, li x3, li x4, li x5, li x6, li s.1, li s.2.1]) (mf := fun s => s.2.2) (Θ := Θ) (fun s => tM_pivot_B196 hX hR x2 x3 x4 x5 x6 s.1 s.2.1 s.2.2 hT (fun _ h9 => h9) hb0) kF (x7, x8, σ)
set_option maxRecDepth 100000 in
set_option maxHeartbeats 4000000 in
theorem tM_pivot_B138 {X : KC} {q : Int × KM} (hX : kOk X 6 prog_11_method_78_code 9 "KeyPathModel") (hR : kRet X (some .int) q) (x2 x3 x4 x5 x6 : Int) (σ : KM) {Θ : ((Int × Int × Int × KM) ⊕ (Int × KM)) → Prop} (hT : ∀ z, Θ (.inr (z)) → z = q) (hb0 : ∀ s : Int × Int × Int × KM, Θ (.inl s) → kW X 138 [lq 10, none, li x2, li x3, li s.1, li s.2.1, li s.2.2.1, none, none] [] s.2.2.2) : kJ X 138 [lq 10, none, li x2, li x3, li x4, li x5, li x6, none, none] [] σ (fM_pivot_B138 x2 x3 x4 x5 x6 σ) Θ := by
  refine k_iload hX dM_pivot_138 rfl ?_
  refine k_bipush hX dM_pivot_140 (by decide) ?_
  refine k_icmp_ge (tgt := 268) hX dM_pivot_142 (by decide) ?_ ?_
  · refine k_exit ?_
    refine k_less [true, true, true, true, true, true, false, true, true] (L' := [lq 10, none, li x2, li x3, li x4, li x5, none, none, none]) rfl ?_
    exact tM_pivot_J268 hX hR x2 x3 x4 x5 σ hT
  · refine k_iload hX dM_pivot_145 rfl ?_
    refine k_aload_n hX dM_pivot_147 rfl ?_
    refine gf_182 hX dM_pivot_148 ?_
    refine k_iload_n hX dM_pivot_151 rfl ?_
    refine k_iconst hX dM_pivot_152 ?_
    refine k_isub hX dM_pivot_153 ?_
    refine k_iald hX (by decide) rfl dM_pivot_154 rfl (fun y1 => ?_)
    refine cl_137 hX (by decide) (Nat.le_of_ble_eq_true rfl) dM_pivot_155 (fun r3 τ2 => ?_)
    refine k_iconst hX dM_pivot_158 ?_
    refine k_icmp_eq (tgt := 262) hX dM_pivot_159 (by decide) ?_ ?_
    · exact tM_pivot_J262 hX hR x2 x3 x4 x5 x6 τ2 hT hb0
    · refine k_iload hX dM_pivot_162 rfl ?_
      refine k_aload_n hX dM_pivot_164 rfl ?_
      refine gf_182 hX dM_pivot_165 ?_
      refine k_iload_n hX dM_pivot_168 rfl ?_
      refine k_iald hX (by decide) rfl dM_pivot_169 rfl (fun y4 => ?_)
      refine cl_137 hX (by decide) (Nat.le_of_ble_eq_true rfl) dM_pivot_170 (fun r6 τ5 => ?_)
      refine k_iconst hX dM_pivot_173 ?_
      refine k_icmp_ne (tgt := 180) hX dM_pivot_174 (by decide) ?_ ?_
      · refine k_aload_n hX dM_pivot_180 rfl ?_
        refine gf_213 hX dM_pivot_181 ?_
        refine k_iload hX dM_pivot_184 rfl ?_
        refine k_iconst hX dM_pivot_186 ?_
        refine cl_124 hX (by decide) (Nat.le_of_ble_eq_true rfl) dM_pivot_187 (fun r8 τ7 => ?_)
        refine k_iald hX (by decide) rfl dM_pivot_190 rfl (fun y9 => ?_)
        refine k_istore (L' := [lq 10, none, li x2, li x3, li x4, li x5, li x6, li y9, none]) hX dM_pivot_191 rfl (by decide) rfl ?_
        refine k_iconst hX dM_pivot_193 ?_
        refine k_istore (L' := [lq 10, none, li x2, li x3, li x4, li x5, li x6, li y9, li 1]) hX dM_pivot_194 rfl (by decide) rfl ?_
        exact tM_pivot_L196 hX hR x2 x3 x4 x5 x6 y9 1 τ7 hT hb0
      · refine k_goto (tgt := 262) hX dM_pivot_177 (by decide) ?_
        exact tM_pivot_J262 hX hR x2 x3 x4 x5 x6 τ5 hT hb0
set_option maxRecDepth 100000 in
set_option maxHeartbeats 4000000 in
theorem tM_pivot_L138 {X : KC} {q : Int × KM} (hX : kOk X 6 prog_11_method_78_code 9 "KeyPathModel") (hR : kRet X (some .int) q) (x2 x3 x4 x5 x6 : Int) (σ : KM) {Θ : (Int × KM) → Prop} (hT : ∀ z, Θ (z) → z = q) : kJ X 138 [lq 10, none, li x2, li x3, li x4, li x5, li x6, none, none] [] σ (fM_pivot_L138 x2 x3 x4 x5 x6 σ) Θ :=
  k_iter (f := fun s => fM_pivot_B138 x2 x3 s.1 s.2.1 s.2.2.1 s.2.2.2) (Lf := fun s => [lq 10, none, li x2, li x3, li s.1, li s.2.1, li s.2.2.1, none, none]) (mf := fun s => s.2.2.2) (Θ := Θ) (fun s => tM_pivot_B138 hX hR x2 x3 s.1 s.2.1 s.2.2.1 s.2.2.2 hT (fun _ h9 => h9)) kF (x4, x5, x6, σ)
set_option maxRecDepth 100000 in
set_option maxHeartbeats 4000000 in
theorem tM_pivot_J129 {X : KC} {q : Int × KM} (hX : kOk X 6 prog_11_method_78_code 9 "KeyPathModel") (hR : kRet X (some .int) q) (x2 x3 : Int) (σ : KM) {Θ : (Int × KM) → Prop} (hT : ∀ z, Θ (z) → z = q) : kJ X 129 [lq 10, none, li x2, li x3, none, none, none, none, none] [] σ (fM_pivot_J129 x2 x3 σ) Θ := by
  refine k_iconst hX dM_pivot_129 ?_
  refine k_istore (L' := [lq 10, none, li x2, li x3, li (-1), none, none, none, none]) hX dM_pivot_130 rfl (by decide) rfl ?_
  refine k_iconst hX dM_pivot_132 ?_
  refine k_istore (L' := [lq 10, none, li x2, li x3, li (-1), li 0, none, none, none]) hX dM_pivot_133 rfl (by decide) rfl ?_
  refine k_iconst hX dM_pivot_135 ?_
  refine k_istore (L' := [lq 10, none, li x2, li x3, li (-1), li 0, li 0, none, none]) hX dM_pivot_136 rfl (by decide) rfl ?_
  exact tM_pivot_L138 hX hR x2 x3 (-1) 0 0 σ hT
set_option maxRecDepth 100000 in
set_option maxHeartbeats 4000000 in
theorem tM_pivot_B99 {X : KC} {q : Int × KM} (hX : kOk X 6 prog_11_method_78_code 9 "KeyPathModel") (hR : kRet X (some .int) q) (x2 x3 x4 : Int) (σ : KM) {Θ : ((Int × KM) ⊕ (Int × KM)) → Prop} (hT : ∀ z, Θ (.inr (z)) → z = q) (hb0 : ∀ s : Int × KM, Θ (.inl s) → kW X 99 [lq 10, none, li x2, li x3, li s.1, none, none, none, none] [] s.2) : kJ X 99 [lq 10, none, li x2, li x3, li x4, none, none, none, none] [] σ (fM_pivot_B99 x2 x3 x4 σ) Θ := by
  refine k_iload hX dM_pivot_99 rfl ?_
  refine k_bipush hX dM_pivot_101 (by decide) ?_
  refine k_icmp_ge (tgt := 129) hX dM_pivot_103 (by decide) ?_ ?_
  · refine k_exit ?_
    refine k_less [true, true, true, true, false, true, true, true, true] (L' := [lq 10, none, li x2, li x3, none, none, none, none, none]) rfl ?_
    exact tM_pivot_J129 hX hR x2 x3 σ hT
  · refine k_aload_n hX dM_pivot_106 rfl ?_
    refine gf_213 hX dM_pivot_107 ?_
    refine k_iload hX dM_pivot_110 rfl ?_
    refine k_dup2 hX dM_pivot_112 ?_
    refine k_iald hX (by decide) rfl dM_pivot_113 rfl (fun y1 => ?_)
    refine k_aload_n hX dM_pivot_114 rfl ?_
    refine gf_164 hX dM_pivot_115 ?_
    refine k_iload hX dM_pivot_118 rfl ?_
    refine k_iald hX (by decide) rfl dM_pivot_120 rfl (fun y2 => ?_)
    refine k_iadd hX dM_pivot_121 ?_
    refine k_iast hX (by decide) rfl dM_pivot_122 rfl (fun τ3 => ?_)
    refine k_iincL (Lf := fun y4 => [lq 10, none, li x2, li x3, li y4, none, none, none, none]) hX dM_pivot_123 rfl (by decide) rfl (fun _ => rfl) (fun y4 => ?_)
    refine k_goto (tgt := 99) hX dM_pivot_126 (by decide) ?_
    exact k_back (hb0 (y4, τ3))
set_option maxRecDepth 100000 in
set_option maxHeartbeats 4000000 in
theorem tM_pivot_L99 {X : KC} {q : Int × KM} (hX : kOk X 6 prog_11_method_78_code 9 "KeyPathModel") (hR : kRet X (some .int) q) (x2 x3 x4 : Int) (σ : KM) {Θ : (Int × KM) → Prop} (hT : ∀ z, Θ (z) → z = q) : kJ X 99 [lq 10, none, li x2, li x3, li x4, none, none, none, none] [] σ (fM_pivot_L99 x2 x3 x4 σ) Θ :=
  k_iter (f := fun s => fM_pivot_B99 x2 x3 s.1 s.2) (Lf := fun s => [lq 10, none, li x2, li x3, li s.1, none, none, none, none]) (mf := fun s => s.2) (Θ := Θ) (fun s => tM_pivot_B99 hX hR x2 x3 s.1 s.2 hT (fun _ h9 => h9)) kF (x4, σ)
set_option maxRecDepth 100000 in
set_option maxHeartbeats 4000000 in
theorem tM_pivot_J91 {X : KC} {q : Int × KM} (hX : kOk X 6 prog_11_method_78_code 9 "KeyPathModel") (hR : kRet X (some .int) q) (x2 x3 : Int) (σ : KM) {Θ : (Int × KM) → Prop} (hT : ∀ z, Θ (z) → z = q) : kJ X 91 [lq 10, none, li x2, li x3, none, none, none, none, none] [] σ (fM_pivot_J91 x2 x3 σ) Θ := by
  refine k_aload_n hX dM_pivot_91 rfl ?_
  refine k_iload_n hX dM_pivot_92 rfl ?_
  refine cl_123 hX (by decide) (Nat.le_of_ble_eq_true rfl) dM_pivot_93 (fun _ τ1 => ?_)
  refine k_iconst hX dM_pivot_96 ?_
  refine k_istore (L' := [lq 10, none, li x2, li x3, li 0, none, none, none, none]) hX dM_pivot_97 rfl (by decide) rfl ?_
  exact tM_pivot_L99 hX hR x2 x3 0 τ1 hT
set_option maxRecDepth 100000 in
set_option maxHeartbeats 4000000 in
theorem tM_pivot_B64 {X : KC} {q : Int × KM} (hX : kOk X 6 prog_11_method_78_code 9 "KeyPathModel") (hR : kRet X (some .int) q) (x2 x3 x4 : Int) (σ : KM) {Θ : ((Int × KM) ⊕ (Int × KM)) → Prop} (hT : ∀ z, Θ (.inr (z)) → z = q) (hb0 : ∀ s : Int × KM, Θ (.inl s) → kW X 64 [lq 10, none, li x2, li x3, li s.1, none, none, none, none] [] s.2) : kJ X 64 [lq 10, none, li x2, li x3, li x4, none, none, none, none] [] σ (fM_pivot_B64 x2 x3 x4 σ) Θ := by
  refine k_iload hX dM_pivot_64 rfl ?_
  refine k_bipush hX dM_pivot_66 (by decide) ?_
  refine k_icmp_ge (tgt := 91) hX dM_pivot_68 (by decide) ?_ ?_
  · refine k_exit ?_
    refine k_less [true, true, true, true, false, true, true, true, true] (L' := [lq 10, none, li x2, li x3, none, none, none, none, none]) rfl ?_
    exact tM_pivot_J91 hX hR x2 x3 σ hT
  · refine k_aload_n hX dM_pivot_71 rfl ?_
    refine gf_213 hX dM_pivot_72 ?_
    refine k_iload hX dM_pivot_75 rfl ?_
    refine k_aload_n hX dM_pivot_77 rfl ?_
    refine gf_164 hX dM_pivot_78 ?_
    refine k_iload hX dM_pivot_81 rfl ?_
    refine k_iald hX (by decide) rfl dM_pivot_83 rfl (fun y1 => ?_)
    refine k_iast hX (by decide) rfl dM_pivot_84 rfl (fun τ2 => ?_)
    refine k_iincL (Lf := fun y3 => [lq 10, none, li x2, li x3, li y3, none, none, none, none]) hX dM_pivot_85 rfl (by decide) rfl (fun _ => rfl) (fun y3 => ?_)
    refine k_goto (tgt := 64) hX dM_pivot_88 (by decide) ?_
    exact k_back (hb0 (y3, τ2))
set_option maxRecDepth 100000 in
set_option maxHeartbeats 4000000 in
theorem tM_pivot_L64 {X : KC} {q : Int × KM} (hX : kOk X 6 prog_11_method_78_code 9 "KeyPathModel") (hR : kRet X (some .int) q) (x2 x3 x4 : Int) (σ : KM) {Θ : (Int × KM) → Prop} (hT : ∀ z, Θ (z) → z = q) : kJ X 64 [lq 10, none, li x2, li x3, li x4, none, none, none, none] [] σ (fM_pivot_L64 x2 x3 x4 σ) Θ :=
  k_iter (f := fun s => fM_pivot_B64 x2 x3 s.1 s.2) (Lf := fun s => [lq 10, none, li x2, li x3, li s.1, none, none, none, none]) (mf := fun s => s.2) (Θ := Θ) (fun s => tM_pivot_B64 hX hR x2 x3 s.1 s.2 hT (fun _ h9 => h9)) kF (x4, σ)
set_option maxRecDepth 100000 in
set_option maxHeartbeats 4000000 in
theorem sM_pivot (x1 x2 : Int) (σ : KM) : kSem 6 (⟨"KeyPathModel", "pivot", "(II)I"⟩ : MethodName) prog_11_method_78_code 9 (some .int) [kr 10, ki x1, ki x2] σ (fM_pivot x1 x2 σ) := by
  refine kSem.of (L0 := [lq 10, li x1, li x2, none, none, none, none, none, none]) (by decide) (Nat.le_of_ble_eq_true rfl) rfl (fun X q hX hR => ?_)
  have hT : ∀ z : Int × KM, (fun z => z = q) z → z = q := fun _ h => h
  refine k_aload_n hX dM_pivot_0 rfl ?_
  refine k_iconst hX dM_pivot_1 ?_
  refine gp_157 hX dM_pivot_2 (fun τ1 => ?_)
  refine k_aload_n hX dM_pivot_5 rfl ?_
  refine cl_136 hX (by decide) (Nat.le_of_ble_eq_true rfl) dM_pivot_6 (fun r3 τ2 => ?_)
  refine k_if_ne (tgt := 15) hX dM_pivot_9 (by decide) ?_ ?_
  · refine k_iload_n hX dM_pivot_15 rfl ?_
    refine k_i2l hX dM_pivot_16 ?_
    refine k_lconst0 hX dM_pivot_17 ?_
    refine k_aload_n hX dM_pivot_18 rfl ?_
    refine cl_138 hX (by decide) (Nat.le_of_ble_eq_true rfl) dM_pivot_19 (fun r5 τ4 => ?_)
    refine k_iconst hX dM_pivot_22 ?_
    refine k_isub hX dM_pivot_23 ?_
    refine k_i2l hX dM_pivot_24 ?_
    refine cl_120 hX (by decide) (Nat.le_of_ble_eq_true rfl) dM_pivot_25 (fun r7 τ6 => ?_)
    refine k_if_eq (tgt := 43) hX dM_pivot_28 (by decide) ?_ ?_
    · refine k_less [true, false, false, true, true, true, true, true, true] (L' := [lq 10, none, none, none, none, none, none, none, none]) rfl ?_
      exact tM_pivot_J43 hX hR τ6 hT
    · refine k_iload_n hX dM_pivot_31 rfl ?_
      refine k_i2l hX dM_pivot_32 ?_
      refine k_lconst0 hX dM_pivot_33 ?_
      refine k_ldc2 (v := 3) hX dM_pivot_34 tw_1200 ?_
      refine cl_120 hX (by decide) (Nat.le_of_ble_eq_true rfl) dM_pivot_37 (fun r9 τ8 => ?_)
      refine k_if_ne (tgt := 46) hX dM_pivot_40 (by decide) ?_ ?_
      · refine k_aload_n hX dM_pivot_46 rfl ?_
        refine k_iload_n hX dM_pivot_47 rfl ?_
        refine k_iconst hX dM_pivot_48 ?_
        refine k_iadd hX dM_pivot_49 ?_
        refine cl_139 hX (by decide) (Nat.le_of_ble_eq_true rfl) dM_pivot_50 (fun r11 τ10 => ?_)
        refine k_istore_n (L' := [lq 10, li x1, li x2, li r11, none, none, none, none, none]) hX dM_pivot_53 rfl (by decide) rfl ?_
        refine k_aload_n hX dM_pivot_54 rfl ?_
        refine k_iload_n hX dM_pivot_55 rfl ?_
        refine k_iconst hX dM_pivot_56 ?_
        refine k_isub hX dM_pivot_57 ?_
        refine cl_123 hX (by decide) (Nat.le_of_ble_eq_true rfl) dM_pivot_58 (fun _ τ12 => ?_)
        refine k_iconst hX dM_pivot_61 ?_
        refine k_istore (L' := [lq 10, li x1, li x2, li r11, li 0, none, none, none, none]) hX dM_pivot_62 rfl (by decide) rfl ?_
        refine k_less [true, false, true, true, true, true, true, true, true] (L' := [lq 10, none, li x2, li r11, li 0, none, none, none, none]) rfl ?_
        exact tM_pivot_L64 hX hR x2 r11 0 τ12 hT
      · refine k_less [true, false, false, true, true, true, true, true, true] (L' := [lq 10, none, none, none, none, none, none, none, none]) rfl ?_
        exact tM_pivot_J43 hX hR τ8 hT
  · refine k_bipush hX dM_pivot_12 (by decide) ?_
    exact k_iret hX hR hT dM_pivot_14
theorem dM_progression_0 : decode prog_11_method_83_code 0 = .ok (.aload_n 0, 1) := by decide +kernel
theorem dM_progression_1 : decode prog_11_method_83_code 1 = .ok (.iconst 0, 1) := by decide +kernel
theorem dM_progression_2 : decode prog_11_method_83_code 2 = .ok (.putfield 1, 3) := by decide +kernel
theorem dM_progression_5 : decode prog_11_method_83_code 5 = .ok (.iload_n 1, 1) := by decide +kernel
theorem dM_progression_6 : decode prog_11_method_83_code 6 = .ok (.iconst (-1), 1) := by decide +kernel
theorem dM_progression_7 : decode prog_11_method_83_code 7 = .ok (.if_icmp .ge 6, 3) := by decide +kernel
theorem dM_progression_10 : decode prog_11_method_83_code 10 = .ok (.bipush (-3), 2) := by decide +kernel
theorem dM_progression_12 : decode prog_11_method_83_code 12 = .ok (.ireturn, 1) := by decide +kernel
theorem dM_progression_13 : decode prog_11_method_83_code 13 = .ok (.iconst 0, 1) := by decide +kernel
theorem dM_progression_14 : decode prog_11_method_83_code 14 = .ok (.istore_n 2, 1) := by decide +kernel
theorem dM_progression_15 : decode prog_11_method_83_code 15 = .ok (.iconst (-1), 1) := by decide +kernel
theorem dM_progression_16 : decode prog_11_method_83_code 16 = .ok (.istore_n 3, 1) := by decide +kernel
theorem dM_progression_17 : decode prog_11_method_83_code 17 = .ok (.iconst 0, 1) := by decide +kernel
theorem dM_progression_18 : decode prog_11_method_83_code 18 = .ok (.istore 4, 2) := by decide +kernel
theorem dM_progression_20 : decode prog_11_method_83_code 20 = .ok (.iload 4, 2) := by decide +kernel
theorem dM_progression_22 : decode prog_11_method_83_code 22 = .ok (.aload_n 0, 1) := by decide +kernel
theorem dM_progression_23 : decode prog_11_method_83_code 23 = .ok (.invokevirtual 202, 3) := by decide +kernel
theorem dM_progression_26 : decode prog_11_method_83_code 26 = .ok (.if_icmp .ge 50, 3) := by decide +kernel
theorem dM_progression_29 : decode prog_11_method_83_code 29 = .ok (.aload_n 0, 1) := by decide +kernel
theorem dM_progression_30 : decode prog_11_method_83_code 30 = .ok (.iload 4, 2) := by decide +kernel
theorem dM_progression_32 : decode prog_11_method_83_code 32 = .ok (.invokevirtual 232, 3) := by decide +kernel
theorem dM_progression_35 : decode prog_11_method_83_code 35 = .ok (.aload_n 0, 1) := by decide +kernel
theorem dM_progression_36 : decode prog_11_method_83_code 36 = .ok (.invokevirtual 251, 3) := by decide +kernel
theorem dM_progression_39 : decode prog_11_method_83_code 39 = .ok (.istore 5, 2) := by decide +kernel
theorem dM_progression_41 : decode prog_11_method_83_code 41 = .ok (.iload 5, 2) := by decide +kernel
theorem dM_progression_43 : decode prog_11_method_83_code 43 = .ok (.iconst (-1), 1) := by decide +kernel
theorem dM_progression_44 : decode prog_11_method_83_code 44 = .ok (.if_icmp .eq 26, 3) := by decide +kernel
theorem dM_progression_47 : decode prog_11_method_83_code 47 = .ok (.iload 5, 2) := by decide +kernel
theorem dM_progression_49 : decode prog_11_method_83_code 49 = .ok (.iload_n 3, 1) := by decide +kernel
theorem dM_progression_50 : decode prog_11_method_83_code 50 = .ok (.if_icmp .ne 6, 3) := by decide +kernel
theorem dM_progression_53 : decode prog_11_method_83_code 53 = .ok (.goto 17, 3) := by decide +kernel
theorem dM_progression_56 : decode prog_11_method_83_code 56 = .ok (.iload_n 2, 1) := by decide +kernel
theorem dM_progression_57 : decode prog_11_method_83_code 57 = .ok (.iload_n 1, 1) := by decide +kernel
theorem dM_progression_58 : decode prog_11_method_83_code 58 = .ok (.if_icmp .ne 6, 3) := by decide +kernel
theorem dM_progression_61 : decode prog_11_method_83_code 61 = .ok (.iload 5, 2) := by decide +kernel
theorem dM_progression_63 : decode prog_11_method_83_code 63 = .ok (.ireturn, 1) := by decide +kernel
theorem dM_progression_64 : decode prog_11_method_83_code 64 = .ok (.iload 5, 2) := by decide +kernel
theorem dM_progression_66 : decode prog_11_method_83_code 66 = .ok (.istore_n 3, 1) := by decide +kernel
theorem dM_progression_67 : decode prog_11_method_83_code 67 = .ok (.iinc 2 1, 3) := by decide +kernel
theorem dM_progression_70 : decode prog_11_method_83_code 70 = .ok (.iinc 4 1, 3) := by decide +kernel
theorem dM_progression_73 : decode prog_11_method_83_code 73 = .ok (.goto (-53), 3) := by decide +kernel
theorem dM_progression_76 : decode prog_11_method_83_code 76 = .ok (.iload_n 1, 1) := by decide +kernel
theorem dM_progression_77 : decode prog_11_method_83_code 77 = .ok (.iconst (-1), 1) := by decide +kernel
theorem dM_progression_78 : decode prog_11_method_83_code 78 = .ok (.if_icmp .ne 7, 3) := by decide +kernel
theorem dM_progression_81 : decode prog_11_method_83_code 81 = .ok (.iload_n 2, 1) := by decide +kernel
theorem dM_progression_82 : decode prog_11_method_83_code 82 = .ok (.goto 4, 3) := by decide +kernel
theorem dM_progression_85 : decode prog_11_method_83_code 85 = .ok (.iconst (-1), 1) := by decide +kernel
theorem dM_progression_86 : decode prog_11_method_83_code 86 = .ok (.ireturn, 1) := by decide +kernel
set_option maxRecDepth 100000 in
set_option maxHeartbeats 4000000 in
theorem tM_progression_J86 {X : KC} {q : Int × KM} (hX : kOk X 4 prog_11_method_83_code 6 "KeyPathModel") (hR : kRet X (some .int) q) (t0 : Int) (σ : KM) {Θ : (Int × KM) → Prop} (hT : ∀ z, Θ (z) → z = q) : kJ X 86 [lq 10, none, none, none, none, none] [ki t0] σ (fM_progression_J86 t0 σ) Θ := by
  exact k_iret hX hR hT dM_progression_86
set_option maxRecDepth 100000 in
set_option maxHeartbeats 4000000 in
theorem tM_progression_J76 {X : KC} {q : Int × KM} (hX : kOk X 4 prog_11_method_83_code 6 "KeyPathModel") (hR : kRet X (some .int) q) (x1 x2 : Int) (σ : KM) {Θ : (Int × KM) → Prop} (hT : ∀ z, Θ (z) → z = q) : kJ X 76 [lq 10, li x1, li x2, none, none, none] [] σ (fM_progression_J76 x1 x2 σ) Θ := by
  refine k_iload_n hX dM_progression_76 rfl ?_
  refine k_iconst hX dM_progression_77 ?_
  refine k_icmp_ne (tgt := 85) hX dM_progression_78 (by decide) ?_ ?_
  · refine k_iconst hX dM_progression_85 ?_
    refine k_less [true, false, false, true, true, true] (L' := [lq 10, none, none, none, none, none]) rfl ?_
    exact tM_progression_J86 hX hR (-1) σ hT
  · refine k_iload_n hX dM_progression_81 rfl ?_
    refine k_goto (tgt := 86) hX dM_progression_82 (by decide) ?_
    refine k_less [true, false, false, true, true, true] (L' := [lq 10, none, none, none, none, none]) rfl ?_
    exact tM_progression_J86 hX hR x2 σ hT
set_option maxRecDepth 100000 in
set_option maxHeartbeats 4000000 in
theorem tM_progression_J70 {X : KC} {q : Int × KM} (hX : kOk X 4 prog_11_method_83_code 6 "KeyPathModel") (hR : kRet X (some .int) q) (x1 x2 x3 x4 : Int) (σ : KM) {Θ : ((Int × Int × Int × KM) ⊕ (Int × KM)) → Prop} (hT : ∀ z, Θ (.inr (z)) → z = q) (hb0 : ∀ s : Int × Int × Int × KM, Θ (.inl s) → kW X 20 [lq 10, li x1, li s.1, li s.2.1, li s.2.2.1, none] [] s.2.2.2) : kJ X 70 [lq 10, li x1, li x2, li x3, li x4, none] [] σ (fM_progression_J70 x1 x2 x3 x4 σ) Θ := by
  refine k_iincL (Lf := fun y1 => [lq 10, li x1, li x2, li x3, li y1, none]) hX dM_progression_70 rfl (by decide) rfl (fun _ => rfl) (fun y1 => ?_)
  refine k_goto (tgt := 20) hX dM_progression_73 (by decide) ?_
  exact k_back (hb0 (x2, x3, y1, σ))
set_option maxRecDepth 100000 in
set_option maxHeartbeats 4000000 in
theorem tM_progression_J61 {X : KC} {q : Int × KM} (hX : kOk X 4 prog_11_method_83_code 6 "KeyPathModel") (hR : kRet X (some .int) q) (x5 : Int) (σ : KM) {Θ : (Int × KM) → Prop} (hT : ∀ z, Θ (z) → z = q) : kJ X 61 [lq 10, none, none, none, none, li x5] [] σ (fM_progression_J61 x5 σ) Θ := by
  refine k_iload hX dM_progression_61 rfl ?_
  exact k_iret hX hR hT dM_progression_63
set_option maxRecDepth 100000 in
set_option maxHeartbeats 4000000 in
theorem tM_progression_B20 {X : KC} {q : Int × KM} (hX : kOk X 4 prog_11_method_83_code 6 "KeyPathModel") (hR : kRet X (some .int) q) (x1 x2 x3 x4 : Int) (σ : KM) {Θ : ((Int × Int × Int × KM) ⊕ (Int × KM)) → Prop} (hT : ∀ z, Θ (.inr (z)) → z = q) (hb0 : ∀ s : Int × Int × Int × KM, Θ (.inl s) → kW X 20 [lq 10, li x1, li s.1, li s.2.1, li s.2.2.1, none] [] s.2.2.2) : kJ X 20 [lq 10, li x1, li x2, li x3, li x4, none] [] σ (fM_progression_B20 x1 x2 x3 x4 σ) Θ := by
  refine k_iload hX dM_progression_20 rfl ?_
  refine k_aload_n hX dM_progression_22 rfl ?_
  refine cl_119 hX (by decide) (Nat.le_of_ble_eq_true rfl) dM_progression_23 (fun r2 τ1 => ?_)
  refine k_icmp_ge (tgt := 76) hX dM_progression_26 (by decide) ?_ ?_
  · refine k_exit ?_
    refine k_less [true, true, true, false, false, true] (L' := [lq 10, li x1, li x2, none, none, none]) rfl ?_
    exact tM_progression_J76 hX hR x1 x2 τ1 hT
  · refine k_aload_n hX dM_progression_29 rfl ?_
    refine k_iload hX dM_progression_30 rfl ?_
    refine cl_123 hX (by decide) (Nat.le_of_ble_eq_true rfl) dM_progression_32 (fun _ τ3 => ?_)
    refine k_aload_n hX dM_progression_35 rfl ?_
    refine cl_125 hX (by decide) (Nat.le_of_ble_eq_true rfl) dM_progression_36 (fun r5 τ4 => ?_)
    refine k_istore (L' := [lq 10, li x1, li x2, li x3, li x4, li r5]) hX dM_progression_39 rfl (by decide) rfl ?_
    refine k_iload hX dM_progression_41 rfl ?_
    refine k_iconst hX dM_progression_43 ?_
    refine k_icmp_eq (tgt := 70) hX dM_progression_44 (by decide) ?_ ?_
    · refine k_less [true, true, true, true, true, false] (L' := [lq 10, li x1, li x2, li x3, li x4, none]) rfl ?_
      exact tM_progression_J70 hX hR x1 x2 x3 x4 τ4 hT hb0
    · refine k_iload hX dM_progression_47 rfl ?_
      refine k_iload_n hX dM_progression_49 rfl ?_
      refine k_icmp_ne (tgt := 56) hX dM_progression_50 (by decide) ?_ ?_
      · refine k_iload_n hX dM_progression_56 rfl ?_
        refine k_iload_n hX dM_progression_57 rfl ?_
        refine k_icmp_ne (tgt := 64) hX dM_progression_58 (by decide) ?_ ?_
        · refine k_iload hX dM_progression_64 rfl ?_
          refine k_istore_n (L' := [lq 10, li x1, li x2, li r5, li x4, li r5]) hX dM_progression_66 rfl (by decide) rfl ?_
          refine k_iincL (Lf := fun y6 => [lq 10, li x1, li y6, li r5, li x4, li r5]) hX dM_progression_67 rfl (by decide) rfl (fun _ => rfl) (fun y6 => ?_)
          refine k_less [true, true, true, true, true, false] (L' := [lq 10, li x1, li y6, li r5, li x4, none]) rfl ?_
          exact tM_progression_J70 hX hR x1 y6 r5 x4 τ4 hT hb0
        · refine k_exit ?_
          refine k_less [true, false, false, false, false, true] (L' := [lq 10, none, none, none, none, li r5]) rfl ?_
          exact tM_progression_J61 hX hR r5 τ4 hT
      · refine k_goto (tgt := 70) hX dM_progression_53 (by decide) ?_
        refine k_less [true, true, true, true, true, false] (L' := [lq 10, li x1, li x2, li x3, li x4, none]) rfl ?_
        exact tM_progression_J70 hX hR x1 x2 x3 x4 τ4 hT hb0
set_option maxRecDepth 100000 in
set_option maxHeartbeats 4000000 in
theorem tM_progression_L20 {X : KC} {q : Int × KM} (hX : kOk X 4 prog_11_method_83_code 6 "KeyPathModel") (hR : kRet X (some .int) q) (x1 x2 x3 x4 : Int) (σ : KM) {Θ : (Int × KM) → Prop} (hT : ∀ z, Θ (z) → z = q) : kJ X 20 [lq 10, li x1, li x2, li x3, li x4, none] [] σ (fM_progression_L20 x1 x2 x3 x4 σ) Θ :=
  k_iter (f := fun s => fM_progression_B20 x1 s.1 s.2.1 s.2.2.1 s.2.2.2) (Lf := fun s => [lq 10, li x1, li s.1, li s.2.1, li s.2.2.1, none]) (mf := fun s => s.2.2.2) (Θ := Θ) (fun s => tM_progression_B20 hX hR x1 s.1 s.2.1 s.2.2.1 s.2.2.2 hT (fun _ h9 => h9)) kF (x2, x3, x4, σ)
set_option maxRecDepth 100000 in
set_option maxHeartbeats 4000000 in
theorem sM_progression (x1 : Int) (σ : KM) : kSem 4 (⟨"KeyPathModel", "progression", "(I)I"⟩ : MethodName) prog_11_method_83_code 6 (some .int) [kr 10, ki x1] σ (fM_progression x1 σ) := by
  refine kSem.of (L0 := [lq 10, li x1, none, none, none, none]) (by decide) (Nat.le_of_ble_eq_true rfl) rfl (fun X q hX hR => ?_)
  have hT : ∀ z : Int × KM, (fun z => z = q) z → z = q := fun _ h => h
  refine k_aload_n hX dM_progression_0 rfl ?_
  refine k_iconst hX dM_progression_1 ?_
  refine gp_157 hX dM_progression_2 (fun τ1 => ?_)
  refine k_iload_n hX dM_progression_5 rfl ?_
  refine k_iconst hX dM_progression_6 ?_
  refine k_icmp_ge (tgt := 13) hX dM_progression_7 (by decide) ?_ ?_
  · refine k_iconst hX dM_progression_13 ?_
    refine k_istore_n (L' := [lq 10, li x1, li 0, none, none, none]) hX dM_progression_14 rfl (by decide) rfl ?_
    refine k_iconst hX dM_progression_15 ?_
    refine k_istore_n (L' := [lq 10, li x1, li 0, li (-1), none, none]) hX dM_progression_16 rfl (by decide) rfl ?_
    refine k_iconst hX dM_progression_17 ?_
    refine k_istore (L' := [lq 10, li x1, li 0, li (-1), li 0, none]) hX dM_progression_18 rfl (by decide) rfl ?_
    exact tM_progression_L20 hX hR x1 0 (-1) 0 τ1 hT
  · refine k_bipush hX dM_progression_10 (by decide) ?_
    exact k_iret hX hR hT dM_progression_12
theorem dM_put_0 : decode prog_11_method_17_code 0 = .ok (.aload_n 0, 1) := by decide +kernel
theorem dM_put_1 : decode prog_11_method_17_code 1 = .ok (.iconst 0, 1) := by decide +kernel
theorem dM_put_2 : decode prog_11_method_17_code 2 = .ok (.putfield 1, 3) := by decide +kernel
theorem dM_put_5 : decode prog_11_method_17_code 5 = .ok (.iload_n 1, 1) := by decide +kernel
theorem dM_put_6 : decode prog_11_method_17_code 6 = .ok (.i2l, 1) := by decide +kernel
theorem dM_put_7 : decode prog_11_method_17_code 7 = .ok (.lconst 0, 1) := by decide +kernel
theorem dM_put_8 : decode prog_11_method_17_code 8 = .ok (.ldc2_w 179, 3) := by decide +kernel
theorem dM_put_11 : decode prog_11_method_17_code 11 = .ok (.invokestatic 134, 3) := by decide +kernel
theorem dM_put_14 : decode prog_11_method_17_code 14 = .ok (.ifCond .eq 36, 3) := by decide +kernel
theorem dM_put_17 : decode prog_11_method_17_code 17 = .ok (.iload_n 2, 1) := by decide +kernel
theorem dM_put_18 : decode prog_11_method_17_code 18 = .ok (.i2l, 1) := by decide +kernel
theorem dM_put_19 : decode prog_11_method_17_code 19 = .ok (.lconst 1, 1) := by decide +kernel
theorem dM_put_20 : decode prog_11_method_17_code 20 = .ok (.ldc2_w 138, 3) := by decide +kernel
theorem dM_put_23 : decode prog_11_method_17_code 23 = .ok (.invokestatic 134, 3) := by decide +kernel
theorem dM_put_26 : decode prog_11_method_17_code 26 = .ok (.ifCond .eq 24, 3) := by decide +kernel
theorem dM_put_29 : decode prog_11_method_17_code 29 = .ok (.iload_n 3, 1) := by decide +kernel
theorem dM_put_30 : decode prog_11_method_17_code 30 = .ok (.i2l, 1) := by decide +kernel
theorem dM_put_31 : decode prog_11_method_17_code 31 = .ok (.lconst 0, 1) := by decide +kernel
theorem dM_put_32 : decode prog_11_method_17_code 32 = .ok (.ldc2_w 158, 3) := by decide +kernel
theorem dM_put_35 : decode prog_11_method_17_code 35 = .ok (.invokestatic 134, 3) := by decide +kernel
theorem dM_put_38 : decode prog_11_method_17_code 38 = .ok (.ifCond .eq 12, 3) := by decide +kernel
theorem dM_put_41 : decode prog_11_method_17_code 41 = .ok (.iload_n 1, 1) := by decide +kernel
theorem dM_put_42 : decode prog_11_method_17_code 42 = .ok (.iload_n 2, 1) := by decide +kernel
theorem dM_put_43 : decode prog_11_method_17_code 43 = .ok (.iadd, 1) := by decide +kernel
theorem dM_put_44 : decode prog_11_method_17_code 44 = .ok (.sipush 512, 3) := by decide +kernel
theorem dM_put_47 : decode prog_11_method_17_code 47 = .ok (.if_icmp .le 6, 3) := by decide +kernel
theorem dM_put_50 : decode prog_11_method_17_code 50 = .ok (.bipush (-3), 2) := by decide +kernel
theorem dM_put_52 : decode prog_11_method_17_code 52 = .ok (.ireturn, 1) := by decide +kernel
theorem dM_put_53 : decode prog_11_method_17_code 53 = .ok (.aload_n 0, 1) := by decide +kernel
theorem dM_put_54 : decode prog_11_method_17_code 54 = .ok (.getfield 169, 3) := by decide +kernel
theorem dM_put_57 : decode prog_11_method_17_code 57 = .ok (.bipush 100, 2) := by decide +kernel
theorem dM_put_59 : decode prog_11_method_17_code 59 = .ok (.if_icmp .ne 6, 3) := by decide +kernel
theorem dM_put_62 : decode prog_11_method_17_code 62 = .ok (.bipush (-4), 2) := by decide +kernel
theorem dM_put_64 : decode prog_11_method_17_code 64 = .ok (.ireturn, 1) := by decide +kernel
theorem dM_put_65 : decode prog_11_method_17_code 65 = .ok (.aload_n 0, 1) := by decide +kernel
theorem dM_put_66 : decode prog_11_method_17_code 66 = .ok (.invokevirtual 181, 3) := by decide +kernel
theorem dM_put_69 : decode prog_11_method_17_code 69 = .ok (.aload_n 0, 1) := by decide +kernel
theorem dM_put_70 : decode prog_11_method_17_code 70 = .ok (.iload_n 1, 1) := by decide +kernel
theorem dM_put_71 : decode prog_11_method_17_code 71 = .ok (.iload_n 2, 1) := by decide +kernel
theorem dM_put_72 : decode prog_11_method_17_code 72 = .ok (.iload_n 3, 1) := by decide +kernel
theorem dM_put_73 : decode prog_11_method_17_code 73 = .ok (.invokevirtual 172, 3) := by decide +kernel
theorem dM_put_76 : decode prog_11_method_17_code 76 = .ok (.ireturn, 1) := by decide +kernel
set_option maxRecDepth 100000 in
set_option maxHeartbeats 4000000 in
theorem tM_put_J50 {X : KC} {q : Int × KM} (hX : kOk X 2 prog_11_method_17_code 4 "KeyPathModel") (hR : kRet X (some .int) q) (σ : KM) {Θ : (Int × KM) → Prop} (hT : ∀ z, Θ (z) → z = q) : kJ X 50 [lq 10, none, none, none] [] σ (fM_put_J50 σ) Θ := by
  refine k_bipush hX dM_put_50 (by decide) ?_
  exact k_iret hX hR hT dM_put_52
set_option maxRecDepth 100000 in
set_option maxHeartbeats 4000000 in
theorem sM_put (x1 x2 x3 : Int) (σ : KM) : kSem 2 (⟨"KeyPathModel", "put", "(III)I"⟩ : MethodName) prog_11_method_17_code 4 (some .int) [kr 10, ki x1, ki x2, ki x3] σ (fM_put x1 x2 x3 σ) := by
  refine kSem.of (L0 := [lq 10, li x1, li x2, li x3]) (by decide) (Nat.le_of_ble_eq_true rfl) rfl (fun X q hX hR => ?_)
  have hT : ∀ z : Int × KM, (fun z => z = q) z → z = q := fun _ h => h
  refine k_aload_n hX dM_put_0 rfl ?_
  refine k_iconst hX dM_put_1 ?_
  refine gp_157 hX dM_put_2 (fun τ1 => ?_)
  refine k_iload_n hX dM_put_5 rfl ?_
  refine k_i2l hX dM_put_6 ?_
  refine k_lconst0 hX dM_put_7 ?_
  refine k_ldc2 (v := 511) hX dM_put_8 tw_1174 ?_
  refine cl_120 hX (by decide) (Nat.le_of_ble_eq_true rfl) dM_put_11 (fun r3 τ2 => ?_)
  refine k_if_eq (tgt := 50) hX dM_put_14 (by decide) ?_ ?_
  · refine k_less [true, false, false, false] (L' := [lq 10, none, none, none]) rfl ?_
    exact tM_put_J50 hX hR τ2 hT
  · refine k_iload_n hX dM_put_17 rfl ?_
    refine k_i2l hX dM_put_18 ?_
    refine k_lconst1 hX dM_put_19 ?_
    refine k_ldc2 (v := 64) hX dM_put_20 tw_1161 ?_
    refine cl_120 hX (by decide) (Nat.le_of_ble_eq_true rfl) dM_put_23 (fun r5 τ4 => ?_)
    refine k_if_eq (tgt := 50) hX dM_put_26 (by decide) ?_ ?_
    · refine k_less [true, false, false, false] (L' := [lq 10, none, none, none]) rfl ?_
      exact tM_put_J50 hX hR τ4 hT
    · refine k_iload_n hX dM_put_29 rfl ?_
      refine k_i2l hX dM_put_30 ?_
      refine k_lconst0 hX dM_put_31 ?_
      refine k_ldc2 (v := 127) hX dM_put_32 tw_1152 ?_
      refine cl_120 hX (by decide) (Nat.le_of_ble_eq_true rfl) dM_put_35 (fun r7 τ6 => ?_)
      refine k_if_eq (tgt := 50) hX dM_put_38 (by decide) ?_ ?_
      · refine k_less [true, false, false, false] (L' := [lq 10, none, none, none]) rfl ?_
        exact tM_put_J50 hX hR τ6 hT
      · refine k_iload_n hX dM_put_41 rfl ?_
        refine k_iload_n hX dM_put_42 rfl ?_
        refine k_iadd hX dM_put_43 ?_
        refine k_sipush hX dM_put_44 (by decide) ?_
        refine k_icmp_le (tgt := 53) hX dM_put_47 (by decide) ?_ ?_
        · refine k_aload_n hX dM_put_53 rfl ?_
          refine gf_159 hX dM_put_54 ?_
          refine k_bipush hX dM_put_57 (by decide) ?_
          refine k_icmp_ne (tgt := 65) hX dM_put_59 (by decide) ?_ ?_
          · refine k_aload_n hX dM_put_65 rfl ?_
            refine cl_145 hX (by decide) (Nat.le_of_ble_eq_true rfl) dM_put_66 (fun _ τ8 => ?_)
            refine k_aload_n hX dM_put_69 rfl ?_
            refine k_iload_n hX dM_put_70 rfl ?_
            refine k_iload_n hX dM_put_71 rfl ?_
            refine k_iload_n hX dM_put_72 rfl ?_
            refine cl_150 hX (by decide) (Nat.le_of_ble_eq_true rfl) dM_put_73 (fun r10 τ9 => ?_)
            exact k_iret hX hR hT dM_put_76
          · refine k_bipush hX dM_put_62 (by decide) ?_
            exact k_iret hX hR hT dM_put_64
        · refine k_less [true, false, false, false] (L' := [lq 10, none, none, none]) rfl ?_
          exact tM_put_J50 hX hR τ6 hT
theorem dM_ranked_0 : decode prog_11_method_42_code 0 = .ok (.aload_n 0, 1) := by decide +kernel
theorem dM_ranked_1 : decode prog_11_method_42_code 1 = .ok (.iconst 0, 1) := by decide +kernel
theorem dM_ranked_2 : decode prog_11_method_42_code 2 = .ok (.putfield 1, 3) := by decide +kernel
theorem dM_ranked_5 : decode prog_11_method_42_code 5 = .ok (.aload_n 0, 1) := by decide +kernel
theorem dM_ranked_6 : decode prog_11_method_42_code 6 = .ok (.iload_n 1, 1) := by decide +kernel
theorem dM_ranked_7 : decode prog_11_method_42_code 7 = .ok (.invokevirtual 229, 3) := by decide +kernel
theorem dM_ranked_10 : decode prog_11_method_42_code 10 = .ok (.ifCond .ne 6, 3) := by decide +kernel
theorem dM_ranked_13 : decode prog_11_method_42_code 13 = .ok (.bipush (-2), 2) := by decide +kernel
theorem dM_ranked_15 : decode prog_11_method_42_code 15 = .ok (.ireturn, 1) := by decide +kernel
theorem dM_ranked_16 : decode prog_11_method_42_code 16 = .ok (.iload_n 2, 1) := by decide +kernel
theorem dM_ranked_17 : decode prog_11_method_42_code 17 = .ok (.invokestatic 220, 3) := by decide +kernel
theorem dM_ranked_20 : decode prog_11_method_42_code 20 = .ok (.ifCond .ne 6, 3) := by decide +kernel
theorem dM_ranked_23 : decode prog_11_method_42_code 23 = .ok (.bipush (-3), 2) := by decide +kernel
theorem dM_ranked_25 : decode prog_11_method_42_code 25 = .ok (.ireturn, 1) := by decide +kernel
theorem dM_ranked_26 : decode prog_11_method_42_code 26 = .ok (.aload_n 0, 1) := by decide +kernel
theorem dM_ranked_27 : decode prog_11_method_42_code 27 = .ok (.iload_n 1, 1) := by decide +kernel
theorem dM_ranked_28 : decode prog_11_method_42_code 28 = .ok (.invokevirtual 232, 3) := by decide +kernel
theorem dM_ranked_31 : decode prog_11_method_42_code 31 = .ok (.aload_n 0, 1) := by decide +kernel
theorem dM_ranked_32 : decode prog_11_method_42_code 32 = .ok (.iload_n 2, 1) := by decide +kernel
theorem dM_ranked_33 : decode prog_11_method_42_code 33 = .ok (.invokevirtual 245, 3) := by decide +kernel
theorem dM_ranked_36 : decode prog_11_method_42_code 36 = .ok (.ireturn, 1) := by decide +kernel
set_option maxRecDepth 100000 in
set_option maxHeartbeats 4000000 in
theorem sM_ranked (x1 x2 : Int) (σ : KM) : kSem 5 (⟨"KeyPathModel", "ranked", "(II)I"⟩ : MethodName) prog_11_method_42_code 3 (some .int) [kr 10, ki x1, ki x2] σ (fM_ranked x1 x2 σ) := by
  refine kSem.of (L0 := [lq 10, li x1, li x2]) (by decide) (Nat.le_of_ble_eq_true rfl) rfl (fun X q hX hR => ?_)
  have hT : ∀ z : Int × KM, (fun z => z = q) z → z = q := fun _ h => h
  refine k_aload_n hX dM_ranked_0 rfl ?_
  refine k_iconst hX dM_ranked_1 ?_
  refine gp_157 hX dM_ranked_2 (fun τ1 => ?_)
  refine k_aload_n hX dM_ranked_5 rfl ?_
  refine k_iload_n hX dM_ranked_6 rfl ?_
  refine cl_121 hX (by decide) (Nat.le_of_ble_eq_true rfl) dM_ranked_7 (fun r3 τ2 => ?_)
  refine k_if_ne (tgt := 16) hX dM_ranked_10 (by decide) ?_ ?_
  · refine k_iload_n hX dM_ranked_16 rfl ?_
    refine cl_143 hX (by decide) (Nat.le_of_ble_eq_true rfl) dM_ranked_17 (fun r5 τ4 => ?_)
    refine k_if_ne (tgt := 26) hX dM_ranked_20 (by decide) ?_ ?_
    · refine k_aload_n hX dM_ranked_26 rfl ?_
      refine k_iload_n hX dM_ranked_27 rfl ?_
      refine cl_123 hX (by decide) (Nat.le_of_ble_eq_true rfl) dM_ranked_28 (fun _ τ6 => ?_)
      refine k_aload_n hX dM_ranked_31 rfl ?_
      refine k_iload_n hX dM_ranked_32 rfl ?_
      refine cl_161 hX (by decide) (Nat.le_of_ble_eq_true rfl) dM_ranked_33 (fun r8 τ7 => ?_)
      exact k_iret hX hR hT dM_ranked_36
    · refine k_bipush hX dM_ranked_23 (by decide) ?_
      exact k_iret hX hR hT dM_ranked_25
  · refine k_bipush hX dM_ranked_13 (by decide) ?_
    exact k_iret hX hR hT dM_ranked_15
theorem dM_roman_0 : decode prog_11_method_81_code 0 = .ok (.aload_n 0, 1) := by decide +kernel
theorem dM_roman_1 : decode prog_11_method_81_code 1 = .ok (.iconst 0, 1) := by decide +kernel
theorem dM_roman_2 : decode prog_11_method_81_code 2 = .ok (.putfield 1, 3) := by decide +kernel
theorem dM_roman_5 : decode prog_11_method_81_code 5 = .ok (.aload_n 0, 1) := by decide +kernel
theorem dM_roman_6 : decode prog_11_method_81_code 6 = .ok (.iload_n 1, 1) := by decide +kernel
theorem dM_roman_7 : decode prog_11_method_81_code 7 = .ok (.invokevirtual 229, 3) := by decide +kernel
theorem dM_roman_10 : decode prog_11_method_81_code 10 = .ok (.ifCond .ne 6, 3) := by decide +kernel
theorem dM_roman_13 : decode prog_11_method_81_code 13 = .ok (.bipush (-2), 2) := by decide +kernel
theorem dM_roman_15 : decode prog_11_method_81_code 15 = .ok (.ireturn, 1) := by decide +kernel
theorem dM_roman_16 : decode prog_11_method_81_code 16 = .ok (.aload_n 0, 1) := by decide +kernel
theorem dM_roman_17 : decode prog_11_method_81_code 17 = .ok (.invokevirtual 287, 3) := by decide +kernel
theorem dM_roman_20 : decode prog_11_method_81_code 20 = .ok (.ifCond .eq 11, 3) := by decide +kernel
theorem dM_roman_23 : decode prog_11_method_81_code 23 = .ok (.aload_n 0, 1) := by decide +kernel
theorem dM_roman_24 : decode prog_11_method_81_code 24 = .ok (.iload_n 1, 1) := by decide +kernel
theorem dM_roman_25 : decode prog_11_method_81_code 25 = .ok (.invokevirtual 320, 3) := by decide +kernel
theorem dM_roman_28 : decode prog_11_method_81_code 28 = .ok (.goto 5, 3) := by decide +kernel
theorem dM_roman_31 : decode prog_11_method_81_code 31 = .ok (.bipush (-5), 2) := by decide +kernel
theorem dM_roman_33 : decode prog_11_method_81_code 33 = .ok (.ireturn, 1) := by decide +kernel
set_option maxRecDepth 100000 in
set_option maxHeartbeats 4000000 in
theorem tM_roman_J33 {X : KC} {q : Int × KM} (hX : kOk X 6 prog_11_method_81_code 2 "KeyPathModel") (hR : kRet X (some .int) q) (t0 : Int) (σ : KM) {Θ : (Int × KM) → Prop} (hT : ∀ z, Θ (z) → z = q) : kJ X 33 [lq 10, none] [ki t0] σ (fM_roman_J33 t0 σ) Θ := by
  exact k_iret hX hR hT dM_roman_33
set_option maxRecDepth 100000 in
set_option maxHeartbeats 4000000 in
theorem sM_roman (x1 : Int) (σ : KM) : kSem 6 (⟨"KeyPathModel", "roman", "(I)I"⟩ : MethodName) prog_11_method_81_code 2 (some .int) [kr 10, ki x1] σ (fM_roman x1 σ) := by
  refine kSem.of (L0 := [lq 10, li x1]) (by decide) (Nat.le_of_ble_eq_true rfl) rfl (fun X q hX hR => ?_)
  have hT : ∀ z : Int × KM, (fun z => z = q) z → z = q := fun _ h => h
  refine k_aload_n hX dM_roman_0 rfl ?_
  refine k_iconst hX dM_roman_1 ?_
  refine gp_157 hX dM_roman_2 (fun τ1 => ?_)
  refine k_aload_n hX dM_roman_5 rfl ?_
  refine k_iload_n hX dM_roman_6 rfl ?_
  refine cl_121 hX (by decide) (Nat.le_of_ble_eq_true rfl) dM_roman_7 (fun r3 τ2 => ?_)
  refine k_if_ne (tgt := 16) hX dM_roman_10 (by decide) ?_ ?_
  · refine k_aload_n hX dM_roman_16 rfl ?_
    refine cl_136 hX (by decide) (Nat.le_of_ble_eq_true rfl) dM_roman_17 (fun r5 τ4 => ?_)
    refine k_if_eq (tgt := 31) hX dM_roman_20 (by decide) ?_ ?_
    · refine k_bipush hX dM_roman_31 (by decide) ?_
      refine k_less [true, false] (L' := [lq 10, none]) rfl ?_
      exact tM_roman_J33 hX hR (-5) τ4 hT
    · refine k_aload_n hX dM_roman_23 rfl ?_
      refine k_iload_n hX dM_roman_24 rfl ?_
      refine cl_140 hX (by decide) (Nat.le_of_ble_eq_true rfl) dM_roman_25 (fun r7 τ6 => ?_)
      refine k_goto (tgt := 33) hX dM_roman_28 (by decide) ?_
      refine k_less [true, false] (L' := [lq 10, none]) rfl ?_
      exact tM_roman_J33 hX hR r7 τ6 hT
  · refine k_bipush hX dM_roman_13 (by decide) ?_
    exact k_iret hX hR hT dM_roman_15
theorem dM_second_0 : decode prog_11_method_65_code 0 = .ok (.aload_n 0, 1) := by decide +kernel
theorem dM_second_1 : decode prog_11_method_65_code 1 = .ok (.iconst 0, 1) := by decide +kernel
theorem dM_second_2 : decode prog_11_method_65_code 2 = .ok (.putfield 1, 3) := by decide +kernel
theorem dM_second_5 : decode prog_11_method_65_code 5 = .ok (.iload_n 1, 1) := by decide +kernel
theorem dM_second_6 : decode prog_11_method_65_code 6 = .ok (.i2l, 1) := by decide +kernel
theorem dM_second_7 : decode prog_11_method_65_code 7 = .ok (.lconst 0, 1) := by decide +kernel
theorem dM_second_8 : decode prog_11_method_65_code 8 = .ok (.lconst 1, 1) := by decide +kernel
theorem dM_second_9 : decode prog_11_method_65_code 9 = .ok (.invokestatic 134, 3) := by decide +kernel
theorem dM_second_12 : decode prog_11_method_65_code 12 = .ok (.ifCond .ne 6, 3) := by decide +kernel
theorem dM_second_15 : decode prog_11_method_65_code 15 = .ok (.bipush (-2), 2) := by decide +kernel
theorem dM_second_17 : decode prog_11_method_65_code 17 = .ok (.ireturn, 1) := by decide +kernel
theorem dM_second_18 : decode prog_11_method_65_code 18 = .ok (.aload_n 0, 1) := by decide +kernel
theorem dM_second_19 : decode prog_11_method_65_code 19 = .ok (.invokevirtual 287, 3) := by decide +kernel
theorem dM_second_22 : decode prog_11_method_65_code 22 = .ok (.ifCond .ne 6, 3) := by decide +kernel
theorem dM_second_25 : decode prog_11_method_65_code 25 = .ok (.bipush (-5), 2) := by decide +kernel
theorem dM_second_27 : decode prog_11_method_65_code 27 = .ok (.ireturn, 1) := by decide +kernel
theorem dM_second_28 : decode prog_11_method_65_code 28 = .ok (.ldc 254, 2) := by decide +kernel
theorem dM_second_30 : decode prog_11_method_65_code 30 = .ok (.istore_n 2, 1) := by decide +kernel
theorem dM_second_31 : decode prog_11_method_65_code 31 = .ok (.iconst (-1), 1) := by decide +kernel
theorem dM_second_32 : decode prog_11_method_65_code 32 = .ok (.istore_n 3, 1) := by decide +kernel
theorem dM_second_33 : decode prog_11_method_65_code 33 = .ok (.iconst 0, 1) := by decide +kernel
theorem dM_second_34 : decode prog_11_method_65_code 34 = .ok (.istore 4, 2) := by decide +kernel
theorem dM_second_36 : decode prog_11_method_65_code 36 = .ok (.iconst 0, 1) := by decide +kernel
theorem dM_second_37 : decode prog_11_method_65_code 37 = .ok (.istore 5, 2) := by decide +kernel
theorem dM_second_39 : decode prog_11_method_65_code 39 = .ok (.iload 5, 2) := by decide +kernel
theorem dM_second_41 : decode prog_11_method_65_code 41 = .ok (.aload_n 0, 1) := by decide +kernel
theorem dM_second_42 : decode prog_11_method_65_code 42 = .ok (.getfield 267, 3) := by decide +kernel
theorem dM_second_45 : decode prog_11_method_65_code 45 = .ok (.if_icmp .ge 167, 3) := by decide +kernel
theorem dM_second_48 : decode prog_11_method_65_code 48 = .ok (.iconst 0, 1) := by decide +kernel
theorem dM_second_49 : decode prog_11_method_65_code 49 = .ok (.istore 6, 2) := by decide +kernel
theorem dM_second_51 : decode prog_11_method_65_code 51 = .ok (.iload 6, 2) := by decide +kernel
theorem dM_second_53 : decode prog_11_method_65_code 53 = .ok (.bipush 24, 2) := by decide +kernel
theorem dM_second_55 : decode prog_11_method_65_code 55 = .ok (.if_icmp .ge 92, 3) := by decide +kernel
theorem dM_second_58 : decode prog_11_method_65_code 58 = .ok (.iload 6, 2) := by decide +kernel
theorem dM_second_60 : decode prog_11_method_65_code 60 = .ok (.aload_n 0, 1) := by decide +kernel
theorem dM_second_61 : decode prog_11_method_65_code 61 = .ok (.getfield 90, 3) := by decide +kernel
theorem dM_second_64 : decode prog_11_method_65_code 64 = .ok (.iload 5, 2) := by decide +kernel
theorem dM_second_66 : decode prog_11_method_65_code 66 = .ok (.iaload, 1) := by decide +kernel
theorem dM_second_67 : decode prog_11_method_65_code 67 = .ok (.if_icmp .ne 6, 3) := by decide +kernel
theorem dM_second_70 : decode prog_11_method_65_code 70 = .ok (.goto 71, 3) := by decide +kernel
theorem dM_second_73 : decode prog_11_method_65_code 73 = .ok (.iload 4, 2) := by decide +kernel
theorem dM_second_75 : decode prog_11_method_65_code 75 = .ok (.iload 5, 2) := by decide +kernel
theorem dM_second_77 : decode prog_11_method_65_code 77 = .ok (.ifCond .ne 7, 3) := by decide +kernel
theorem dM_second_80 : decode prog_11_method_65_code 80 = .ok (.iconst 0, 1) := by decide +kernel
theorem dM_second_81 : decode prog_11_method_65_code 81 = .ok (.goto 24, 3) := by decide +kernel
theorem dM_second_84 : decode prog_11_method_65_code 84 = .ok (.aload_n 0, 1) := by decide +kernel
theorem dM_second_85 : decode prog_11_method_65_code 85 = .ok (.aload_n 0, 1) := by decide +kernel
theorem dM_second_86 : decode prog_11_method_65_code 86 = .ok (.getfield 90, 3) := by decide +kernel
theorem dM_second_89 : decode prog_11_method_65_code 89 = .ok (.iload 5, 2) := by decide +kernel
theorem dM_second_91 : decode prog_11_method_65_code 91 = .ok (.iconst 1, 1) := by decide +kernel
theorem dM_second_92 : decode prog_11_method_65_code 92 = .ok (.isub, 1) := by decide +kernel
theorem dM_second_93 : decode prog_11_method_65_code 93 = .ok (.iaload, 1) := by decide +kernel
theorem dM_second_94 : decode prog_11_method_65_code 94 = .ok (.iload 6, 2) := by decide +kernel
theorem dM_second_96 : decode prog_11_method_65_code 96 = .ok (.iload 5, 2) := by decide +kernel
theorem dM_second_98 : decode prog_11_method_65_code 98 = .ok (.aload_n 0, 1) := by decide +kernel
theorem dM_second_99 : decode prog_11_method_65_code 99 = .ok (.getfield 50, 3) := by decide +kernel
theorem dM_second_102 : decode prog_11_method_65_code 102 = .ok (.invokevirtual 270, 3) := by decide +kernel
theorem dM_second_105 : decode prog_11_method_65_code 105 = .ok (.invokestatic 274, 3) := by decide +kernel
theorem dM_second_108 : decode prog_11_method_65_code 108 = .ok (.aload_n 0, 1) := by decide +kernel
theorem dM_second_109 : decode prog_11_method_65_code 109 = .ok (.getfield 84, 3) := by decide +kernel
theorem dM_second_112 : decode prog_11_method_65_code 112 = .ok (.bipush 24, 2) := by decide +kernel
theorem dM_second_114 : decode prog_11_method_65_code 114 = .ok (.iload 5, 2) := by decide +kernel
theorem dM_second_116 : decode prog_11_method_65_code 116 = .ok (.imul, 1) := by decide +kernel
theorem dM_second_117 : decode prog_11_method_65_code 117 = .ok (.iload 6, 2) := by decide +kernel
theorem dM_second_119 : decode prog_11_method_65_code 119 = .ok (.iadd, 1) := by decide +kernel
theorem dM_second_120 : decode prog_11_method_65_code 120 = .ok (.iaload, 1) := by decide +kernel
theorem dM_second_121 : decode prog_11_method_65_code 121 = .ok (.invokestatic 274, 3) := by decide +kernel
theorem dM_second_124 : decode prog_11_method_65_code 124 = .ok (.istore 7, 2) := by decide +kernel
theorem dM_second_126 : decode prog_11_method_65_code 126 = .ok (.iload 7, 2) := by decide +kernel
theorem dM_second_128 : decode prog_11_method_65_code 128 = .ok (.iload_n 2, 1) := by decide +kernel
theorem dM_second_129 : decode prog_11_method_65_code 129 = .ok (.if_icmp .lt 6, 3) := by decide +kernel
theorem dM_second_132 : decode prog_11_method_65_code 132 = .ok (.goto 9, 3) := by decide +kernel
theorem dM_second_135 : decode prog_11_method_65_code 135 = .ok (.iload 7, 2) := by decide +kernel
theorem dM_second_137 : decode prog_11_method_65_code 137 = .ok (.istore_n 2, 1) := by decide +kernel
theorem dM_second_138 : decode prog_11_method_65_code 138 = .ok (.iload 5, 2) := by decide +kernel
theorem dM_second_140 : decode prog_11_method_65_code 140 = .ok (.istore_n 3, 1) := by decide +kernel
theorem dM_second_141 : decode prog_11_method_65_code 141 = .ok (.iinc 6 1, 3) := by decide +kernel
theorem dM_second_144 : decode prog_11_method_65_code 144 = .ok (.goto (-93), 3) := by decide +kernel
theorem dM_second_147 : decode prog_11_method_65_code 147 = .ok (.iload 4, 2) := by decide +kernel
theorem dM_second_149 : decode prog_11_method_65_code 149 = .ok (.aload_n 0, 1) := by decide +kernel
theorem dM_second_150 : decode prog_11_method_65_code 150 = .ok (.getfield 78, 3) := by decide +kernel
theorem dM_second_153 : decode prog_11_method_65_code 153 = .ok (.bipush 24, 2) := by decide +kernel
theorem dM_second_155 : decode prog_11_method_65_code 155 = .ok (.iload 5, 2) := by decide +kernel
theorem dM_second_157 : decode prog_11_method_65_code 157 = .ok (.imul, 1) := by decide +kernel
theorem dM_second_158 : decode prog_11_method_65_code 158 = .ok (.aload_n 0, 1) := by decide +kernel
theorem dM_second_159 : decode prog_11_method_65_code 159 = .ok (.getfield 90, 3) := by decide +kernel
theorem dM_second_162 : decode prog_11_method_65_code 162 = .ok (.iload 5, 2) := by decide +kernel
theorem dM_second_164 : decode prog_11_method_65_code 164 = .ok (.iaload, 1) := by decide +kernel
theorem dM_second_165 : decode prog_11_method_65_code 165 = .ok (.iadd, 1) := by decide +kernel
theorem dM_second_166 : decode prog_11_method_65_code 166 = .ok (.iaload, 1) := by decide +kernel
theorem dM_second_167 : decode prog_11_method_65_code 167 = .ok (.iload 5, 2) := by decide +kernel
theorem dM_second_169 : decode prog_11_method_65_code 169 = .ok (.ifCond .ne 7, 3) := by decide +kernel
theorem dM_second_172 : decode prog_11_method_65_code 172 = .ok (.iconst 0, 1) := by decide +kernel
theorem dM_second_173 : decode prog_11_method_65_code 173 = .ok (.goto 29, 3) := by decide +kernel
theorem dM_second_176 : decode prog_11_method_65_code 176 = .ok (.aload_n 0, 1) := by decide +kernel
theorem dM_second_177 : decode prog_11_method_65_code 177 = .ok (.aload_n 0, 1) := by decide +kernel
theorem dM_second_178 : decode prog_11_method_65_code 178 = .ok (.getfield 90, 3) := by decide +kernel
theorem dM_second_181 : decode prog_11_method_65_code 181 = .ok (.iload 5, 2) := by decide +kernel
theorem dM_second_183 : decode prog_11_method_65_code 183 = .ok (.iconst 1, 1) := by decide +kernel
theorem dM_second_184 : decode prog_11_method_65_code 184 = .ok (.isub, 1) := by decide +kernel
theorem dM_second_185 : decode prog_11_method_65_code 185 = .ok (.iaload, 1) := by decide +kernel
theorem dM_second_186 : decode prog_11_method_65_code 186 = .ok (.aload_n 0, 1) := by decide +kernel
theorem dM_second_187 : decode prog_11_method_65_code 187 = .ok (.getfield 90, 3) := by decide +kernel
theorem dM_second_190 : decode prog_11_method_65_code 190 = .ok (.iload 5, 2) := by decide +kernel
theorem dM_second_192 : decode prog_11_method_65_code 192 = .ok (.iaload, 1) := by decide +kernel
theorem dM_second_193 : decode prog_11_method_65_code 193 = .ok (.iload 5, 2) := by decide +kernel
theorem dM_second_195 : decode prog_11_method_65_code 195 = .ok (.aload_n 0, 1) := by decide +kernel
theorem dM_second_196 : decode prog_11_method_65_code 196 = .ok (.getfield 50, 3) := by decide +kernel
theorem dM_second_199 : decode prog_11_method_65_code 199 = .ok (.invokevirtual 270, 3) := by decide +kernel
theorem dM_second_202 : decode prog_11_method_65_code 202 = .ok (.iadd, 1) := by decide +kernel
theorem dM_second_203 : decode prog_11_method_65_code 203 = .ok (.iadd, 1) := by decide +kernel
theorem dM_second_204 : decode prog_11_method_65_code 204 = .ok (.istore 4, 2) := by decide +kernel
theorem dM_second_206 : decode prog_11_method_65_code 206 = .ok (.iinc 5 1, 3) := by decide +kernel
theorem dM_second_209 : decode prog_11_method_65_code 209 = .ok (.goto (-170), 3) := by decide +kernel
theorem dM_second_212 : decode prog_11_method_65_code 212 = .ok (.iload_n 2, 1) := by decide +kernel
theorem dM_second_213 : decode prog_11_method_65_code 213 = .ok (.ldc 254, 2) := by decide +kernel
theorem dM_second_215 : decode prog_11_method_65_code 215 = .ok (.if_icmp .lt 7, 3) := by decide +kernel
theorem dM_second_218 : decode prog_11_method_65_code 218 = .ok (.iconst (-1), 1) := by decide +kernel
theorem dM_second_219 : decode prog_11_method_65_code 219 = .ok (.goto 12, 3) := by decide +kernel
theorem dM_second_222 : decode prog_11_method_65_code 222 = .ok (.iload_n 1, 1) := by decide +kernel
theorem dM_second_223 : decode prog_11_method_65_code 223 = .ok (.ifCond .ne 7, 3) := by decide +kernel
theorem dM_second_226 : decode prog_11_method_65_code 226 = .ok (.iload_n 2, 1) := by decide +kernel
theorem dM_second_227 : decode prog_11_method_65_code 227 = .ok (.goto 4, 3) := by decide +kernel
theorem dM_second_230 : decode prog_11_method_65_code 230 = .ok (.iload_n 3, 1) := by decide +kernel
theorem dM_second_231 : decode prog_11_method_65_code 231 = .ok (.ireturn, 1) := by decide +kernel
set_option maxRecDepth 100000 in
set_option maxHeartbeats 4000000 in
theorem tM_second_J231 {X : KC} {q : Int × KM} (hX : kOk X 6 prog_11_method_65_code 8 "KeyPathModel") (hR : kRet X (some .int) q) (t0 : Int) (σ : KM) {Θ : (Int × KM) → Prop} (hT : ∀ z, Θ (z) → z = q) : kJ X 231 [lq 10, none, none, none, none, none, none, none] [ki t0] σ (fM_second_J231 t0 σ) Θ := by
  exact k_iret hX hR hT dM_second_231
set_option maxRecDepth 100000 in
set_option maxHeartbeats 4000000 in
theorem tM_second_J212 {X : KC} {q : Int × KM} (hX : kOk X 6 prog_11_method_65_code 8 "KeyPathModel") (hR : kRet X (some .int) q) (x1 x2 x3 : Int) (σ : KM) {Θ : (Int × KM) → Prop} (hT : ∀ z, Θ (z) → z = q) : kJ X 212 [lq 10, li x1, li x2, li x3, none, none, none, none] [] σ (fM_second_J212 x1 x2 x3 σ) Θ := by
  refine k_iload_n hX dM_second_212 rfl ?_
  refine k_ldc (v := 1000000000) (w := 0) hX dM_second_213 tw_1309 ?_
  refine k_icmp_lt (tgt := 222) hX dM_second_215 (by decide) ?_ ?_
  · refine k_iload_n hX dM_second_222 rfl ?_
    refine k_if_ne (tgt := 230) hX dM_second_223 (by decide) ?_ ?_
    · refine k_iload_n hX dM_second_230 rfl ?_
      refine k_less [true, false, false, false, true, true, true, true] (L' := [lq 10, none, none, none, none, none, none, none]) rfl ?_
      exact tM_second_J231 hX hR x3 σ hT
    · refine k_iload_n hX dM_second_226 rfl ?_
      refine k_goto (tgt := 231) hX dM_second_227 (by decide) ?_
      refine k_less [true, false, false, false, true, true, true, true] (L' := [lq 10, none, none, none, none, none, none, none]) rfl ?_
      exact tM_second_J231 hX hR x2 σ hT
  · refine k_iconst hX dM_second_218 ?_
    refine k_goto (tgt := 231) hX dM_second_219 (by decide) ?_
    refine k_less [true, false, false, false, true, true, true, true] (L' := [lq 10, none, none, none, none, none, none, none]) rfl ?_
    exact tM_second_J231 hX hR (-1) σ hT
set_option maxRecDepth 100000 in
set_option maxHeartbeats 4000000 in
theorem tM_second_J202 {X : KC} {q : Int × KM} (hX : kOk X 6 prog_11_method_65_code 8 "KeyPathModel") (hR : kRet X (some .int) q) (x1 x2 x3 x5 t0 t1 t2 : Int) (σ : KM) {Θ : ((Int × Int × Int × Int × KM) ⊕ (Int × KM)) → Prop} (hT : ∀ z, Θ (.inr (z)) → z = q) (hb0 : ∀ s : Int × Int × Int × Int × KM, Θ (.inl s) → kW X 39 [lq 10, li x1, li s.1, li s.2.1, li s.2.2.1, li s.2.2.2.1, none, none] [] s.2.2.2.2) : kJ X 202 [lq 10, li x1, li x2, li x3, none, li x5, none, none] [ki t0, ki t1, ki t2] σ (fM_second_J202 x1 x2 x3 x5 t0 t1 t2 σ) Θ := by
  refine k_iadd hX dM_second_202 ?_
  refine k_iadd hX dM_second_203 ?_
  refine k_istoreL (Lf := fun y1 => [lq 10, li x1, li x2, li x3, li y1, li x5, none, none]) hX dM_second_204 rfl (by decide) (fun _ => rfl) (fun y1 => ?_)
  refine k_iincL (Lf := fun y2 => [lq 10, li x1, li x2, li x3, li y1, li y2, none, none]) hX dM_second_206 rfl (by decide) rfl (fun _ => rfl) (fun y2 => ?_)
  refine k_goto (tgt := 39) hX dM_second_209 (by decide) ?_
  exact k_back (hb0 (x2, x3, y1, y2, σ))
set_option maxRecDepth 100000 in
set_option maxHeartbeats 4000000 in
theorem tM_second_J147 {X : KC} {q : Int × KM} (hX : kOk X 6 prog_11_method_65_code 8 "KeyPathModel") (hR : kRet X (some .int) q) (x1 x2 x3 x4 x5 : Int) (σ : KM) {Θ : ((Int × Int × Int × Int × KM) ⊕ (Int × KM)) → Prop} (hT : ∀ z, Θ (.inr (z)) → z = q) (hb0 : ∀ s : Int × Int × Int × Int × KM, Θ (.inl s) → kW X 39 [lq 10, li x1, li s.1, li s.2.1, li s.2.2.1, li s.2.2.2.1, none, none] [] s.2.2.2.2) : kJ X 147 [lq 10, li x1, li x2, li x3, li x4, li x5, none, none] [] σ (fM_second_J147 x1 x2 x3 x4 x5 σ) Θ := by
  refine k_iload hX dM_second_147 rfl ?_
  refine k_aload_n hX dM_second_149 rfl ?_
  refine gf_176 hX dM_second_150 ?_
  refine k_bipush hX dM_second_153 (by decide) ?_
  refine k_iload hX dM_second_155 rfl ?_
  refine k_imul hX dM_second_157 ?_
  refine k_aload_n hX dM_second_158 rfl ?_
  refine gf_182 hX dM_second_159 ?_
  refine k_iload hX dM_second_162 rfl ?_
  refine k_iald hX (by decide) rfl dM_second_164 rfl (fun y1 => ?_)
  refine k_iadd hX dM_second_165 ?_
  refine k_iald hX (by decide) rfl dM_second_166 rfl (fun y2 => ?_)
  refine k_iload hX dM_second_167 rfl ?_
  refine k_if_ne (tgt := 176) hX dM_second_169 (by decide) ?_ ?_
  · refine k_aload_n hX dM_second_176 rfl ?_
    refine k_aload_n hX dM_second_177 rfl ?_
    refine gf_182 hX dM_second_178 ?_
    refine k_iload hX dM_second_181 rfl ?_
    refine k_iconst hX dM_second_183 ?_
    refine k_isub hX dM_second_184 ?_
    refine k_iald hX (by decide) rfl dM_second_185 rfl (fun y3 => ?_)
    refine k_aload_n hX dM_second_186 rfl ?_
    refine gf_182 hX dM_second_187 ?_
    refine k_iload hX dM_second_190 rfl ?_
    refine k_iald hX (by decide) rfl dM_second_192 rfl (fun y4 => ?_)
    refine k_iload hX dM_second_193 rfl ?_
    refine k_aload_n hX dM_second_195 rfl ?_
    refine gf_179 hX dM_second_196 ?_
    refine cl_133 hX (by decide) (Nat.le_of_ble_eq_true rfl) dM_second_199 (fun r6 τ5 => ?_)
    refine k_less [true, true, true, true, false, true, true, true] (L' := [lq 10, li x1, li x2, li x3, none, li x5, none, none]) rfl ?_
    exact tM_second_J202 hX hR x1 x2 x3 x5 r6 y2 x4 τ5 hT hb0
  · refine k_iconst hX dM_second_172 ?_
    refine k_goto (tgt := 202) hX dM_second_173 (by decide) ?_
    refine k_less [true, true, true, true, false, true, true, true] (L' := [lq 10, li x1, li x2, li x3, none, li x5, none, none]) rfl ?_
    exact tM_second_J202 hX hR x1 x2 x3 x5 0 y2 x4 σ hT hb0
set_option maxRecDepth 100000 in
set_option maxHeartbeats 4000000 in
theorem tM_second_J141 {X : KC} {q : Int × KM} (hX : kOk X 6 prog_11_method_65_code 8 "KeyPathModel") (hR : kRet X (some .int) q) (x1 x2 x3 x4 x5 x6 : Int) (σ : KM) {Θ : ((Int × Int × Int × KM) ⊕ ((Int × Int × Int × Int × KM) ⊕ (Int × KM))) → Prop} (hT : ∀ z, Θ (.inr (.inr (z))) → z = q) (hb0 : ∀ s : Int × Int × Int × KM, Θ (.inl s) → kW X 51 [lq 10, li x1, li s.1, li s.2.1, li x4, li x5, li s.2.2.1, none] [] s.2.2.2) (hb1 : ∀ s : Int × Int × Int × Int × KM, Θ (.inr (.inl s)) → kW X 39 [lq 10, li x1, li s.1, li s.2.1, li s.2.2.1, li s.2.2.2.1, none, none] [] s.2.2.2.2) : kJ X 141 [lq 10, li x1, li x2, li x3, li x4, li x5, li x6, none] [] σ (fM_second_J141 x1 x2 x3 x4 x5 x6 σ) Θ := by
  refine k_iincL (Lf := fun y1 => [lq 10, li x1, li x2, li x3, li x4, li x5, li y1, none]) hX dM_second_141 rfl (by decide) rfl (fun _ => rfl) (fun y1 => ?_)
  refine k_goto (tgt := 51) hX dM_second_144 (by decide) ?_
  exact k_back (hb0 (x2, x3, y1, σ))
set_option maxRecDepth 100000 in
set_option maxHeartbeats 4000000 in
theorem tM_second_J105 {X : KC} {q : Int × KM} (hX : kOk X 6 prog_11_method_65_code 8 "KeyPathModel") (hR : kRet X (some .int) q) (x1 x2 x3 x4 x5 x6 t0 t1 : Int) (σ : KM) {Θ : ((Int × Int × Int × KM) ⊕ ((Int × Int × Int × Int × KM) ⊕ (Int × KM))) → Prop} (hT : ∀ z, Θ (.inr (.inr (z))) → z = q) (hb0 : ∀ s : Int × Int × Int × KM, Θ (.inl s) → kW X 51 [lq 10, li x1, li s.1, li s.2.1, li x4, li x5, li s.2.2.1, none] [] s.2.2.2) (hb1 : ∀ s : Int × Int × Int × Int × KM, Θ (.inr (.inl s)) → kW X 39 [lq 10, li x1, li s.1, li s.2.1, li s.2.2.1, li s.2.2.2.1, none, none] [] s.2.2.2.2) : kJ X 105 [lq 10, li x1, li x2, li x3, li x4, li x5, li x6, none] [ki t0, ki t1] σ (fM_second_J105 x1 x2 x3 x4 x5 x6 t0 t1 σ) Θ := by
  refine cl_134 hX (by decide) (Nat.le_of_ble_eq_true rfl) dM_second_105 (fun r2 τ1 => ?_)
  refine k_aload_n hX dM_second_108 rfl ?_
  refine gf_183 hX dM_second_109 ?_
  refine k_bipush hX dM_second_112 (by decide) ?_
  refine k_iload hX dM_second_114 rfl ?_
  refine k_imul hX dM_second_116 ?_
  refine k_iload hX dM_second_117 rfl ?_
  refine k_iadd hX dM_second_119 ?_
  refine k_iald hX (by decide) rfl dM_second_120 rfl (fun y3 => ?_)
  refine cl_134 hX (by decide) (Nat.le_of_ble_eq_true rfl) dM_second_121 (fun r5 τ4 => ?_)
  refine k_istore (L' := [lq 10, li x1, li x2, li x3, li x4, li x5, li x6, li r5]) hX dM_second_124 rfl (by decide) rfl ?_
  refine k_iload hX dM_second_126 rfl ?_
  refine k_iload_n hX dM_second_128 rfl ?_
  refine k_icmp_lt (tgt := 135) hX dM_second_129 (by decide) ?_ ?_
  · refine k_iload hX dM_second_135 rfl ?_
    refine k_istore_n (L' := [lq 10, li x1, li r5, li x3, li x4, li x5, li x6, li r5]) hX dM_second_137 rfl (by decide) rfl ?_
    refine k_iload hX dM_second_138 rfl ?_
    refine k_istore_n (L' := [lq 10, li x1, li r5, li x5, li x4, li x5, li x6, li r5]) hX dM_second_140 rfl (by decide) rfl ?_
    refine k_less [true, true, true, true, true, true, true, false] (L' := [lq 10, li x1, li r5, li x5, li x4, li x5, li x6, none]) rfl ?_
    exact tM_second_J141 hX hR x1 r5 x5 x4 x5 x6 τ4 hT hb0 hb1
  · refine k_goto (tgt := 141) hX dM_second_132 (by decide) ?_
    refine k_less [true, true, true, true, true, true, true, false] (L' := [lq 10, li x1, li x2, li x3, li x4, li x5, li x6, none]) rfl ?_
    exact tM_second_J141 hX hR x1 x2 x3 x4 x5 x6 τ4 hT hb0 hb1
set_option maxRecDepth 100000 in
set_option maxHeartbeats 4000000 in
theorem tM_second_B51 {X : KC} {q : Int × KM} (hX : kOk X 6 prog_11_method_65_code 8 "KeyPathModel") (hR : kRet X (some .int) q) (x1 x4 x5 x2 x3 x6 : Int) (σ : KM) {Θ : ((Int × Int × Int × KM) ⊕ ((Int × Int × Int × Int × KM) ⊕ (Int × KM))) → Prop} (hT : ∀ z, Θ (.inr (.inr (z))) → z = q) (hb0 : ∀ s : Int × Int × Int × KM, Θ (.inl s) → kW X 51 [lq 10, li x1, li s.1, li s.2.1, li x4, li x5, li s.2.2.1, none] [] s.2.2.2) (hb1 : ∀ s : Int × Int × Int × Int × KM, Θ (.inr (.inl s)) → kW X 39 [lq 10, li x1, li s.1, li s.2.1, li s.2.2.1, li s.2.2.2.1, none, none] [] s.2.2.2.2) : kJ X 51 [lq 10, li x1, li x2, li x3, li x4, li x5, li x6, none] [] σ (fM_second_B51 x1 x4 x5 x2 x3 x6 σ) Θ := by
  refine k_iload hX dM_second_51 rfl ?_
  refine k_bipush hX dM_second_53 (by decide) ?_
  refine k_icmp_ge (tgt := 147) hX dM_second_55 (by decide) ?_ ?_
  · refine k_exit ?_
    refine k_less [true, true, true, true, true, true, false, true] (L' := [lq 10, li x1, li x2, li x3, li x4, li x5, none, none]) rfl ?_
    exact tM_second_J147 hX hR x1 x2 x3 x4 x5 σ hT hb1
  · refine k_iload hX dM_second_58 rfl ?_
    refine k_aload_n hX dM_second_60 rfl ?_
    refine gf_182 hX dM_second_61 ?_
    refine k_iload hX dM_second_64 rfl ?_
    refine k_iald hX (by decide) rfl dM_second_66 rfl (fun y1 => ?_)
    refine k_icmp_ne (tgt := 73) hX dM_second_67 (by decide) ?_ ?_
    · refine k_iload hX dM_second_73 rfl ?_
      refine k_iload hX dM_second_75 rfl ?_
      refine k_if_ne (tgt := 84) hX dM_second_77 (by decide) ?_ ?_
      · refine k_aload_n hX dM_second_84 rfl ?_
        refine k_aload_n hX dM_second_85 rfl ?_
        refine gf_182 hX dM_second_86 ?_
        refine k_iload hX dM_second_89 rfl ?_
        refine k_iconst hX dM_second_91 ?_
        refine k_isub hX dM_second_92 ?_
        refine k_iald hX (by decide) rfl dM_second_93 rfl (fun y2 => ?_)
        refine k_iload hX dM_second_94 rfl ?_
        refine k_iload hX dM_second_96 rfl ?_
        refine k_aload_n hX dM_second_98 rfl ?_
        refine gf_179 hX dM_second_99 ?_
        refine cl_133 hX (by decide) (Nat.le_of_ble_eq_true rfl) dM_second_102 (fun r4 τ3 => ?_)
        exact tM_second_J105 hX hR x1 x2 x3 x4 x5 x6 r4 x4 τ3 hT hb0 hb1
      · refine k_iconst hX dM_second_80 ?_
        refine k_goto (tgt := 105) hX dM_second_81 (by decide) ?_
        exact tM_second_J105 hX hR x1 x2 x3 x4 x5 x6 0 x4 σ hT hb0 hb1
    · refine k_goto (tgt := 141) hX dM_second_70 (by decide) ?_
      exact tM_second_J141 hX hR x1 x2 x3 x4 x5 x6 σ hT hb0 hb1
set_option maxRecDepth 100000 in
set_option maxHeartbeats 4000000 in
theorem tM_second_L51 {X : KC} {q : Int × KM} (hX : kOk X 6 prog_11_method_65_code 8 "KeyPathModel") (hR : kRet X (some .int) q) (x1 x4 x5 x2 x3 x6 : Int) (σ : KM) {Θ : ((Int × Int × Int × Int × KM) ⊕ (Int × KM)) → Prop} (hT : ∀ z, Θ (.inr (z)) → z = q) (hb0 : ∀ s : Int × Int × Int × Int × KM, Θ (.inl s) → kW X 39 [lq 10, li x1, li s.1, li s.2.1, li s.2.2.1, li s.2.2.2.1, none, none] [] s.2.2.2.2) : kJ X 51 [lq 10, li x1, li x2, li x3, li x4, li x5, li x6, none] [] σ (fM_second_L51 x1 x4 x5 x2 x3 x6 σ) Θ :=
  k_iter (f := fun s => fM_second_B51 x1 x4 x5 s.1 s.2.1 s.2.2.1 s.2.2.2) (Lf := fun s => [lq 10, li x1, li s.1, li s.2.1, li x4, li x5, li s.2.2.1, none]) (mf := fun s => s.2.2.2) (Θ := Θ) (fun s => tM_second_B51 hX hR x1 x4 x5 s.1 s.2.1 s.2.2.1 s.2.2.2 hT (fun _ h9 => h9) hb0) kF (x2, x3, x6, σ)
set_option maxRecDepth 100000 in
set_option maxHeartbeats 4000000 in
theorem tM_second_B39 {X : KC} {q : Int × KM} (hX : kOk X 6 prog_11_method_65_code 8 "KeyPathModel") (hR : kRet X (some .int) q) (x1 x2 x3 x4 x5 : Int) (σ : KM) {Θ : ((Int × Int × Int × Int × KM) ⊕ (Int × KM)) → Prop} (hT : ∀ z, Θ (.inr (z)) → z = q) (hb0 : ∀ s : Int × Int × Int × Int × KM, Θ (.inl s) → kW X 39 [lq 10, li x1, li s.1, li s.2.1, li s.2.2.1, li s.2.2.2.1, none, none] [] s.2.2.2.2) : kJ X 39 [lq 10, li x1, li x2, li x3, li x4, li x5, none, none] [] σ (fM_second_B39 x1 x2 x3 x4 x5 σ) Θ := by
  refine k_iload hX dM_second_39 rfl ?_
  refine k_aload_n hX dM_second_41 rfl ?_
  refine gf_174 hX dM_second_42 ?_
  refine k_icmp_ge (tgt := 212) hX dM_second_45 (by decide) ?_ ?_
  · refine k_exit ?_
    refine k_less [true, true, true, true, false, false, true, true] (L' := [lq 10, li x1, li x2, li x3, none, none, none, none]) rfl ?_
    exact tM_second_J212 hX hR x1 x2 x3 σ hT
  · refine k_iconst hX dM_second_48 ?_
    refine k_istore (L' := [lq 10, li x1, li x2, li x3, li x4, li x5, li 0, none]) hX dM_second_49 rfl (by decide) rfl ?_
    exact tM_second_L51 hX hR x1 x4 x5 x2 x3 0 σ hT hb0
set_option maxRecDepth 100000 in
set_option maxHeartbeats 4000000 in
theorem tM_second_L39 {X : KC} {q : Int × KM} (hX : kOk X 6 prog_11_method_65_code 8 "KeyPathModel") (hR : kRet X (some .int) q) (x1 x2 x3 x4 x5 : Int) (σ : KM) {Θ : (Int × KM) → Prop} (hT : ∀ z, Θ (z) → z = q) : kJ X 39 [lq 10, li x1, li x2, li x3, li x4, li x5, none, none] [] σ (fM_second_L39 x1 x2 x3 x4 x5 σ) Θ :=
  k_iter (f := fun s => fM_second_B39 x1 s.1 s.2.1 s.2.2.1 s.2.2.2.1 s.2.2.2.2) (Lf := fun s => [lq 10, li x1, li s.1, li s.2.1, li s.2.2.1, li s.2.2.2.1, none, none]) (mf := fun s => s.2.2.2.2) (Θ := Θ) (fun s => tM_second_B39 hX hR x1 s.1 s.2.1 s.2.2.1 s.2.2.2.1 s.2.2.2.2 hT (fun _ h9 => h9)) kF (x2, x3, x4, x5, σ)
set_option maxRecDepth 100000 in
set_option maxHeartbeats 4000000 in
theorem sM_second (x1 : Int) (σ : KM) : kSem 6 (⟨"KeyPathModel", "second", "(I)I"⟩ : MethodName) prog_11_method_65_code 8 (some .int) [kr 10, ki x1] σ (fM_second x1 σ) := by
  refine kSem.of (L0 := [lq 10, li x1, none, none, none, none, none, none]) (by decide) (Nat.le_of_ble_eq_true rfl) rfl (fun X q hX hR => ?_)
  have hT : ∀ z : Int × KM, (fun z => z = q) z → z = q := fun _ h => h
  refine k_aload_n hX dM_second_0 rfl ?_
  refine k_iconst hX dM_second_1 ?_
  refine gp_157 hX dM_second_2 (fun τ1 => ?_)
  refine k_iload_n hX dM_second_5 rfl ?_
  refine k_i2l hX dM_second_6 ?_
  refine k_lconst0 hX dM_second_7 ?_
  refine k_lconst1 hX dM_second_8 ?_
  refine cl_120 hX (by decide) (Nat.le_of_ble_eq_true rfl) dM_second_9 (fun r3 τ2 => ?_)
  refine k_if_ne (tgt := 18) hX dM_second_12 (by decide) ?_ ?_
  · refine k_aload_n hX dM_second_18 rfl ?_
    refine cl_136 hX (by decide) (Nat.le_of_ble_eq_true rfl) dM_second_19 (fun r5 τ4 => ?_)
    refine k_if_ne (tgt := 28) hX dM_second_22 (by decide) ?_ ?_
    · refine k_ldc (v := 1000000000) (w := 0) hX dM_second_28 tw_1309 ?_
      refine k_istore_n (L' := [lq 10, li x1, li 1000000000, none, none, none, none, none]) hX dM_second_30 rfl (by decide) rfl ?_
      refine k_iconst hX dM_second_31 ?_
      refine k_istore_n (L' := [lq 10, li x1, li 1000000000, li (-1), none, none, none, none]) hX dM_second_32 rfl (by decide) rfl ?_
      refine k_iconst hX dM_second_33 ?_
      refine k_istore (L' := [lq 10, li x1, li 1000000000, li (-1), li 0, none, none, none]) hX dM_second_34 rfl (by decide) rfl ?_
      refine k_iconst hX dM_second_36 ?_
      refine k_istore (L' := [lq 10, li x1, li 1000000000, li (-1), li 0, li 0, none, none]) hX dM_second_37 rfl (by decide) rfl ?_
      exact tM_second_L39 hX hR x1 1000000000 (-1) 0 0 τ4 hT
    · refine k_bipush hX dM_second_25 (by decide) ?_
      exact k_iret hX hR hT dM_second_27
  · refine k_bipush hX dM_second_15 (by decide) ?_
    exact k_iret hX hR hT dM_second_17
theorem dM_segment_0 : decode prog_11_method_74_code 0 = .ok (.aload_n 0, 1) := by decide +kernel
theorem dM_segment_1 : decode prog_11_method_74_code 1 = .ok (.iconst 0, 1) := by decide +kernel
theorem dM_segment_2 : decode prog_11_method_74_code 2 = .ok (.putfield 1, 3) := by decide +kernel
theorem dM_segment_5 : decode prog_11_method_74_code 5 = .ok (.aload_n 0, 1) := by decide +kernel
theorem dM_segment_6 : decode prog_11_method_74_code 6 = .ok (.invokevirtual 287, 3) := by decide +kernel
theorem dM_segment_9 : decode prog_11_method_74_code 9 = .ok (.ifCond .ne 6, 3) := by decide +kernel
theorem dM_segment_12 : decode prog_11_method_74_code 12 = .ok (.bipush (-5), 2) := by decide +kernel
theorem dM_segment_14 : decode prog_11_method_74_code 14 = .ok (.ireturn, 1) := by decide +kernel
theorem dM_segment_15 : decode prog_11_method_74_code 15 = .ok (.iload_n 1, 1) := by decide +kernel
theorem dM_segment_16 : decode prog_11_method_74_code 16 = .ok (.i2l, 1) := by decide +kernel
theorem dM_segment_17 : decode prog_11_method_74_code 17 = .ok (.lconst 0, 1) := by decide +kernel
theorem dM_segment_18 : decode prog_11_method_74_code 18 = .ok (.aload_n 0, 1) := by decide +kernel
theorem dM_segment_19 : decode prog_11_method_74_code 19 = .ok (.invokevirtual 306, 3) := by decide +kernel
theorem dM_segment_22 : decode prog_11_method_74_code 22 = .ok (.iconst 1, 1) := by decide +kernel
theorem dM_segment_23 : decode prog_11_method_74_code 23 = .ok (.isub, 1) := by decide +kernel
theorem dM_segment_24 : decode prog_11_method_74_code 24 = .ok (.i2l, 1) := by decide +kernel
theorem dM_segment_25 : decode prog_11_method_74_code 25 = .ok (.invokestatic 134, 3) := by decide +kernel
theorem dM_segment_28 : decode prog_11_method_74_code 28 = .ok (.ifCond .eq 15, 3) := by decide +kernel
theorem dM_segment_31 : decode prog_11_method_74_code 31 = .ok (.iload_n 2, 1) := by decide +kernel
theorem dM_segment_32 : decode prog_11_method_74_code 32 = .ok (.i2l, 1) := by decide +kernel
theorem dM_segment_33 : decode prog_11_method_74_code 33 = .ok (.lconst 0, 1) := by decide +kernel
theorem dM_segment_34 : decode prog_11_method_74_code 34 = .ok (.ldc2_w 190, 3) := by decide +kernel
theorem dM_segment_37 : decode prog_11_method_74_code 37 = .ok (.invokestatic 134, 3) := by decide +kernel
theorem dM_segment_40 : decode prog_11_method_74_code 40 = .ok (.ifCond .ne 6, 3) := by decide +kernel
theorem dM_segment_43 : decode prog_11_method_74_code 43 = .ok (.bipush (-2), 2) := by decide +kernel
theorem dM_segment_45 : decode prog_11_method_74_code 45 = .ok (.ireturn, 1) := by decide +kernel
theorem dM_segment_46 : decode prog_11_method_74_code 46 = .ok (.aload_n 0, 1) := by decide +kernel
theorem dM_segment_47 : decode prog_11_method_74_code 47 = .ok (.iload_n 1, 1) := by decide +kernel
theorem dM_segment_48 : decode prog_11_method_74_code 48 = .ok (.invokevirtual 309, 3) := by decide +kernel
theorem dM_segment_51 : decode prog_11_method_74_code 51 = .ok (.istore_n 3, 1) := by decide +kernel
theorem dM_segment_52 : decode prog_11_method_74_code 52 = .ok (.iload_n 2, 1) := by decide +kernel
theorem dM_segment_53 : decode prog_11_method_74_code 53 = .ok (.ifCond .ne 7, 3) := by decide +kernel
theorem dM_segment_56 : decode prog_11_method_74_code 56 = .ok (.iload_n 3, 1) := by decide +kernel
theorem dM_segment_57 : decode prog_11_method_74_code 57 = .ok (.goto 40, 3) := by decide +kernel
theorem dM_segment_60 : decode prog_11_method_74_code 60 = .ok (.iload_n 2, 1) := by decide +kernel
theorem dM_segment_61 : decode prog_11_method_74_code 61 = .ok (.iconst 1, 1) := by decide +kernel
theorem dM_segment_62 : decode prog_11_method_74_code 62 = .ok (.if_icmp .ne 15, 3) := by decide +kernel
theorem dM_segment_65 : decode prog_11_method_74_code 65 = .ok (.aload_n 0, 1) := by decide +kernel
theorem dM_segment_66 : decode prog_11_method_74_code 66 = .ok (.iload_n 1, 1) := by decide +kernel
theorem dM_segment_67 : decode prog_11_method_74_code 67 = .ok (.iconst 1, 1) := by decide +kernel
theorem dM_segment_68 : decode prog_11_method_74_code 68 = .ok (.iadd, 1) := by decide +kernel
theorem dM_segment_69 : decode prog_11_method_74_code 69 = .ok (.invokevirtual 309, 3) := by decide +kernel
theorem dM_segment_72 : decode prog_11_method_74_code 72 = .ok (.iconst 1, 1) := by decide +kernel
theorem dM_segment_73 : decode prog_11_method_74_code 73 = .ok (.isub, 1) := by decide +kernel
theorem dM_segment_74 : decode prog_11_method_74_code 74 = .ok (.goto 23, 3) := by decide +kernel
theorem dM_segment_77 : decode prog_11_method_74_code 77 = .ok (.iload_n 2, 1) := by decide +kernel
theorem dM_segment_78 : decode prog_11_method_74_code 78 = .ok (.iconst 2, 1) := by decide +kernel
theorem dM_segment_79 : decode prog_11_method_74_code 79 = .ok (.if_icmp .ne 12, 3) := by decide +kernel
theorem dM_segment_82 : decode prog_11_method_74_code 82 = .ok (.aload_n 0, 1) := by decide +kernel
theorem dM_segment_83 : decode prog_11_method_74_code 83 = .ok (.getfield 90, 3) := by decide +kernel
theorem dM_segment_86 : decode prog_11_method_74_code 86 = .ok (.iload_n 3, 1) := by decide +kernel
theorem dM_segment_87 : decode prog_11_method_74_code 87 = .ok (.iaload, 1) := by decide +kernel
theorem dM_segment_88 : decode prog_11_method_74_code 88 = .ok (.goto 9, 3) := by decide +kernel
theorem dM_segment_91 : decode prog_11_method_74_code 91 = .ok (.aload_n 0, 1) := by decide +kernel
theorem dM_segment_92 : decode prog_11_method_74_code 92 = .ok (.getfield 38, 3) := by decide +kernel
theorem dM_segment_95 : decode prog_11_method_74_code 95 = .ok (.iload_n 3, 1) := by decide +kernel
theorem dM_segment_96 : decode prog_11_method_74_code 96 = .ok (.imul, 1) := by decide +kernel
theorem dM_segment_97 : decode prog_11_method_74_code 97 = .ok (.ireturn, 1) := by decide +kernel
set_option maxRecDepth 100000 in
set_option maxHeartbeats 4000000 in
theorem tM_segment_J43 {X : KC} {q : Int × KM} (hX : kOk X 6 prog_11_method_74_code 4 "KeyPathModel") (hR : kRet X (some .int) q) (σ : KM) {Θ : (Int × KM) → Prop} (hT : ∀ z, Θ (z) → z = q) : kJ X 43 [lq 10, none, none, none] [] σ (fM_segment_J43 σ) Θ := by
  refine k_bipush hX dM_segment_43 (by decide) ?_
  exact k_iret hX hR hT dM_segment_45
set_option maxRecDepth 100000 in
set_option maxHeartbeats 4000000 in
theorem tM_segment_J97 {X : KC} {q : Int × KM} (hX : kOk X 6 prog_11_method_74_code 4 "KeyPathModel") (hR : kRet X (some .int) q) (t0 : Int) (σ : KM) {Θ : (Int × KM) → Prop} (hT : ∀ z, Θ (z) → z = q) : kJ X 97 [lq 10, none, none, none] [ki t0] σ (fM_segment_J97 t0 σ) Θ := by
  exact k_iret hX hR hT dM_segment_97
set_option maxRecDepth 100000 in
set_option maxHeartbeats 4000000 in
theorem sM_segment (x1 x2 : Int) (σ : KM) : kSem 6 (⟨"KeyPathModel", "segment", "(II)I"⟩ : MethodName) prog_11_method_74_code 4 (some .int) [kr 10, ki x1, ki x2] σ (fM_segment x1 x2 σ) := by
  refine kSem.of (L0 := [lq 10, li x1, li x2, none]) (by decide) (Nat.le_of_ble_eq_true rfl) rfl (fun X q hX hR => ?_)
  have hT : ∀ z : Int × KM, (fun z => z = q) z → z = q := fun _ h => h
  refine k_aload_n hX dM_segment_0 rfl ?_
  refine k_iconst hX dM_segment_1 ?_
  refine gp_157 hX dM_segment_2 (fun τ1 => ?_)
  refine k_aload_n hX dM_segment_5 rfl ?_
  refine cl_136 hX (by decide) (Nat.le_of_ble_eq_true rfl) dM_segment_6 (fun r3 τ2 => ?_)
  refine k_if_ne (tgt := 15) hX dM_segment_9 (by decide) ?_ ?_
  · refine k_iload_n hX dM_segment_15 rfl ?_
    refine k_i2l hX dM_segment_16 ?_
    refine k_lconst0 hX dM_segment_17 ?_
    refine k_aload_n hX dM_segment_18 rfl ?_
    refine cl_138 hX (by decide) (Nat.le_of_ble_eq_true rfl) dM_segment_19 (fun r5 τ4 => ?_)
    refine k_iconst hX dM_segment_22 ?_
    refine k_isub hX dM_segment_23 ?_
    refine k_i2l hX dM_segment_24 ?_
    refine cl_120 hX (by decide) (Nat.le_of_ble_eq_true rfl) dM_segment_25 (fun r7 τ6 => ?_)
    refine k_if_eq (tgt := 43) hX dM_segment_28 (by decide) ?_ ?_
    · refine k_less [true, false, false, true] (L' := [lq 10, none, none, none]) rfl ?_
      exact tM_segment_J43 hX hR τ6 hT
    · refine k_iload_n hX dM_segment_31 rfl ?_
      refine k_i2l hX dM_segment_32 ?_
      refine k_lconst0 hX dM_segment_33 ?_
      refine k_ldc2 (v := 3) hX dM_segment_34 tw_1200 ?_
      refine cl_120 hX (by decide) (Nat.le_of_ble_eq_true rfl) dM_segment_37 (fun r9 τ8 => ?_)
      refine k_if_ne (tgt := 46) hX dM_segment_40 (by decide) ?_ ?_
      · refine k_aload_n hX dM_segment_46 rfl ?_
        refine k_iload_n hX dM_segment_47 rfl ?_
        refine cl_139 hX (by decide) (Nat.le_of_ble_eq_true rfl) dM_segment_48 (fun r11 τ10 => ?_)
        refine k_istore_n (L' := [lq 10, li x1, li x2, li r11]) hX dM_segment_51 rfl (by decide) rfl ?_
        refine k_iload_n hX dM_segment_52 rfl ?_
        refine k_if_ne (tgt := 60) hX dM_segment_53 (by decide) ?_ ?_
        · refine k_iload_n hX dM_segment_60 rfl ?_
          refine k_iconst hX dM_segment_61 ?_
          refine k_icmp_ne (tgt := 77) hX dM_segment_62 (by decide) ?_ ?_
          · refine k_iload_n hX dM_segment_77 rfl ?_
            refine k_iconst hX dM_segment_78 ?_
            refine k_icmp_ne (tgt := 91) hX dM_segment_79 (by decide) ?_ ?_
            · refine k_aload_n hX dM_segment_91 rfl ?_
              refine gf_158 hX dM_segment_92 ?_
              refine k_iload_n hX dM_segment_95 rfl ?_
              refine k_imul hX dM_segment_96 ?_
              refine k_less [true, false, false, false] (L' := [lq 10, none, none, none]) rfl ?_
              exact tM_segment_J97 hX hR ((τ10 10 12) * r11) τ10 hT
            · refine k_aload_n hX dM_segment_82 rfl ?_
              refine gf_182 hX dM_segment_83 ?_
              refine k_iload_n hX dM_segment_86 rfl ?_
              refine k_iald hX (by decide) rfl dM_segment_87 rfl (fun y12 => ?_)
              refine k_goto (tgt := 97) hX dM_segment_88 (by decide) ?_
              refine k_less [true, false, false, false] (L' := [lq 10, none, none, none]) rfl ?_
              exact tM_segment_J97 hX hR y12 τ10 hT
          · refine k_aload_n hX dM_segment_65 rfl ?_
            refine k_iload_n hX dM_segment_66 rfl ?_
            refine k_iconst hX dM_segment_67 ?_
            refine k_iadd hX dM_segment_68 ?_
            refine cl_139 hX (by decide) (Nat.le_of_ble_eq_true rfl) dM_segment_69 (fun r14 τ13 => ?_)
            refine k_iconst hX dM_segment_72 ?_
            refine k_isub hX dM_segment_73 ?_
            refine k_goto (tgt := 97) hX dM_segment_74 (by decide) ?_
            refine k_less [true, false, false, false] (L' := [lq 10, none, none, none]) rfl ?_
            exact tM_segment_J97 hX hR (r14 - 1) τ13 hT
        · refine k_iload_n hX dM_segment_56 rfl ?_
          refine k_goto (tgt := 97) hX dM_segment_57 (by decide) ?_
          refine k_less [true, false, false, false] (L' := [lq 10, none, none, none]) rfl ?_
          exact tM_segment_J97 hX hR r11 τ10 hT
      · refine k_less [true, false, false, true] (L' := [lq 10, none, none, none]) rfl ?_
        exact tM_segment_J43 hX hR τ8 hT
  · refine k_bipush hX dM_segment_12 (by decide) ?_
    exact k_iret hX hR hT dM_segment_14
theorem dM_segments_0 : decode prog_11_method_72_code 0 = .ok (.aload_n 0, 1) := by decide +kernel
theorem dM_segments_1 : decode prog_11_method_72_code 1 = .ok (.iconst 0, 1) := by decide +kernel
theorem dM_segments_2 : decode prog_11_method_72_code 2 = .ok (.putfield 1, 3) := by decide +kernel
theorem dM_segments_5 : decode prog_11_method_72_code 5 = .ok (.aload_n 0, 1) := by decide +kernel
theorem dM_segments_6 : decode prog_11_method_72_code 6 = .ok (.invokevirtual 287, 3) := by decide +kernel
theorem dM_segments_9 : decode prog_11_method_72_code 9 = .ok (.ifCond .eq 10, 3) := by decide +kernel
theorem dM_segments_12 : decode prog_11_method_72_code 12 = .ok (.aload_n 0, 1) := by decide +kernel
theorem dM_segments_13 : decode prog_11_method_72_code 13 = .ok (.invokevirtual 306, 3) := by decide +kernel
theorem dM_segments_16 : decode prog_11_method_72_code 16 = .ok (.goto 5, 3) := by decide +kernel
theorem dM_segments_19 : decode prog_11_method_72_code 19 = .ok (.bipush (-5), 2) := by decide +kernel
theorem dM_segments_21 : decode prog_11_method_72_code 21 = .ok (.ireturn, 1) := by decide +kernel
set_option maxRecDepth 100000 in
set_option maxHeartbeats 4000000 in
theorem tM_segments_J21 {X : KC} {q : Int × KM} (hX : kOk X 6 prog_11_method_72_code 1 "KeyPathModel") (hR : kRet X (some .int) q) (t0 : Int) (σ : KM) {Θ : (Int × KM) → Prop} (hT : ∀ z, Θ (z) → z = q) : kJ X 21 [lq 10] [ki t0] σ (fM_segments_J21 t0 σ) Θ := by
  exact k_iret hX hR hT dM_segments_21
set_option maxRecDepth 100000 in
set_option maxHeartbeats 4000000 in
theorem sM_segments (σ : KM) : kSem 6 (⟨"KeyPathModel", "segments", "()I"⟩ : MethodName) prog_11_method_72_code 1 (some .int) [kr 10] σ (fM_segments σ) := by
  refine kSem.of (L0 := [lq 10]) (by decide) (Nat.le_of_ble_eq_true rfl) rfl (fun X q hX hR => ?_)
  have hT : ∀ z : Int × KM, (fun z => z = q) z → z = q := fun _ h => h
  refine k_aload_n hX dM_segments_0 rfl ?_
  refine k_iconst hX dM_segments_1 ?_
  refine gp_157 hX dM_segments_2 (fun τ1 => ?_)
  refine k_aload_n hX dM_segments_5 rfl ?_
  refine cl_136 hX (by decide) (Nat.le_of_ble_eq_true rfl) dM_segments_6 (fun r3 τ2 => ?_)
  refine k_if_eq (tgt := 19) hX dM_segments_9 (by decide) ?_ ?_
  · refine k_bipush hX dM_segments_19 (by decide) ?_
    exact tM_segments_J21 hX hR (-5) τ2 hT
  · refine k_aload_n hX dM_segments_12 rfl ?_
    refine cl_138 hX (by decide) (Nat.le_of_ble_eq_true rfl) dM_segments_13 (fun r5 τ4 => ?_)
    refine k_goto (tgt := 21) hX dM_segments_16 (by decide) ?_
    exact tM_segments_J21 hX hR r5 τ4 hT
theorem dM_shift_0 : decode prog_11_method_20_code 0 = .ok (.aload_n 0, 1) := by decide +kernel
theorem dM_shift_1 : decode prog_11_method_20_code 1 = .ok (.iconst 0, 1) := by decide +kernel
theorem dM_shift_2 : decode prog_11_method_20_code 2 = .ok (.putfield 1, 3) := by decide +kernel
theorem dM_shift_5 : decode prog_11_method_20_code 5 = .ok (.iload_n 1, 1) := by decide +kernel
theorem dM_shift_6 : decode prog_11_method_20_code 6 = .ok (.i2l, 1) := by decide +kernel
theorem dM_shift_7 : decode prog_11_method_20_code 7 = .ok (.ldc2_w 188, 3) := by decide +kernel
theorem dM_shift_10 : decode prog_11_method_20_code 10 = .ok (.ldc2_w 158, 3) := by decide +kernel
theorem dM_shift_13 : decode prog_11_method_20_code 13 = .ok (.invokestatic 134, 3) := by decide +kernel
theorem dM_shift_16 : decode prog_11_method_20_code 16 = .ok (.ifCond .ne 6, 3) := by decide +kernel
theorem dM_shift_19 : decode prog_11_method_20_code 19 = .ok (.bipush (-3), 2) := by decide +kernel
theorem dM_shift_21 : decode prog_11_method_20_code 21 = .ok (.ireturn, 1) := by decide +kernel
theorem dM_shift_22 : decode prog_11_method_20_code 22 = .ok (.iconst 0, 1) := by decide +kernel
theorem dM_shift_23 : decode prog_11_method_20_code 23 = .ok (.istore_n 2, 1) := by decide +kernel
theorem dM_shift_24 : decode prog_11_method_20_code 24 = .ok (.iload_n 2, 1) := by decide +kernel
theorem dM_shift_25 : decode prog_11_method_20_code 25 = .ok (.aload_n 0, 1) := by decide +kernel
theorem dM_shift_26 : decode prog_11_method_20_code 26 = .ok (.getfield 169, 3) := by decide +kernel
theorem dM_shift_29 : decode prog_11_method_20_code 29 = .ok (.if_icmp .ge 31, 3) := by decide +kernel
theorem dM_shift_32 : decode prog_11_method_20_code 32 = .ok (.aload_n 0, 1) := by decide +kernel
theorem dM_shift_33 : decode prog_11_method_20_code 33 = .ok (.getfield 20, 3) := by decide +kernel
theorem dM_shift_36 : decode prog_11_method_20_code 36 = .ok (.iload_n 2, 1) := by decide +kernel
theorem dM_shift_37 : decode prog_11_method_20_code 37 = .ok (.iaload, 1) := by decide +kernel
theorem dM_shift_38 : decode prog_11_method_20_code 38 = .ok (.iload_n 1, 1) := by decide +kernel
theorem dM_shift_39 : decode prog_11_method_20_code 39 = .ok (.iadd, 1) := by decide +kernel
theorem dM_shift_40 : decode prog_11_method_20_code 40 = .ok (.i2l, 1) := by decide +kernel
theorem dM_shift_41 : decode prog_11_method_20_code 41 = .ok (.lconst 0, 1) := by decide +kernel
theorem dM_shift_42 : decode prog_11_method_20_code 42 = .ok (.ldc2_w 158, 3) := by decide +kernel
theorem dM_shift_45 : decode prog_11_method_20_code 45 = .ok (.invokestatic 134, 3) := by decide +kernel
theorem dM_shift_48 : decode prog_11_method_20_code 48 = .ok (.ifCond .ne 6, 3) := by decide +kernel
theorem dM_shift_51 : decode prog_11_method_20_code 51 = .ok (.bipush (-3), 2) := by decide +kernel
theorem dM_shift_53 : decode prog_11_method_20_code 53 = .ok (.ireturn, 1) := by decide +kernel
theorem dM_shift_54 : decode prog_11_method_20_code 54 = .ok (.iinc 2 1, 3) := by decide +kernel
theorem dM_shift_57 : decode prog_11_method_20_code 57 = .ok (.goto (-33), 3) := by decide +kernel
theorem dM_shift_60 : decode prog_11_method_20_code 60 = .ok (.aload_n 0, 1) := by decide +kernel
theorem dM_shift_61 : decode prog_11_method_20_code 61 = .ok (.invokevirtual 181, 3) := by decide +kernel
theorem dM_shift_64 : decode prog_11_method_20_code 64 = .ok (.iconst 0, 1) := by decide +kernel
theorem dM_shift_65 : decode prog_11_method_20_code 65 = .ok (.istore_n 2, 1) := by decide +kernel
theorem dM_shift_66 : decode prog_11_method_20_code 66 = .ok (.iload_n 2, 1) := by decide +kernel
theorem dM_shift_67 : decode prog_11_method_20_code 67 = .ok (.aload_n 0, 1) := by decide +kernel
theorem dM_shift_68 : decode prog_11_method_20_code 68 = .ok (.getfield 169, 3) := by decide +kernel
theorem dM_shift_71 : decode prog_11_method_20_code 71 = .ok (.if_icmp .ge 19, 3) := by decide +kernel
theorem dM_shift_74 : decode prog_11_method_20_code 74 = .ok (.aload_n 0, 1) := by decide +kernel
theorem dM_shift_75 : decode prog_11_method_20_code 75 = .ok (.getfield 20, 3) := by decide +kernel
theorem dM_shift_78 : decode prog_11_method_20_code 78 = .ok (.iload_n 2, 1) := by decide +kernel
theorem dM_shift_79 : decode prog_11_method_20_code 79 = .ok (.dup2, 1) := by decide +kernel
theorem dM_shift_80 : decode prog_11_method_20_code 80 = .ok (.iaload, 1) := by decide +kernel
theorem dM_shift_81 : decode prog_11_method_20_code 81 = .ok (.iload_n 1, 1) := by decide +kernel
theorem dM_shift_82 : decode prog_11_method_20_code 82 = .ok (.iadd, 1) := by decide +kernel
theorem dM_shift_83 : decode prog_11_method_20_code 83 = .ok (.iastore, 1) := by decide +kernel
theorem dM_shift_84 : decode prog_11_method_20_code 84 = .ok (.iinc 2 1, 3) := by decide +kernel
theorem dM_shift_87 : decode prog_11_method_20_code 87 = .ok (.goto (-21), 3) := by decide +kernel
theorem dM_shift_90 : decode prog_11_method_20_code 90 = .ok (.aload_n 0, 1) := by decide +kernel
theorem dM_shift_91 : decode prog_11_method_20_code 91 = .ok (.getfield 169, 3) := by decide +kernel
theorem dM_shift_94 : decode prog_11_method_20_code 94 = .ok (.ireturn, 1) := by decide +kernel
set_option maxRecDepth 100000 in
set_option maxHeartbeats 4000000 in
theorem tM_shift_J90 {X : KC} {q : Int × KM} (hX : kOk X 2 prog_11_method_20_code 3 "KeyPathModel") (hR : kRet X (some .int) q) (σ : KM) {Θ : (Int × KM) → Prop} (hT : ∀ z, Θ (z) → z = q) : kJ X 90 [lq 10, none, none] [] σ (fM_shift_J90 σ) Θ := by
  refine k_aload_n hX dM_shift_90 rfl ?_
  refine gf_159 hX dM_shift_91 ?_
  exact k_iret hX hR hT dM_shift_94
set_option maxRecDepth 100000 in
set_option maxHeartbeats 4000000 in
theorem tM_shift_B66 {X : KC} {q : Int × KM} (hX : kOk X 2 prog_11_method_20_code 3 "KeyPathModel") (hR : kRet X (some .int) q) (x1 x2 : Int) (σ : KM) {Θ : ((Int × KM) ⊕ (Int × KM)) → Prop} (hT : ∀ z, Θ (.inr (z)) → z = q) (hb0 : ∀ s : Int × KM, Θ (.inl s) → kW X 66 [lq 10, li x1, li s.1] [] s.2) : kJ X 66 [lq 10, li x1, li x2] [] σ (fM_shift_B66 x1 x2 σ) Θ := by
  refine k_iload_n hX dM_shift_66 rfl ?_
  refine k_aload_n hX dM_shift_67 rfl ?_
  refine gf_159 hX dM_shift_68 ?_
  refine k_icmp_ge (tgt := 90) hX dM_shift_71 (by decide) ?_ ?_
  · refine k_exit ?_
    refine k_less [true, false, false] (L' := [lq 10, none, none]) rfl ?_
    exact tM_shift_J90 hX hR σ hT
  · refine k_aload_n hX dM_shift_74 rfl ?_
    refine gf_165 hX dM_shift_75 ?_
    refine k_iload_n hX dM_shift_78 rfl ?_
    refine k_dup2 hX dM_shift_79 ?_
    refine k_iald hX (by decide) rfl dM_shift_80 rfl (fun y1 => ?_)
    refine k_iload_n hX dM_shift_81 rfl ?_
    refine k_iadd hX dM_shift_82 ?_
    refine k_iast hX (by decide) rfl dM_shift_83 rfl (fun τ2 => ?_)
    refine k_iincL (Lf := fun y3 => [lq 10, li x1, li y3]) hX dM_shift_84 rfl (by decide) rfl (fun _ => rfl) (fun y3 => ?_)
    refine k_goto (tgt := 66) hX dM_shift_87 (by decide) ?_
    exact k_back (hb0 (y3, τ2))
set_option maxRecDepth 100000 in
set_option maxHeartbeats 4000000 in
theorem tM_shift_L66 {X : KC} {q : Int × KM} (hX : kOk X 2 prog_11_method_20_code 3 "KeyPathModel") (hR : kRet X (some .int) q) (x1 x2 : Int) (σ : KM) {Θ : (Int × KM) → Prop} (hT : ∀ z, Θ (z) → z = q) : kJ X 66 [lq 10, li x1, li x2] [] σ (fM_shift_L66 x1 x2 σ) Θ :=
  k_iter (f := fun s => fM_shift_B66 x1 s.1 s.2) (Lf := fun s => [lq 10, li x1, li s.1]) (mf := fun s => s.2) (Θ := Θ) (fun s => tM_shift_B66 hX hR x1 s.1 s.2 hT (fun _ h9 => h9)) kF (x2, σ)
set_option maxRecDepth 100000 in
set_option maxHeartbeats 4000000 in
theorem tM_shift_J60 {X : KC} {q : Int × KM} (hX : kOk X 2 prog_11_method_20_code 3 "KeyPathModel") (hR : kRet X (some .int) q) (x1 : Int) (σ : KM) {Θ : (Int × KM) → Prop} (hT : ∀ z, Θ (z) → z = q) : kJ X 60 [lq 10, li x1, none] [] σ (fM_shift_J60 x1 σ) Θ := by
  refine k_aload_n hX dM_shift_60 rfl ?_
  refine cl_145 hX (by decide) (Nat.le_of_ble_eq_true rfl) dM_shift_61 (fun _ τ1 => ?_)
  refine k_iconst hX dM_shift_64 ?_
  refine k_istore_n (L' := [lq 10, li x1, li 0]) hX dM_shift_65 rfl (by decide) rfl ?_
  exact tM_shift_L66 hX hR x1 0 τ1 hT
set_option maxRecDepth 100000 in
set_option maxHeartbeats 4000000 in
theorem tM_shift_J51 {X : KC} {q : Int × KM} (hX : kOk X 2 prog_11_method_20_code 3 "KeyPathModel") (hR : kRet X (some .int) q) (σ : KM) {Θ : (Int × KM) → Prop} (hT : ∀ z, Θ (z) → z = q) : kJ X 51 [lq 10, none, none] [] σ (fM_shift_J51 σ) Θ := by
  refine k_bipush hX dM_shift_51 (by decide) ?_
  exact k_iret hX hR hT dM_shift_53
set_option maxRecDepth 100000 in
set_option maxHeartbeats 4000000 in
theorem tM_shift_B24 {X : KC} {q : Int × KM} (hX : kOk X 2 prog_11_method_20_code 3 "KeyPathModel") (hR : kRet X (some .int) q) (x1 x2 : Int) (σ : KM) {Θ : ((Int × KM) ⊕ (Int × KM)) → Prop} (hT : ∀ z, Θ (.inr (z)) → z = q) (hb0 : ∀ s : Int × KM, Θ (.inl s) → kW X 24 [lq 10, li x1, li s.1] [] s.2) : kJ X 24 [lq 10, li x1, li x2] [] σ (fM_shift_B24 x1 x2 σ) Θ := by
  refine k_iload_n hX dM_shift_24 rfl ?_
  refine k_aload_n hX dM_shift_25 rfl ?_
  refine gf_159 hX dM_shift_26 ?_
  refine k_icmp_ge (tgt := 60) hX dM_shift_29 (by decide) ?_ ?_
  · refine k_exit ?_
    refine k_less [true, true, false] (L' := [lq 10, li x1, none]) rfl ?_
    exact tM_shift_J60 hX hR x1 σ hT
  · refine k_aload_n hX dM_shift_32 rfl ?_
    refine gf_165 hX dM_shift_33 ?_
    refine k_iload_n hX dM_shift_36 rfl ?_
    refine k_iald hX (by decide) rfl dM_shift_37 rfl (fun y1 => ?_)
    refine k_iload_n hX dM_shift_38 rfl ?_
    refine k_iadd hX dM_shift_39 ?_
    refine k_i2l hX dM_shift_40 ?_
    refine k_lconst0 hX dM_shift_41 ?_
    refine k_ldc2 (v := 127) hX dM_shift_42 tw_1152 ?_
    refine cl_120 hX (by decide) (Nat.le_of_ble_eq_true rfl) dM_shift_45 (fun r3 τ2 => ?_)
    refine k_if_ne (tgt := 54) hX dM_shift_48 (by decide) ?_ ?_
    · refine k_iincL (Lf := fun y4 => [lq 10, li x1, li y4]) hX dM_shift_54 rfl (by decide) rfl (fun _ => rfl) (fun y4 => ?_)
      refine k_goto (tgt := 24) hX dM_shift_57 (by decide) ?_
      exact k_back (hb0 (y4, τ2))
    · refine k_exit ?_
      refine k_less [true, false, false] (L' := [lq 10, none, none]) rfl ?_
      exact tM_shift_J51 hX hR τ2 hT
set_option maxRecDepth 100000 in
set_option maxHeartbeats 4000000 in
theorem tM_shift_L24 {X : KC} {q : Int × KM} (hX : kOk X 2 prog_11_method_20_code 3 "KeyPathModel") (hR : kRet X (some .int) q) (x1 x2 : Int) (σ : KM) {Θ : (Int × KM) → Prop} (hT : ∀ z, Θ (z) → z = q) : kJ X 24 [lq 10, li x1, li x2] [] σ (fM_shift_L24 x1 x2 σ) Θ :=
  k_iter (f := fun s => fM_shift_B24 x1 s.1 s.2) (Lf := fun s => [lq 10, li x1, li s.1]) (mf := fun s => s.2) (Θ := Θ) (fun s => tM_shift_B24 hX hR x1 s.1 s.2 hT (fun _ h9 => h9)) kF (x2, σ)
set_option maxRecDepth 100000 in
set_option maxHeartbeats 4000000 in
theorem sM_shift (x1 : Int) (σ : KM) : kSem 2 (⟨"KeyPathModel", "shift", "(I)I"⟩ : MethodName) prog_11_method_20_code 3 (some .int) [kr 10, ki x1] σ (fM_shift x1 σ) := by
  refine kSem.of (L0 := [lq 10, li x1, none]) (by decide) (Nat.le_of_ble_eq_true rfl) rfl (fun X q hX hR => ?_)
  have hT : ∀ z : Int × KM, (fun z => z = q) z → z = q := fun _ h => h
  refine k_aload_n hX dM_shift_0 rfl ?_
  refine k_iconst hX dM_shift_1 ?_
  refine gp_157 hX dM_shift_2 (fun τ1 => ?_)
  refine k_iload_n hX dM_shift_5 rfl ?_
  refine k_i2l hX dM_shift_6 ?_
  refine k_ldc2 (v := (-127)) hX dM_shift_7 tw_1191 ?_
  refine k_ldc2 (v := 127) hX dM_shift_10 tw_1152 ?_
  refine cl_120 hX (by decide) (Nat.le_of_ble_eq_true rfl) dM_shift_13 (fun r3 τ2 => ?_)
  refine k_if_ne (tgt := 22) hX dM_shift_16 (by decide) ?_ ?_
  · refine k_iconst hX dM_shift_22 ?_
    refine k_istore_n (L' := [lq 10, li x1, li 0]) hX dM_shift_23 rfl (by decide) rfl ?_
    exact tM_shift_L24 hX hR x1 0 τ2 hT
  · refine k_bipush hX dM_shift_19 (by decide) ?_
    exact k_iret hX hR hT dM_shift_21
theorem dM_laysAhead_0 : decode prog_11_method_61_code 0 = .ok (.iconst 0, 1) := by decide +kernel
theorem dM_laysAhead_1 : decode prog_11_method_61_code 1 = .ok (.istore_n 1, 1) := by decide +kernel
theorem dM_laysAhead_2 : decode prog_11_method_61_code 2 = .ok (.iload_n 1, 1) := by decide +kernel
theorem dM_laysAhead_3 : decode prog_11_method_61_code 3 = .ok (.aload_n 0, 1) := by decide +kernel
theorem dM_laysAhead_4 : decode prog_11_method_61_code 4 = .ok (.getfield 267, 3) := by decide +kernel
theorem dM_laysAhead_7 : decode prog_11_method_61_code 7 = .ok (.if_icmp .ge 124, 3) := by decide +kernel
theorem dM_laysAhead_10 : decode prog_11_method_61_code 10 = .ok (.iconst 0, 1) := by decide +kernel
theorem dM_laysAhead_11 : decode prog_11_method_61_code 11 = .ok (.istore_n 2, 1) := by decide +kernel
theorem dM_laysAhead_12 : decode prog_11_method_61_code 12 = .ok (.iload_n 2, 1) := by decide +kernel
theorem dM_laysAhead_13 : decode prog_11_method_61_code 13 = .ok (.bipush 24, 2) := by decide +kernel
theorem dM_laysAhead_15 : decode prog_11_method_61_code 15 = .ok (.if_icmp .ge 110, 3) := by decide +kernel
theorem dM_laysAhead_18 : decode prog_11_method_61_code 18 = .ok (.iload_n 1, 1) := by decide +kernel
theorem dM_laysAhead_19 : decode prog_11_method_61_code 19 = .ok (.ifCond .ne 7, 3) := by decide +kernel
theorem dM_laysAhead_22 : decode prog_11_method_61_code 22 = .ok (.iconst 0, 1) := by decide +kernel
theorem dM_laysAhead_23 : decode prog_11_method_61_code 23 = .ok (.goto 5, 3) := by decide +kernel
theorem dM_laysAhead_26 : decode prog_11_method_61_code 26 = .ok (.ldc 254, 2) := by decide +kernel
theorem dM_laysAhead_28 : decode prog_11_method_61_code 28 = .ok (.istore_n 3, 1) := by decide +kernel
theorem dM_laysAhead_29 : decode prog_11_method_61_code 29 = .ok (.iconst 0, 1) := by decide +kernel
theorem dM_laysAhead_30 : decode prog_11_method_61_code 30 = .ok (.istore 4, 2) := by decide +kernel
theorem dM_laysAhead_32 : decode prog_11_method_61_code 32 = .ok (.iload 4, 2) := by decide +kernel
theorem dM_laysAhead_34 : decode prog_11_method_61_code 34 = .ok (.bipush 24, 2) := by decide +kernel
theorem dM_laysAhead_36 : decode prog_11_method_61_code 36 = .ok (.if_icmp .ge 57, 3) := by decide +kernel
theorem dM_laysAhead_39 : decode prog_11_method_61_code 39 = .ok (.iload_n 1, 1) := by decide +kernel
theorem dM_laysAhead_40 : decode prog_11_method_61_code 40 = .ok (.ifCond .le 53, 3) := by decide +kernel
theorem dM_laysAhead_43 : decode prog_11_method_61_code 43 = .ok (.aload_n 0, 1) := by decide +kernel
theorem dM_laysAhead_44 : decode prog_11_method_61_code 44 = .ok (.getfield 81, 3) := by decide +kernel
theorem dM_laysAhead_47 : decode prog_11_method_61_code 47 = .ok (.bipush 24, 2) := by decide +kernel
theorem dM_laysAhead_49 : decode prog_11_method_61_code 49 = .ok (.iload_n 1, 1) := by decide +kernel
theorem dM_laysAhead_50 : decode prog_11_method_61_code 50 = .ok (.iconst 1, 1) := by decide +kernel
theorem dM_laysAhead_51 : decode prog_11_method_61_code 51 = .ok (.isub, 1) := by decide +kernel
theorem dM_laysAhead_52 : decode prog_11_method_61_code 52 = .ok (.imul, 1) := by decide +kernel
theorem dM_laysAhead_53 : decode prog_11_method_61_code 53 = .ok (.iload 4, 2) := by decide +kernel
theorem dM_laysAhead_55 : decode prog_11_method_61_code 55 = .ok (.iadd, 1) := by decide +kernel
theorem dM_laysAhead_56 : decode prog_11_method_61_code 56 = .ok (.iaload, 1) := by decide +kernel
theorem dM_laysAhead_57 : decode prog_11_method_61_code 57 = .ok (.aload_n 0, 1) := by decide +kernel
theorem dM_laysAhead_58 : decode prog_11_method_61_code 58 = .ok (.iload 4, 2) := by decide +kernel
theorem dM_laysAhead_60 : decode prog_11_method_61_code 60 = .ok (.iload_n 2, 1) := by decide +kernel
theorem dM_laysAhead_61 : decode prog_11_method_61_code 61 = .ok (.iload_n 1, 1) := by decide +kernel
theorem dM_laysAhead_62 : decode prog_11_method_61_code 62 = .ok (.aload_n 0, 1) := by decide +kernel
theorem dM_laysAhead_63 : decode prog_11_method_61_code 63 = .ok (.getfield 50, 3) := by decide +kernel
theorem dM_laysAhead_66 : decode prog_11_method_61_code 66 = .ok (.invokevirtual 270, 3) := by decide +kernel
theorem dM_laysAhead_69 : decode prog_11_method_61_code 69 = .ok (.invokestatic 274, 3) := by decide +kernel
theorem dM_laysAhead_72 : decode prog_11_method_61_code 72 = .ok (.istore 5, 2) := by decide +kernel
theorem dM_laysAhead_74 : decode prog_11_method_61_code 74 = .ok (.iload 5, 2) := by decide +kernel
theorem dM_laysAhead_76 : decode prog_11_method_61_code 76 = .ok (.iload_n 3, 1) := by decide +kernel
theorem dM_laysAhead_77 : decode prog_11_method_61_code 77 = .ok (.if_icmp .ge 8, 3) := by decide +kernel
theorem dM_laysAhead_80 : decode prog_11_method_61_code 80 = .ok (.iload 5, 2) := by decide +kernel
theorem dM_laysAhead_82 : decode prog_11_method_61_code 82 = .ok (.goto 4, 3) := by decide +kernel
theorem dM_laysAhead_85 : decode prog_11_method_61_code 85 = .ok (.iload_n 3, 1) := by decide +kernel
theorem dM_laysAhead_86 : decode prog_11_method_61_code 86 = .ok (.istore_n 3, 1) := by decide +kernel
theorem dM_laysAhead_87 : decode prog_11_method_61_code 87 = .ok (.iinc 4 1, 3) := by decide +kernel
theorem dM_laysAhead_90 : decode prog_11_method_61_code 90 = .ok (.goto (-58), 3) := by decide +kernel
theorem dM_laysAhead_93 : decode prog_11_method_61_code 93 = .ok (.aload_n 0, 1) := by decide +kernel
theorem dM_laysAhead_94 : decode prog_11_method_61_code 94 = .ok (.getfield 81, 3) := by decide +kernel
theorem dM_laysAhead_97 : decode prog_11_method_61_code 97 = .ok (.bipush 24, 2) := by decide +kernel
theorem dM_laysAhead_99 : decode prog_11_method_61_code 99 = .ok (.iload_n 1, 1) := by decide +kernel
theorem dM_laysAhead_100 : decode prog_11_method_61_code 100 = .ok (.imul, 1) := by decide +kernel
theorem dM_laysAhead_101 : decode prog_11_method_61_code 101 = .ok (.iload_n 2, 1) := by decide +kernel
theorem dM_laysAhead_102 : decode prog_11_method_61_code 102 = .ok (.iadd, 1) := by decide +kernel
theorem dM_laysAhead_103 : decode prog_11_method_61_code 103 = .ok (.aload_n 0, 1) := by decide +kernel
theorem dM_laysAhead_104 : decode prog_11_method_61_code 104 = .ok (.getfield 78, 3) := by decide +kernel
theorem dM_laysAhead_107 : decode prog_11_method_61_code 107 = .ok (.bipush 24, 2) := by decide +kernel
theorem dM_laysAhead_109 : decode prog_11_method_61_code 109 = .ok (.iload_n 1, 1) := by decide +kernel
theorem dM_laysAhead_110 : decode prog_11_method_61_code 110 = .ok (.imul, 1) := by decide +kernel
theorem dM_laysAhead_111 : decode prog_11_method_61_code 111 = .ok (.iload_n 2, 1) := by decide +kernel
theorem dM_laysAhead_112 : decode prog_11_method_61_code 112 = .ok (.iadd, 1) := by decide +kernel
theorem dM_laysAhead_113 : decode prog_11_method_61_code 113 = .ok (.iaload, 1) := by decide +kernel
theorem dM_laysAhead_114 : decode prog_11_method_61_code 114 = .ok (.iload_n 3, 1) := by decide +kernel
theorem dM_laysAhead_115 : decode prog_11_method_61_code 115 = .ok (.invokestatic 274, 3) := by decide +kernel
theorem dM_laysAhead_118 : decode prog_11_method_61_code 118 = .ok (.iastore, 1) := by decide +kernel
theorem dM_laysAhead_119 : decode prog_11_method_61_code 119 = .ok (.iinc 2 1, 3) := by decide +kernel
theorem dM_laysAhead_122 : decode prog_11_method_61_code 122 = .ok (.goto (-110), 3) := by decide +kernel
theorem dM_laysAhead_125 : decode prog_11_method_61_code 125 = .ok (.iinc 1 1, 3) := by decide +kernel
theorem dM_laysAhead_128 : decode prog_11_method_61_code 128 = .ok (.goto (-126), 3) := by decide +kernel
theorem dM_laysAhead_131 : decode prog_11_method_61_code 131 = .ok (.return_, 1) := by decide +kernel
set_option maxRecDepth 100000 in
set_option maxHeartbeats 4000000 in
theorem tM_laysAhead_J131 {X : KC} {q : Int × KM} (hX : kOk X 2 prog_11_method_61_code 6 "KeyPathModel") (hR : kRet X none q) (σ : KM) {Θ : (Int × KM) → Prop} (hT : ∀ z, Θ (z) → z = q) : kJ X 131 [lq 10, none, none, none, none, none] [] σ (fM_laysAhead_J131 σ) Θ := by
  exact k_vret hX hR hT dM_laysAhead_131
set_option maxRecDepth 100000 in
set_option maxHeartbeats 4000000 in
theorem tM_laysAhead_J125 {X : KC} {q : Int × KM} (hX : kOk X 2 prog_11_method_61_code 6 "KeyPathModel") (hR : kRet X none q) (x1 : Int) (σ : KM) {Θ : ((Int × KM) ⊕ (Int × KM)) → Prop} (hT : ∀ z, Θ (.inr (z)) → z = q) (hb0 : ∀ s : Int × KM, Θ (.inl s) → kW X 2 [lq 10, li s.1, none, none, none, none] [] s.2) : kJ X 125 [lq 10, li x1, none, none, none, none] [] σ (fM_laysAhead_J125 x1 σ) Θ := by
  refine k_iincL (Lf := fun y1 => [lq 10, li y1, none, none, none, none]) hX dM_laysAhead_125 rfl (by decide) rfl (fun _ => rfl) (fun y1 => ?_)
  refine k_goto (tgt := 2) hX dM_laysAhead_128 (by decide) ?_
  exact k_back (hb0 (y1, σ))
set_option maxRecDepth 100000 in
set_option maxHeartbeats 4000000 in
theorem tM_laysAhead_J93 {X : KC} {q : Int × KM} (hX : kOk X 2 prog_11_method_61_code 6 "KeyPathModel") (hR : kRet X none q) (x1 x2 x3 : Int) (σ : KM) {Θ : ((Int × KM) ⊕ ((Int × KM) ⊕ (Int × KM))) → Prop} (hT : ∀ z, Θ (.inr (.inr (z))) → z = q) (hb0 : ∀ s : Int × KM, Θ (.inl s) → kW X 12 [lq 10, li x1, li s.1, none, none, none] [] s.2) (hb1 : ∀ s : Int × KM, Θ (.inr (.inl s)) → kW X 2 [lq 10, li s.1, none, none, none, none] [] s.2) : kJ X 93 [lq 10, li x1, li x2, li x3, none, none] [] σ (fM_laysAhead_J93 x1 x2 x3 σ) Θ := by
  refine k_aload_n hX dM_laysAhead_93 rfl ?_
  refine gf_214 hX dM_laysAhead_94 ?_
  refine k_bipush hX dM_laysAhead_97 (by decide) ?_
  refine k_iload_n hX dM_laysAhead_99 rfl ?_
  refine k_imul hX dM_laysAhead_100 ?_
  refine k_iload_n hX dM_laysAhead_101 rfl ?_
  refine k_iadd hX dM_laysAhead_102 ?_
  refine k_aload_n hX dM_laysAhead_103 rfl ?_
  refine gf_176 hX dM_laysAhead_104 ?_
  refine k_bipush hX dM_laysAhead_107 (by decide) ?_
  refine k_iload_n hX dM_laysAhead_109 rfl ?_
  refine k_imul hX dM_laysAhead_110 ?_
  refine k_iload_n hX dM_laysAhead_111 rfl ?_
  refine k_iadd hX dM_laysAhead_112 ?_
  refine k_iald hX (by decide) rfl dM_laysAhead_113 rfl (fun y1 => ?_)
  refine k_iload_n hX dM_laysAhead_114 rfl ?_
  refine cl_134 hX (by decide) (Nat.le_of_ble_eq_true rfl) dM_laysAhead_115 (fun r3 τ2 => ?_)
  refine k_iast hX (by decide) rfl dM_laysAhead_118 rfl (fun τ4 => ?_)
  refine k_iincL (Lf := fun y5 => [lq 10, li x1, li y5, li x3, none, none]) hX dM_laysAhead_119 rfl (by decide) rfl (fun _ => rfl) (fun y5 => ?_)
  refine k_goto (tgt := 12) hX dM_laysAhead_122 (by decide) ?_
  refine k_less [true, true, true, false, true, true] (L' := [lq 10, li x1, li y5, none, none, none]) rfl ?_
  exact k_back (hb0 (y5, τ4))
set_option maxRecDepth 100000 in
set_option maxHeartbeats 4000000 in
theorem tM_laysAhead_J86 {X : KC} {q : Int × KM} (hX : kOk X 2 prog_11_method_61_code 6 "KeyPathModel") (hR : kRet X none q) (x1 x2 x4 t0 : Int) (σ : KM) {Θ : ((Int × Int × KM) ⊕ ((Int × KM) ⊕ ((Int × KM) ⊕ (Int × KM)))) → Prop} (hT : ∀ z, Θ (.inr (.inr (.inr (z)))) → z = q) (hb0 : ∀ s : Int × Int × KM, Θ (.inl s) → kW X 32 [lq 10, li x1, li x2, li s.1, li s.2.1, none] [] s.2.2) (hb1 : ∀ s : Int × KM, Θ (.inr (.inl s)) → kW X 12 [lq 10, li x1, li s.1, none, none, none] [] s.2) (hb2 : ∀ s : Int × KM, Θ (.inr (.inr (.inl s))) → kW X 2 [lq 10, li s.1, none, none, none, none] [] s.2) : kJ X 86 [lq 10, li x1, li x2, none, li x4, none] [ki t0] σ (fM_laysAhead_J86 x1 x2 x4 t0 σ) Θ := by
  refine k_istore_n (L' := [lq 10, li x1, li x2, li t0, li x4, none]) hX dM_laysAhead_86 rfl (by decide) rfl ?_
  refine k_iincL (Lf := fun y1 => [lq 10, li x1, li x2, li t0, li y1, none]) hX dM_laysAhead_87 rfl (by decide) rfl (fun _ => rfl) (fun y1 => ?_)
  refine k_goto (tgt := 32) hX dM_laysAhead_90 (by decide) ?_
  exact k_back (hb0 (t0, y1, σ))
set_option maxRecDepth 100000 in
set_option maxHeartbeats 4000000 in
theorem tM_laysAhead_B32 {X : KC} {q : Int × KM} (hX : kOk X 2 prog_11_method_61_code 6 "KeyPathModel") (hR : kRet X none q) (x1 x2 x3 x4 : Int) (σ : KM) {Θ : ((Int × Int × KM) ⊕ ((Int × KM) ⊕ ((Int × KM) ⊕ (Int × KM)))) → Prop} (hT : ∀ z, Θ (.inr (.inr (.inr (z)))) → z = q) (hb0 : ∀ s : Int × Int × KM, Θ (.inl s) → kW X 32 [lq 10, li x1, li x2, li s.1, li s.2.1, none] [] s.2.2) (hb1 : ∀ s : Int × KM, Θ (.inr (.inl s)) → kW X 12 [lq 10, li x1, li s.1, none, none, none] [] s.2) (hb2 : ∀ s : Int × KM, Θ (.inr (.inr (.inl s))) → kW X 2 [lq 10, li s.1, none, none, none, none] [] s.2) : kJ X 32 [lq 10, li x1, li x2, li x3, li x4, none] [] σ (fM_laysAhead_B32 x1 x2 x3 x4 σ) Θ := by
  refine k_iload hX dM_laysAhead_32 rfl ?_
  refine k_bipush hX dM_laysAhead_34 (by decide) ?_
  refine k_icmp_ge (tgt := 93) hX dM_laysAhead_36 (by decide) ?_ ?_
  · refine k_exit ?_
    refine k_less [true, true, true, true, false, true] (L' := [lq 10, li x1, li x2, li x3, none, none]) rfl ?_
    exact tM_laysAhead_J93 hX hR x1 x2 x3 σ hT hb1 hb2
  · refine k_iload_n hX dM_laysAhead_39 rfl ?_
    refine k_if_le (tgt := 93) hX dM_laysAhead_40 (by decide) ?_ ?_
    · refine k_exit ?_
      refine k_less [true, true, true, true, false, true] (L' := [lq 10, li x1, li x2, li x3, none, none]) rfl ?_
      exact tM_laysAhead_J93 hX hR x1 x2 x3 σ hT hb1 hb2
    · refine k_aload_n hX dM_laysAhead_43 rfl ?_
      refine gf_214 hX dM_laysAhead_44 ?_
      refine k_bipush hX dM_laysAhead_47 (by decide) ?_
      refine k_iload_n hX dM_laysAhead_49 rfl ?_
      refine k_iconst hX dM_laysAhead_50 ?_
      refine k_isub hX dM_laysAhead_51 ?_
      refine k_imul hX dM_laysAhead_52 ?_
      refine k_iload hX dM_laysAhead_53 rfl ?_
      refine k_iadd hX dM_laysAhead_55 ?_
      refine k_iald hX (by decide) rfl dM_laysAhead_56 rfl (fun y1 => ?_)
      refine k_aload_n hX dM_laysAhead_57 rfl ?_
      refine k_iload hX dM_laysAhead_58 rfl ?_
      refine k_iload_n hX dM_laysAhead_60 rfl ?_
      refine k_iload_n hX dM_laysAhead_61 rfl ?_
      refine k_aload_n hX dM_laysAhead_62 rfl ?_
      refine gf_179 hX dM_laysAhead_63 ?_
      refine cl_133 hX (by decide) (Nat.le_of_ble_eq_true rfl) dM_laysAhead_66 (fun r3 τ2 => ?_)
      refine cl_134 hX (by decide) (Nat.le_of_ble_eq_true rfl) dM_laysAhead_69 (fun r5 τ4 => ?_)
      refine k_istore (L' := [lq 10, li x1, li x2, li x3, li x4, li r5]) hX dM_laysAhead_72 rfl (by decide) rfl ?_
      refine k_iload hX dM_laysAhead_74 rfl ?_
      refine k_iload_n hX dM_laysAhead_76 rfl ?_
      refine k_icmp_ge (tgt := 85) hX dM_laysAhead_77 (by decide) ?_ ?_
      · refine k_iload_n hX dM_laysAhead_85 rfl ?_
        refine k_less [true, true, true, false, true, false] (L' := [lq 10, li x1, li x2, none, li x4, none]) rfl ?_
        exact tM_laysAhead_J86 hX hR x1 x2 x4 x3 τ4 hT hb0 hb1 hb2
      · refine k_iload hX dM_laysAhead_80 rfl ?_
        refine k_goto (tgt := 86) hX dM_laysAhead_82 (by decide) ?_
        refine k_less [true, true, true, false, true, false] (L' := [lq 10, li x1, li x2, none, li x4, none]) rfl ?_
        exact tM_laysAhead_J86 hX hR x1 x2 x4 r5 τ4 hT hb0 hb1 hb2
set_option maxRecDepth 100000 in
set_option maxHeartbeats 4000000 in
theorem tM_laysAhead_L32 {X : KC} {q : Int × KM} (hX : kOk X 2 prog_11_method_61_code 6 "KeyPathModel") (hR : kRet X none q) (x1 x2 x3 x4 : Int) (σ : KM) {Θ : ((Int × KM) ⊕ ((Int × KM) ⊕ (Int × KM))) → Prop} (hT : ∀ z, Θ (.inr (.inr (z))) → z = q) (hb0 : ∀ s : Int × KM, Θ (.inl s) → kW X 12 [lq 10, li x1, li s.1, none, none, none] [] s.2) (hb1 : ∀ s : Int × KM, Θ (.inr (.inl s)) → kW X 2 [lq 10, li s.1, none, none, none, none] [] s.2) : kJ X 32 [lq 10, li x1, li x2, li x3, li x4, none] [] σ (fM_laysAhead_L32 x1 x2 x3 x4 σ) Θ :=
  k_iter (f := fun s => fM_laysAhead_B32 x1 x2 s.1 s.2.1 s.2.2) (Lf := fun s => [lq 10, li x1, li x2, li s.1, li s.2.1, none]) (mf := fun s => s.2.2) (Θ := Θ) (fun s => tM_laysAhead_B32 hX hR x1 x2 s.1 s.2.1 s.2.2 hT (fun _ h9 => h9) hb0 hb1) kF (x3, x4, σ)
set_option maxRecDepth 100000 in
set_option maxHeartbeats 4000000 in
theorem tM_laysAhead_J28 {X : KC} {q : Int × KM} (hX : kOk X 2 prog_11_method_61_code 6 "KeyPathModel") (hR : kRet X none q) (x1 x2 t0 : Int) (σ : KM) {Θ : ((Int × KM) ⊕ ((Int × KM) ⊕ (Int × KM))) → Prop} (hT : ∀ z, Θ (.inr (.inr (z))) → z = q) (hb0 : ∀ s : Int × KM, Θ (.inl s) → kW X 12 [lq 10, li x1, li s.1, none, none, none] [] s.2) (hb1 : ∀ s : Int × KM, Θ (.inr (.inl s)) → kW X 2 [lq 10, li s.1, none, none, none, none] [] s.2) : kJ X 28 [lq 10, li x1, li x2, none, none, none] [ki t0] σ (fM_laysAhead_J28 x1 x2 t0 σ) Θ := by
  refine k_istore_n (L' := [lq 10, li x1, li x2, li t0, none, none]) hX dM_laysAhead_28 rfl (by decide) rfl ?_
  refine k_iconst hX dM_laysAhead_29 ?_
  refine k_istore (L' := [lq 10, li x1, li x2, li t0, li 0, none]) hX dM_laysAhead_30 rfl (by decide) rfl ?_
  exact tM_laysAhead_L32 hX hR x1 x2 t0 0 σ hT hb0 hb1
set_option maxRecDepth 100000 in
set_option maxHeartbeats 4000000 in
theorem tM_laysAhead_B12 {X : KC} {q : Int × KM} (hX : kOk X 2 prog_11_method_61_code 6 "KeyPathModel") (hR : kRet X none q) (x1 x2 : Int) (σ : KM) {Θ : ((Int × KM) ⊕ ((Int × KM) ⊕ (Int × KM))) → Prop} (hT : ∀ z, Θ (.inr (.inr (z))) → z = q) (hb0 : ∀ s : Int × KM, Θ (.inl s) → kW X 12 [lq 10, li x1, li s.1, none, none, none] [] s.2) (hb1 : ∀ s : Int × KM, Θ (.inr (.inl s)) → kW X 2 [lq 10, li s.1, none, none, none, none] [] s.2) : kJ X 12 [lq 10, li x1, li x2, none, none, none] [] σ (fM_laysAhead_B12 x1 x2 σ) Θ := by
  refine k_iload_n hX dM_laysAhead_12 rfl ?_
  refine k_bipush hX dM_laysAhead_13 (by decide) ?_
  refine k_icmp_ge (tgt := 125) hX dM_laysAhead_15 (by decide) ?_ ?_
  · refine k_exit ?_
    refine k_less [true, true, false, true, true, true] (L' := [lq 10, li x1, none, none, none, none]) rfl ?_
    exact tM_laysAhead_J125 hX hR x1 σ hT hb1
  · refine k_iload_n hX dM_laysAhead_18 rfl ?_
    refine k_if_ne (tgt := 26) hX dM_laysAhead_19 (by decide) ?_ ?_
    · refine k_ldc (v := 1000000000) (w := 0) hX dM_laysAhead_26 tw_1309 ?_
      exact tM_laysAhead_J28 hX hR x1 x2 1000000000 σ hT hb0 hb1
    · refine k_iconst hX dM_laysAhead_22 ?_
      refine k_goto (tgt := 28) hX dM_laysAhead_23 (by decide) ?_
      exact tM_laysAhead_J28 hX hR x1 x2 0 σ hT hb0 hb1
set_option maxRecDepth 100000 in
set_option maxHeartbeats 4000000 in
theorem tM_laysAhead_L12 {X : KC} {q : Int × KM} (hX : kOk X 2 prog_11_method_61_code 6 "KeyPathModel") (hR : kRet X none q) (x1 x2 : Int) (σ : KM) {Θ : ((Int × KM) ⊕ (Int × KM)) → Prop} (hT : ∀ z, Θ (.inr (z)) → z = q) (hb0 : ∀ s : Int × KM, Θ (.inl s) → kW X 2 [lq 10, li s.1, none, none, none, none] [] s.2) : kJ X 12 [lq 10, li x1, li x2, none, none, none] [] σ (fM_laysAhead_L12 x1 x2 σ) Θ :=
  k_iter (f := fun s => fM_laysAhead_B12 x1 s.1 s.2) (Lf := fun s => [lq 10, li x1, li s.1, none, none, none]) (mf := fun s => s.2) (Θ := Θ) (fun s => tM_laysAhead_B12 hX hR x1 s.1 s.2 hT (fun _ h9 => h9) hb0) kF (x2, σ)
set_option maxRecDepth 100000 in
set_option maxHeartbeats 4000000 in
theorem tM_laysAhead_B2 {X : KC} {q : Int × KM} (hX : kOk X 2 prog_11_method_61_code 6 "KeyPathModel") (hR : kRet X none q) (x1 : Int) (σ : KM) {Θ : ((Int × KM) ⊕ (Int × KM)) → Prop} (hT : ∀ z, Θ (.inr (z)) → z = q) (hb0 : ∀ s : Int × KM, Θ (.inl s) → kW X 2 [lq 10, li s.1, none, none, none, none] [] s.2) : kJ X 2 [lq 10, li x1, none, none, none, none] [] σ (fM_laysAhead_B2 x1 σ) Θ := by
  refine k_iload_n hX dM_laysAhead_2 rfl ?_
  refine k_aload_n hX dM_laysAhead_3 rfl ?_
  refine gf_174 hX dM_laysAhead_4 ?_
  refine k_icmp_ge (tgt := 131) hX dM_laysAhead_7 (by decide) ?_ ?_
  · refine k_exit ?_
    refine k_less [true, false, true, true, true, true] (L' := [lq 10, none, none, none, none, none]) rfl ?_
    exact tM_laysAhead_J131 hX hR σ hT
  · refine k_iconst hX dM_laysAhead_10 ?_
    refine k_istore_n (L' := [lq 10, li x1, li 0, none, none, none]) hX dM_laysAhead_11 rfl (by decide) rfl ?_
    exact tM_laysAhead_L12 hX hR x1 0 σ hT hb0
set_option maxRecDepth 100000 in
set_option maxHeartbeats 4000000 in
theorem tM_laysAhead_L2 {X : KC} {q : Int × KM} (hX : kOk X 2 prog_11_method_61_code 6 "KeyPathModel") (hR : kRet X none q) (x1 : Int) (σ : KM) {Θ : (Int × KM) → Prop} (hT : ∀ z, Θ (z) → z = q) : kJ X 2 [lq 10, li x1, none, none, none, none] [] σ (fM_laysAhead_L2 x1 σ) Θ :=
  k_iter (f := fun s => fM_laysAhead_B2 s.1 s.2) (Lf := fun s => [lq 10, li s.1, none, none, none, none]) (mf := fun s => s.2) (Θ := Θ) (fun s => tM_laysAhead_B2 hX hR s.1 s.2 hT (fun _ h9 => h9)) kF (x1, σ)
set_option maxRecDepth 100000 in
set_option maxHeartbeats 4000000 in
theorem sM_laysAhead (σ : KM) : kSem 2 (⟨"KeyPathModel", "laysAhead", "()V"⟩ : MethodName) prog_11_method_61_code 6 none [kr 10] σ (fM_laysAhead σ) := by
  refine kSem.of (L0 := [lq 10, none, none, none, none, none]) (by decide) (Nat.le_of_ble_eq_true rfl) rfl (fun X q hX hR => ?_)
  have hT : ∀ z : Int × KM, (fun z => z = q) z → z = q := fun _ h => h
  refine k_iconst hX dM_laysAhead_0 ?_
  refine k_istore_n (L' := [lq 10, li 0, none, none, none, none]) hX dM_laysAhead_1 rfl (by decide) rfl ?_
  exact tM_laysAhead_L2 hX hR 0 σ hT
theorem cl_162 {X : KC} {d n : Nat} {cc : ByteArray} {pc : Nat} {L : List (Option KV)} {st : List KV} {σ : KM} {Z : Type} {Θ : Z → Prop} {G : Int → KM → Option Z} (hX : kOk X d cc n "KeyPathModel") (hdd : 2 + 1 ≤ d) (hst : k_cat st ≤ 8) (hd : decode cc pc = .ok (.invokevirtual 290, 3)) (h : ∀ r τ, kJ X (pc + 3) L (st) τ (G r τ) Θ) : kJ X pc L (kr 10 :: st) σ (kCall (fM_laysAhead σ) G) Θ :=
  k_callV (np := 0) (av := []) (ret := none) hX (by decide) rfl rfl rfl (sM_laysAhead σ) ⟨⟨hdd, by decide⟩, tw_1364, tw_11, by decide +kernel⟩ rfl tw_1361 tw_1363 ts_65 hst hd h
theorem dM_throughNow_0 : decode prog_11_method_62_code 0 = .ok (.bipush 24, 2) := by decide +kernel
theorem dM_throughNow_2 : decode prog_11_method_62_code 2 = .ok (.iload_n 1, 1) := by decide +kernel
theorem dM_throughNow_3 : decode prog_11_method_62_code 3 = .ok (.imul, 1) := by decide +kernel
theorem dM_throughNow_4 : decode prog_11_method_62_code 4 = .ok (.iload_n 2, 1) := by decide +kernel
theorem dM_throughNow_5 : decode prog_11_method_62_code 5 = .ok (.iadd, 1) := by decide +kernel
theorem dM_throughNow_6 : decode prog_11_method_62_code 6 = .ok (.istore_n 3, 1) := by decide +kernel
theorem dM_throughNow_7 : decode prog_11_method_62_code 7 = .ok (.aload_n 0, 1) := by decide +kernel
theorem dM_throughNow_8 : decode prog_11_method_62_code 8 = .ok (.getfield 81, 3) := by decide +kernel
theorem dM_throughNow_11 : decode prog_11_method_62_code 11 = .ok (.iload_n 3, 1) := by decide +kernel
theorem dM_throughNow_12 : decode prog_11_method_62_code 12 = .ok (.iaload, 1) := by decide +kernel
theorem dM_throughNow_13 : decode prog_11_method_62_code 13 = .ok (.aload_n 0, 1) := by decide +kernel
theorem dM_throughNow_14 : decode prog_11_method_62_code 14 = .ok (.getfield 84, 3) := by decide +kernel
theorem dM_throughNow_17 : decode prog_11_method_62_code 17 = .ok (.iload_n 3, 1) := by decide +kernel
theorem dM_throughNow_18 : decode prog_11_method_62_code 18 = .ok (.iaload, 1) := by decide +kernel
theorem dM_throughNow_19 : decode prog_11_method_62_code 19 = .ok (.invokestatic 274, 3) := by decide +kernel
theorem dM_throughNow_22 : decode prog_11_method_62_code 22 = .ok (.istore 4, 2) := by decide +kernel
theorem dM_throughNow_24 : decode prog_11_method_62_code 24 = .ok (.iload 4, 2) := by decide +kernel
theorem dM_throughNow_26 : decode prog_11_method_62_code 26 = .ok (.ldc 254, 2) := by decide +kernel
theorem dM_throughNow_28 : decode prog_11_method_62_code 28 = .ok (.if_icmp .lt 7, 3) := by decide +kernel
theorem dM_throughNow_31 : decode prog_11_method_62_code 31 = .ok (.iconst (-1), 1) := by decide +kernel
theorem dM_throughNow_32 : decode prog_11_method_62_code 32 = .ok (.goto 12, 3) := by decide +kernel
theorem dM_throughNow_35 : decode prog_11_method_62_code 35 = .ok (.iload 4, 2) := by decide +kernel
theorem dM_throughNow_37 : decode prog_11_method_62_code 37 = .ok (.aload_n 0, 1) := by decide +kernel
theorem dM_throughNow_38 : decode prog_11_method_62_code 38 = .ok (.getfield 78, 3) := by decide +kernel
theorem dM_throughNow_41 : decode prog_11_method_62_code 41 = .ok (.iload_n 3, 1) := by decide +kernel
theorem dM_throughNow_42 : decode prog_11_method_62_code 42 = .ok (.iaload, 1) := by decide +kernel
theorem dM_throughNow_43 : decode prog_11_method_62_code 43 = .ok (.isub, 1) := by decide +kernel
theorem dM_throughNow_44 : decode prog_11_method_62_code 44 = .ok (.ireturn, 1) := by decide +kernel
set_option maxRecDepth 100000 in
set_option maxHeartbeats 4000000 in
theorem tM_throughNow_J44 {X : KC} {q : Int × KM} (hX : kOk X 2 prog_11_method_62_code 5 "KeyPathModel") (hR : kRet X (some .int) q) (t0 : Int) (σ : KM) {Θ : (Int × KM) → Prop} (hT : ∀ z, Θ (z) → z = q) : kJ X 44 [lq 10, none, none, none, none] [ki t0] σ (fM_throughNow_J44 t0 σ) Θ := by
  exact k_iret hX hR hT dM_throughNow_44
set_option maxRecDepth 100000 in
set_option maxHeartbeats 4000000 in
theorem sM_throughNow (x1 x2 : Int) (σ : KM) : kSem 2 (⟨"KeyPathModel", "throughNow", "(II)I"⟩ : MethodName) prog_11_method_62_code 5 (some .int) [kr 10, ki x1, ki x2] σ (fM_throughNow x1 x2 σ) := by
  refine kSem.of (L0 := [lq 10, li x1, li x2, none, none]) (by decide) (Nat.le_of_ble_eq_true rfl) rfl (fun X q hX hR => ?_)
  have hT : ∀ z : Int × KM, (fun z => z = q) z → z = q := fun _ h => h
  refine k_bipush hX dM_throughNow_0 (by decide) ?_
  refine k_iload_n hX dM_throughNow_2 rfl ?_
  refine k_imul hX dM_throughNow_3 ?_
  refine k_iload_n hX dM_throughNow_4 rfl ?_
  refine k_iadd hX dM_throughNow_5 ?_
  refine k_istoreL_n (Lf := fun y1 => [lq 10, li x1, li x2, li y1, none]) hX dM_throughNow_6 rfl (by decide) (fun _ => rfl) (fun y1 => ?_)
  refine k_aload_n hX dM_throughNow_7 rfl ?_
  refine gf_214 hX dM_throughNow_8 ?_
  refine k_iload_n hX dM_throughNow_11 rfl ?_
  refine k_iald hX (by decide) rfl dM_throughNow_12 rfl (fun y2 => ?_)
  refine k_aload_n hX dM_throughNow_13 rfl ?_
  refine gf_183 hX dM_throughNow_14 ?_
  refine k_iload_n hX dM_throughNow_17 rfl ?_
  refine k_iald hX (by decide) rfl dM_throughNow_18 rfl (fun y3 => ?_)
  refine cl_134 hX (by decide) (Nat.le_of_ble_eq_true rfl) dM_throughNow_19 (fun r5 τ4 => ?_)
  refine k_istore (L' := [lq 10, li x1, li x2, li y1, li r5]) hX dM_throughNow_22 rfl (by decide) rfl ?_
  refine k_iload hX dM_throughNow_24 rfl ?_
  refine k_ldc (v := 1000000000) (w := 0) hX dM_throughNow_26 tw_1309 ?_
  refine k_icmp_lt (tgt := 35) hX dM_throughNow_28 (by decide) ?_ ?_
  · refine k_iload hX dM_throughNow_35 rfl ?_
    refine k_aload_n hX dM_throughNow_37 rfl ?_
    refine gf_176 hX dM_throughNow_38 ?_
    refine k_iload_n hX dM_throughNow_41 rfl ?_
    refine k_iald hX (by decide) rfl dM_throughNow_42 rfl (fun y6 => ?_)
    refine k_isub hX dM_throughNow_43 ?_
    refine k_less [true, false, false, false, false] (L' := [lq 10, none, none, none, none]) rfl ?_
    exact tM_throughNow_J44 hX hR (r5 - y6) τ4 hT
  · refine k_iconst hX dM_throughNow_31 ?_
    refine k_goto (tgt := 44) hX dM_throughNow_32 (by decide) ?_
    refine k_less [true, false, false, false, false] (L' := [lq 10, none, none, none, none]) rfl ?_
    exact tM_throughNow_J44 hX hR (-1) τ4 hT
theorem cl_163 {X : KC} {d n : Nat} {cc : ByteArray} {pc : Nat} {L : List (Option KV)} {st : List KV} {σ : KM} {Z : Type} {Θ : Z → Prop} {G : Int → KM → Option Z} {x1 x2 : Int} (hX : kOk X d cc n "KeyPathModel") (hdd : 2 + 1 ≤ d) (hst : k_cat st ≤ 8) (hd : decode cc pc = .ok (.invokevirtual 293, 3)) (h : ∀ r τ, kJ X (pc + 3) L (ki r :: st) τ (G r τ) Θ) : kJ X pc L (ki x2 :: ki x1 :: kr 10 :: st) σ (kCall (fM_throughNow x1 x2 σ) G) Θ :=
  k_callV (np := 2) (av := [ki x1, ki x2]) (ret := (some .int)) hX (by decide) rfl rfl rfl (sM_throughNow _ _ σ) ⟨⟨hdd, by decide⟩, tw_1368, tw_11, by decide +kernel⟩ rfl tw_1365 tw_1367 ts_66 hst hd h
theorem dM_through_0 : decode prog_11_method_63_code 0 = .ok (.aload_n 0, 1) := by decide +kernel
theorem dM_through_1 : decode prog_11_method_63_code 1 = .ok (.iconst 0, 1) := by decide +kernel
theorem dM_through_2 : decode prog_11_method_63_code 2 = .ok (.putfield 1, 3) := by decide +kernel
theorem dM_through_5 : decode prog_11_method_63_code 5 = .ok (.aload_n 0, 1) := by decide +kernel
theorem dM_through_6 : decode prog_11_method_63_code 6 = .ok (.iload_n 1, 1) := by decide +kernel
theorem dM_through_7 : decode prog_11_method_63_code 7 = .ok (.invokevirtual 229, 3) := by decide +kernel
theorem dM_through_10 : decode prog_11_method_63_code 10 = .ok (.ifCond .eq 10, 3) := by decide +kernel
theorem dM_through_13 : decode prog_11_method_63_code 13 = .ok (.iload_n 2, 1) := by decide +kernel
theorem dM_through_14 : decode prog_11_method_63_code 14 = .ok (.invokestatic 220, 3) := by decide +kernel
theorem dM_through_17 : decode prog_11_method_63_code 17 = .ok (.ifCond .ne 6, 3) := by decide +kernel
theorem dM_through_20 : decode prog_11_method_63_code 20 = .ok (.bipush (-2), 2) := by decide +kernel
theorem dM_through_22 : decode prog_11_method_63_code 22 = .ok (.ireturn, 1) := by decide +kernel
theorem dM_through_23 : decode prog_11_method_63_code 23 = .ok (.aload_n 0, 1) := by decide +kernel
theorem dM_through_24 : decode prog_11_method_63_code 24 = .ok (.invokevirtual 287, 3) := by decide +kernel
theorem dM_through_27 : decode prog_11_method_63_code 27 = .ok (.ifCond .ne 6, 3) := by decide +kernel
theorem dM_through_30 : decode prog_11_method_63_code 30 = .ok (.bipush (-5), 2) := by decide +kernel
theorem dM_through_32 : decode prog_11_method_63_code 32 = .ok (.ireturn, 1) := by decide +kernel
theorem dM_through_33 : decode prog_11_method_63_code 33 = .ok (.aload_n 0, 1) := by decide +kernel
theorem dM_through_34 : decode prog_11_method_63_code 34 = .ok (.invokevirtual 290, 3) := by decide +kernel
theorem dM_through_37 : decode prog_11_method_63_code 37 = .ok (.aload_n 0, 1) := by decide +kernel
theorem dM_through_38 : decode prog_11_method_63_code 38 = .ok (.iload_n 1, 1) := by decide +kernel
theorem dM_through_39 : decode prog_11_method_63_code 39 = .ok (.iload_n 2, 1) := by decide +kernel
theorem dM_through_40 : decode prog_11_method_63_code 40 = .ok (.invokevirtual 293, 3) := by decide +kernel
theorem dM_through_43 : decode prog_11_method_63_code 43 = .ok (.ireturn, 1) := by decide +kernel
set_option maxRecDepth 100000 in
set_option maxHeartbeats 4000000 in
theorem tM_through_J20 {X : KC} {q : Int × KM} (hX : kOk X 6 prog_11_method_63_code 3 "KeyPathModel") (hR : kRet X (some .int) q) (σ : KM) {Θ : (Int × KM) → Prop} (hT : ∀ z, Θ (z) → z = q) : kJ X 20 [lq 10, none, none] [] σ (fM_through_J20 σ) Θ := by
  refine k_bipush hX dM_through_20 (by decide) ?_
  exact k_iret hX hR hT dM_through_22
set_option maxRecDepth 100000 in
set_option maxHeartbeats 4000000 in
theorem sM_through (x1 x2 : Int) (σ : KM) : kSem 6 (⟨"KeyPathModel", "through", "(II)I"⟩ : MethodName) prog_11_method_63_code 3 (some .int) [kr 10, ki x1, ki x2] σ (fM_through x1 x2 σ) := by
  refine kSem.of (L0 := [lq 10, li x1, li x2]) (by decide) (Nat.le_of_ble_eq_true rfl) rfl (fun X q hX hR => ?_)
  have hT : ∀ z : Int × KM, (fun z => z = q) z → z = q := fun _ h => h
  refine k_aload_n hX dM_through_0 rfl ?_
  refine k_iconst hX dM_through_1 ?_
  refine gp_157 hX dM_through_2 (fun τ1 => ?_)
  refine k_aload_n hX dM_through_5 rfl ?_
  refine k_iload_n hX dM_through_6 rfl ?_
  refine cl_121 hX (by decide) (Nat.le_of_ble_eq_true rfl) dM_through_7 (fun r3 τ2 => ?_)
  refine k_if_eq (tgt := 20) hX dM_through_10 (by decide) ?_ ?_
  · refine k_less [true, false, false] (L' := [lq 10, none, none]) rfl ?_
    exact tM_through_J20 hX hR τ2 hT
  · refine k_iload_n hX dM_through_13 rfl ?_
    refine cl_143 hX (by decide) (Nat.le_of_ble_eq_true rfl) dM_through_14 (fun r5 τ4 => ?_)
    refine k_if_ne (tgt := 23) hX dM_through_17 (by decide) ?_ ?_
    · refine k_aload_n hX dM_through_23 rfl ?_
      refine cl_136 hX (by decide) (Nat.le_of_ble_eq_true rfl) dM_through_24 (fun r7 τ6 => ?_)
      refine k_if_ne (tgt := 33) hX dM_through_27 (by decide) ?_ ?_
      · refine k_aload_n hX dM_through_33 rfl ?_
        refine cl_162 hX (by decide) (Nat.le_of_ble_eq_true rfl) dM_through_34 (fun _ τ8 => ?_)
        refine k_aload_n hX dM_through_37 rfl ?_
        refine k_iload_n hX dM_through_38 rfl ?_
        refine k_iload_n hX dM_through_39 rfl ?_
        refine cl_163 hX (by decide) (Nat.le_of_ble_eq_true rfl) dM_through_40 (fun r10 τ9 => ?_)
        exact k_iret hX hR hT dM_through_43
      · refine k_bipush hX dM_through_30 (by decide) ?_
        exact k_iret hX hR hT dM_through_32
    · refine k_less [true, false, false] (L' := [lq 10, none, none]) rfl ?_
      exact tM_through_J20 hX hR τ4 hT
theorem dM_ties_0 : decode prog_11_method_60_code 0 = .ok (.aload_n 0, 1) := by decide +kernel
theorem dM_ties_1 : decode prog_11_method_60_code 1 = .ok (.iconst 0, 1) := by decide +kernel
theorem dM_ties_2 : decode prog_11_method_60_code 2 = .ok (.putfield 1, 3) := by decide +kernel
theorem dM_ties_5 : decode prog_11_method_60_code 5 = .ok (.aload_n 0, 1) := by decide +kernel
theorem dM_ties_6 : decode prog_11_method_60_code 6 = .ok (.invokevirtual 287, 3) := by decide +kernel
theorem dM_ties_9 : decode prog_11_method_60_code 9 = .ok (.ifCond .ne 6, 3) := by decide +kernel
theorem dM_ties_12 : decode prog_11_method_60_code 12 = .ok (.bipush (-5), 2) := by decide +kernel
theorem dM_ties_14 : decode prog_11_method_60_code 14 = .ok (.ireturn, 1) := by decide +kernel
theorem dM_ties_15 : decode prog_11_method_60_code 15 = .ok (.aload_n 0, 1) := by decide +kernel
theorem dM_ties_16 : decode prog_11_method_60_code 16 = .ok (.getfield 267, 3) := by decide +kernel
theorem dM_ties_19 : decode prog_11_method_60_code 19 = .ok (.ifCond .ne 5, 3) := by decide +kernel
theorem dM_ties_22 : decode prog_11_method_60_code 22 = .ok (.iconst 1, 1) := by decide +kernel
theorem dM_ties_23 : decode prog_11_method_60_code 23 = .ok (.ireturn, 1) := by decide +kernel
theorem dM_ties_24 : decode prog_11_method_60_code 24 = .ok (.iconst 0, 1) := by decide +kernel
theorem dM_ties_25 : decode prog_11_method_60_code 25 = .ok (.istore_n 1, 1) := by decide +kernel
theorem dM_ties_26 : decode prog_11_method_60_code 26 = .ok (.iconst 0, 1) := by decide +kernel
theorem dM_ties_27 : decode prog_11_method_60_code 27 = .ok (.istore_n 2, 1) := by decide +kernel
theorem dM_ties_28 : decode prog_11_method_60_code 28 = .ok (.iload_n 2, 1) := by decide +kernel
theorem dM_ties_29 : decode prog_11_method_60_code 29 = .ok (.bipush 24, 2) := by decide +kernel
theorem dM_ties_31 : decode prog_11_method_60_code 31 = .ok (.if_icmp .ge 42, 3) := by decide +kernel
theorem dM_ties_34 : decode prog_11_method_60_code 34 = .ok (.iload_n 1, 1) := by decide +kernel
theorem dM_ties_35 : decode prog_11_method_60_code 35 = .ok (.aload_n 0, 1) := by decide +kernel
theorem dM_ties_36 : decode prog_11_method_60_code 36 = .ok (.getfield 84, 3) := by decide +kernel
theorem dM_ties_39 : decode prog_11_method_60_code 39 = .ok (.iload_n 2, 1) := by decide +kernel
theorem dM_ties_40 : decode prog_11_method_60_code 40 = .ok (.iaload, 1) := by decide +kernel
theorem dM_ties_41 : decode prog_11_method_60_code 41 = .ok (.aload_n 0, 1) := by decide +kernel
theorem dM_ties_42 : decode prog_11_method_60_code 42 = .ok (.getfield 278, 3) := by decide +kernel
theorem dM_ties_45 : decode prog_11_method_60_code 45 = .ok (.if_icmp .ne 19, 3) := by decide +kernel
theorem dM_ties_48 : decode prog_11_method_60_code 48 = .ok (.iload_n 1, 1) := by decide +kernel
theorem dM_ties_49 : decode prog_11_method_60_code 49 = .ok (.ldc_w 277, 3) := by decide +kernel
theorem dM_ties_52 : decode prog_11_method_60_code 52 = .ok (.if_icmp .ge 12, 3) := by decide +kernel
theorem dM_ties_55 : decode prog_11_method_60_code 55 = .ok (.aload_n 0, 1) := by decide +kernel
theorem dM_ties_56 : decode prog_11_method_60_code 56 = .ok (.getfield 87, 3) := by decide +kernel
theorem dM_ties_59 : decode prog_11_method_60_code 59 = .ok (.iload_n 2, 1) := by decide +kernel
theorem dM_ties_60 : decode prog_11_method_60_code 60 = .ok (.iaload, 1) := by decide +kernel
theorem dM_ties_61 : decode prog_11_method_60_code 61 = .ok (.goto 4, 3) := by decide +kernel
theorem dM_ties_64 : decode prog_11_method_60_code 64 = .ok (.iconst 0, 1) := by decide +kernel
theorem dM_ties_65 : decode prog_11_method_60_code 65 = .ok (.iadd, 1) := by decide +kernel
theorem dM_ties_66 : decode prog_11_method_60_code 66 = .ok (.istore_n 1, 1) := by decide +kernel
theorem dM_ties_67 : decode prog_11_method_60_code 67 = .ok (.iinc 2 1, 3) := by decide +kernel
theorem dM_ties_70 : decode prog_11_method_60_code 70 = .ok (.goto (-42), 3) := by decide +kernel
theorem dM_ties_73 : decode prog_11_method_60_code 73 = .ok (.iload_n 1, 1) := by decide +kernel
theorem dM_ties_74 : decode prog_11_method_60_code 74 = .ok (.ldc_w 277, 3) := by decide +kernel
theorem dM_ties_77 : decode prog_11_method_60_code 77 = .ok (.if_icmp .le 9, 3) := by decide +kernel
theorem dM_ties_80 : decode prog_11_method_60_code 80 = .ok (.ldc_w 277, 3) := by decide +kernel
theorem dM_ties_83 : decode prog_11_method_60_code 83 = .ok (.goto 4, 3) := by decide +kernel
theorem dM_ties_86 : decode prog_11_method_60_code 86 = .ok (.iload_n 1, 1) := by decide +kernel
theorem dM_ties_87 : decode prog_11_method_60_code 87 = .ok (.ireturn, 1) := by decide +kernel
set_option maxRecDepth 100000 in
set_option maxHeartbeats 4000000 in
theorem tM_ties_J87 {X : KC} {q : Int × KM} (hX : kOk X 6 prog_11_method_60_code 3 "KeyPathModel") (hR : kRet X (some .int) q) (t0 : Int) (σ : KM) {Θ : (Int × KM) → Prop} (hT : ∀ z, Θ (z) → z = q) : kJ X 87 [lq 10, none, none] [ki t0] σ (fM_ties_J87 t0 σ) Θ := by
  exact k_iret hX hR hT dM_ties_87
set_option maxRecDepth 100000 in
set_option maxHeartbeats 4000000 in
theorem tM_ties_J73 {X : KC} {q : Int × KM} (hX : kOk X 6 prog_11_method_60_code 3 "KeyPathModel") (hR : kRet X (some .int) q) (x1 : Int) (σ : KM) {Θ : (Int × KM) → Prop} (hT : ∀ z, Θ (z) → z = q) : kJ X 73 [lq 10, li x1, none] [] σ (fM_ties_J73 x1 σ) Θ := by
  refine k_iload_n hX dM_ties_73 rfl ?_
  refine k_ldcw (v := 1000000) (w := 0) hX dM_ties_74 tw_1348 ?_
  refine k_icmp_le (tgt := 86) hX dM_ties_77 (by decide) ?_ ?_
  · refine k_iload_n hX dM_ties_86 rfl ?_
    refine k_less [true, false, true] (L' := [lq 10, none, none]) rfl ?_
    exact tM_ties_J87 hX hR x1 σ hT
  · refine k_ldcw (v := 1000000) (w := 0) hX dM_ties_80 tw_1348 ?_
    refine k_goto (tgt := 87) hX dM_ties_83 (by decide) ?_
    refine k_less [true, false, true] (L' := [lq 10, none, none]) rfl ?_
    exact tM_ties_J87 hX hR 1000000 σ hT
set_option maxRecDepth 100000 in
set_option maxHeartbeats 4000000 in
theorem tM_ties_J65 {X : KC} {q : Int × KM} (hX : kOk X 6 prog_11_method_60_code 3 "KeyPathModel") (hR : kRet X (some .int) q) (x2 t0 t1 : Int) (σ : KM) {Θ : ((Int × Int × KM) ⊕ (Int × KM)) → Prop} (hT : ∀ z, Θ (.inr (z)) → z = q) (hb0 : ∀ s : Int × Int × KM, Θ (.inl s) → kW X 28 [lq 10, li s.1, li s.2.1] [] s.2.2) : kJ X 65 [lq 10, none, li x2] [ki t0, ki t1] σ (fM_ties_J65 x2 t0 t1 σ) Θ := by
  refine k_iadd hX dM_ties_65 ?_
  refine k_istoreL_n (Lf := fun y1 => [lq 10, li y1, li x2]) hX dM_ties_66 rfl (by decide) (fun _ => rfl) (fun y1 => ?_)
  refine k_iincL (Lf := fun y2 => [lq 10, li y1, li y2]) hX dM_ties_67 rfl (by decide) rfl (fun _ => rfl) (fun y2 => ?_)
  refine k_goto (tgt := 28) hX dM_ties_70 (by decide) ?_
  exact k_back (hb0 (y1, y2, σ))
set_option maxRecDepth 100000 in
set_option maxHeartbeats 4000000 in
theorem tM_ties_J64 {X : KC} {q : Int × KM} (hX : kOk X 6 prog_11_method_60_code 3 "KeyPathModel") (hR : kRet X (some .int) q) (x2 t0 : Int) (σ : KM) {Θ : ((Int × Int × KM) ⊕ (Int × KM)) → Prop} (hT : ∀ z, Θ (.inr (z)) → z = q) (hb0 : ∀ s : Int × Int × KM, Θ (.inl s) → kW X 28 [lq 10, li s.1, li s.2.1] [] s.2.2) : kJ X 64 [lq 10, none, li x2] [ki t0] σ (fM_ties_J64 x2 t0 σ) Θ := by
  refine k_iconst hX dM_ties_64 ?_
  exact tM_ties_J65 hX hR x2 0 t0 σ hT hb0
set_option maxRecDepth 100000 in
set_option maxHeartbeats 4000000 in
theorem tM_ties_B28 {X : KC} {q : Int × KM} (hX : kOk X 6 prog_11_method_60_code 3 "KeyPathModel") (hR : kRet X (some .int) q) (x1 x2 : Int) (σ : KM) {Θ : ((Int × Int × KM) ⊕ (Int × KM)) → Prop} (hT : ∀ z, Θ (.inr (z)) → z = q) (hb0 : ∀ s : Int × Int × KM, Θ (.inl s) → kW X 28 [lq 10, li s.1, li s.2.1] [] s.2.2) : kJ X 28 [lq 10, li x1, li x2] [] σ (fM_ties_B28 x1 x2 σ) Θ := by
  refine k_iload_n hX dM_ties_28 rfl ?_
  refine k_bipush hX dM_ties_29 (by decide) ?_
  refine k_icmp_ge (tgt := 73) hX dM_ties_31 (by decide) ?_ ?_
  · refine k_exit ?_
    refine k_less [true, true, false] (L' := [lq 10, li x1, none]) rfl ?_
    exact tM_ties_J73 hX hR x1 σ hT
  · refine k_iload_n hX dM_ties_34 rfl ?_
    refine k_aload_n hX dM_ties_35 rfl ?_
    refine gf_183 hX dM_ties_36 ?_
    refine k_iload_n hX dM_ties_39 rfl ?_
    refine k_iald hX (by decide) rfl dM_ties_40 rfl (fun y1 => ?_)
    refine k_aload_n hX dM_ties_41 rfl ?_
    refine gf_181 hX dM_ties_42 ?_
    refine k_icmp_ne (tgt := 64) hX dM_ties_45 (by decide) ?_ ?_
    · refine k_less [true, false, true] (L' := [lq 10, none, li x2]) rfl ?_
      exact tM_ties_J64 hX hR x2 x1 σ hT hb0
    · refine k_iload_n hX dM_ties_48 rfl ?_
      refine k_ldcw (v := 1000000) (w := 0) hX dM_ties_49 tw_1348 ?_
      refine k_icmp_ge (tgt := 64) hX dM_ties_52 (by decide) ?_ ?_
      · refine k_less [true, false, true] (L' := [lq 10, none, li x2]) rfl ?_
        exact tM_ties_J64 hX hR x2 x1 σ hT hb0
      · refine k_aload_n hX dM_ties_55 rfl ?_
        refine gf_184 hX dM_ties_56 ?_
        refine k_iload_n hX dM_ties_59 rfl ?_
        refine k_iald hX (by decide) rfl dM_ties_60 rfl (fun y2 => ?_)
        refine k_goto (tgt := 65) hX dM_ties_61 (by decide) ?_
        refine k_less [true, false, true] (L' := [lq 10, none, li x2]) rfl ?_
        exact tM_ties_J65 hX hR x2 y2 x1 σ hT hb0
set_option maxRecDepth 100000 in
set_option maxHeartbeats 4000000 in
theorem tM_ties_L28 {X : KC} {q : Int × KM} (hX : kOk X 6 prog_11_method_60_code 3 "KeyPathModel") (hR : kRet X (some .int) q) (x1 x2 : Int) (σ : KM) {Θ : (Int × KM) → Prop} (hT : ∀ z, Θ (z) → z = q) : kJ X 28 [lq 10, li x1, li x2] [] σ (fM_ties_L28 x1 x2 σ) Θ :=
  k_iter (f := fun s => fM_ties_B28 s.1 s.2.1 s.2.2) (Lf := fun s => [lq 10, li s.1, li s.2.1]) (mf := fun s => s.2.2) (Θ := Θ) (fun s => tM_ties_B28 hX hR s.1 s.2.1 s.2.2 hT (fun _ h9 => h9)) kF (x1, x2, σ)
set_option maxRecDepth 100000 in
set_option maxHeartbeats 4000000 in
theorem sM_ties (σ : KM) : kSem 6 (⟨"KeyPathModel", "ties", "()I"⟩ : MethodName) prog_11_method_60_code 3 (some .int) [kr 10] σ (fM_ties σ) := by
  refine kSem.of (L0 := [lq 10, none, none]) (by decide) (Nat.le_of_ble_eq_true rfl) rfl (fun X q hX hR => ?_)
  have hT : ∀ z : Int × KM, (fun z => z = q) z → z = q := fun _ h => h
  refine k_aload_n hX dM_ties_0 rfl ?_
  refine k_iconst hX dM_ties_1 ?_
  refine gp_157 hX dM_ties_2 (fun τ1 => ?_)
  refine k_aload_n hX dM_ties_5 rfl ?_
  refine cl_136 hX (by decide) (Nat.le_of_ble_eq_true rfl) dM_ties_6 (fun r3 τ2 => ?_)
  refine k_if_ne (tgt := 15) hX dM_ties_9 (by decide) ?_ ?_
  · refine k_aload_n hX dM_ties_15 rfl ?_
    refine gf_174 hX dM_ties_16 ?_
    refine k_if_ne (tgt := 24) hX dM_ties_19 (by decide) ?_ ?_
    · refine k_iconst hX dM_ties_24 ?_
      refine k_istore_n (L' := [lq 10, li 0, none]) hX dM_ties_25 rfl (by decide) rfl ?_
      refine k_iconst hX dM_ties_26 ?_
      refine k_istore_n (L' := [lq 10, li 0, li 0]) hX dM_ties_27 rfl (by decide) rfl ?_
      exact tM_ties_L28 hX hR 0 0 τ2 hT
    · refine k_iconst hX dM_ties_22 ?_
      exact k_iret hX hR hT dM_ties_23
  · refine k_bipush hX dM_ties_12 (by decide) ?_
    exact k_iret hX hR hT dM_ties_14
theorem dM_tones_0 : decode prog_11_method_35_code 0 = .ok (.aload_n 0, 1) := by decide +kernel
theorem dM_tones_1 : decode prog_11_method_35_code 1 = .ok (.iconst 0, 1) := by decide +kernel
theorem dM_tones_2 : decode prog_11_method_35_code 2 = .ok (.putfield 1, 3) := by decide +kernel
theorem dM_tones_5 : decode prog_11_method_35_code 5 = .ok (.aload_n 0, 1) := by decide +kernel
theorem dM_tones_6 : decode prog_11_method_35_code 6 = .ok (.iload_n 1, 1) := by decide +kernel
theorem dM_tones_7 : decode prog_11_method_35_code 7 = .ok (.invokevirtual 229, 3) := by decide +kernel
theorem dM_tones_10 : decode prog_11_method_35_code 10 = .ok (.ifCond .ne 6, 3) := by decide +kernel
theorem dM_tones_13 : decode prog_11_method_35_code 13 = .ok (.bipush (-2), 2) := by decide +kernel
theorem dM_tones_15 : decode prog_11_method_35_code 15 = .ok (.ireturn, 1) := by decide +kernel
theorem dM_tones_16 : decode prog_11_method_35_code 16 = .ok (.iload_n 2, 1) := by decide +kernel
theorem dM_tones_17 : decode prog_11_method_35_code 17 = .ok (.iconst (-1), 1) := by decide +kernel
theorem dM_tones_18 : decode prog_11_method_35_code 18 = .ok (.if_icmp .eq 18, 3) := by decide +kernel
theorem dM_tones_21 : decode prog_11_method_35_code 21 = .ok (.iload_n 2, 1) := by decide +kernel
theorem dM_tones_22 : decode prog_11_method_35_code 22 = .ok (.i2l, 1) := by decide +kernel
theorem dM_tones_23 : decode prog_11_method_35_code 23 = .ok (.lconst 0, 1) := by decide +kernel
theorem dM_tones_24 : decode prog_11_method_35_code 24 = .ok (.ldc2_w 208, 3) := by decide +kernel
theorem dM_tones_27 : decode prog_11_method_35_code 27 = .ok (.invokestatic 134, 3) := by decide +kernel
theorem dM_tones_30 : decode prog_11_method_35_code 30 = .ok (.ifCond .ne 6, 3) := by decide +kernel
theorem dM_tones_33 : decode prog_11_method_35_code 33 = .ok (.bipush (-3), 2) := by decide +kernel
theorem dM_tones_35 : decode prog_11_method_35_code 35 = .ok (.ireturn, 1) := by decide +kernel
theorem dM_tones_36 : decode prog_11_method_35_code 36 = .ok (.aload_n 0, 1) := by decide +kernel
theorem dM_tones_37 : decode prog_11_method_35_code 37 = .ok (.iload_n 1, 1) := by decide +kernel
theorem dM_tones_38 : decode prog_11_method_35_code 38 = .ok (.invokevirtual 232, 3) := by decide +kernel
theorem dM_tones_41 : decode prog_11_method_35_code 41 = .ok (.iload_n 2, 1) := by decide +kernel
theorem dM_tones_42 : decode prog_11_method_35_code 42 = .ok (.iconst (-1), 1) := by decide +kernel
theorem dM_tones_43 : decode prog_11_method_35_code 43 = .ok (.if_icmp .ne 10, 3) := by decide +kernel
theorem dM_tones_46 : decode prog_11_method_35_code 46 = .ok (.aload_n 0, 1) := by decide +kernel
theorem dM_tones_47 : decode prog_11_method_35_code 47 = .ok (.getfield 223, 3) := by decide +kernel
theorem dM_tones_50 : decode prog_11_method_35_code 50 = .ok (.goto 9, 3) := by decide +kernel
theorem dM_tones_53 : decode prog_11_method_35_code 53 = .ok (.aload_n 0, 1) := by decide +kernel
theorem dM_tones_54 : decode prog_11_method_35_code 54 = .ok (.getfield 66, 3) := by decide +kernel
theorem dM_tones_57 : decode prog_11_method_35_code 57 = .ok (.iload_n 2, 1) := by decide +kernel
theorem dM_tones_58 : decode prog_11_method_35_code 58 = .ok (.iaload, 1) := by decide +kernel
theorem dM_tones_59 : decode prog_11_method_35_code 59 = .ok (.ireturn, 1) := by decide +kernel
set_option maxRecDepth 100000 in
set_option maxHeartbeats 4000000 in
theorem tM_tones_J59 {X : KC} {q : Int × KM} (hX : kOk X 5 prog_11_method_35_code 3 "KeyPathModel") (hR : kRet X (some .int) q) (t0 : Int) (σ : KM) {Θ : (Int × KM) → Prop} (hT : ∀ z, Θ (z) → z = q) : kJ X 59 [lq 10, none, none] [ki t0] σ (fM_tones_J59 t0 σ) Θ := by
  exact k_iret hX hR hT dM_tones_59
set_option maxRecDepth 100000 in
set_option maxHeartbeats 4000000 in
theorem tM_tones_J36 {X : KC} {q : Int × KM} (hX : kOk X 5 prog_11_method_35_code 3 "KeyPathModel") (hR : kRet X (some .int) q) (x1 x2 : Int) (σ : KM) {Θ : (Int × KM) → Prop} (hT : ∀ z, Θ (z) → z = q) : kJ X 36 [lq 10, li x1, li x2] [] σ (fM_tones_J36 x1 x2 σ) Θ := by
  refine k_aload_n hX dM_tones_36 rfl ?_
  refine k_iload_n hX dM_tones_37 rfl ?_
  refine cl_123 hX (by decide) (Nat.le_of_ble_eq_true rfl) dM_tones_38 (fun _ τ1 => ?_)
  refine k_iload_n hX dM_tones_41 rfl ?_
  refine k_iconst hX dM_tones_42 ?_
  refine k_icmp_ne (tgt := 53) hX dM_tones_43 (by decide) ?_ ?_
  · refine k_aload_n hX dM_tones_53 rfl ?_
    refine gf_164 hX dM_tones_54 ?_
    refine k_iload_n hX dM_tones_57 rfl ?_
    refine k_iald hX (by decide) rfl dM_tones_58 rfl (fun y2 => ?_)
    refine k_less [true, false, false] (L' := [lq 10, none, none]) rfl ?_
    exact tM_tones_J59 hX hR y2 τ1 hT
  · refine k_aload_n hX dM_tones_46 rfl ?_
    refine gf_166 hX dM_tones_47 ?_
    refine k_goto (tgt := 59) hX dM_tones_50 (by decide) ?_
    refine k_less [true, false, false] (L' := [lq 10, none, none]) rfl ?_
    exact tM_tones_J59 hX hR (τ1 10 27) τ1 hT
set_option maxRecDepth 100000 in
set_option maxHeartbeats 4000000 in
theorem sM_tones (x1 x2 : Int) (σ : KM) : kSem 5 (⟨"KeyPathModel", "tones", "(II)I"⟩ : MethodName) prog_11_method_35_code 3 (some .int) [kr 10, ki x1, ki x2] σ (fM_tones x1 x2 σ) := by
  refine kSem.of (L0 := [lq 10, li x1, li x2]) (by decide) (Nat.le_of_ble_eq_true rfl) rfl (fun X q hX hR => ?_)
  have hT : ∀ z : Int × KM, (fun z => z = q) z → z = q := fun _ h => h
  refine k_aload_n hX dM_tones_0 rfl ?_
  refine k_iconst hX dM_tones_1 ?_
  refine gp_157 hX dM_tones_2 (fun τ1 => ?_)
  refine k_aload_n hX dM_tones_5 rfl ?_
  refine k_iload_n hX dM_tones_6 rfl ?_
  refine cl_121 hX (by decide) (Nat.le_of_ble_eq_true rfl) dM_tones_7 (fun r3 τ2 => ?_)
  refine k_if_ne (tgt := 16) hX dM_tones_10 (by decide) ?_ ?_
  · refine k_iload_n hX dM_tones_16 rfl ?_
    refine k_iconst hX dM_tones_17 ?_
    refine k_icmp_eq (tgt := 36) hX dM_tones_18 (by decide) ?_ ?_
    · exact tM_tones_J36 hX hR x1 x2 τ2 hT
    · refine k_iload_n hX dM_tones_21 rfl ?_
      refine k_i2l hX dM_tones_22 ?_
      refine k_lconst0 hX dM_tones_23 ?_
      refine k_ldc2 (v := 11) hX dM_tones_24 tw_1226 ?_
      refine cl_120 hX (by decide) (Nat.le_of_ble_eq_true rfl) dM_tones_27 (fun r5 τ4 => ?_)
      refine k_if_ne (tgt := 36) hX dM_tones_30 (by decide) ?_ ?_
      · exact tM_tones_J36 hX hR x1 x2 τ4 hT
      · refine k_bipush hX dM_tones_33 (by decide) ?_
        exact k_iret hX hR hT dM_tones_35
  · refine k_bipush hX dM_tones_13 (by decide) ?_
    exact k_iret hX hR hT dM_tones_15
theorem dM_undo_0 : decode prog_11_method_21_code 0 = .ok (.aload_n 0, 1) := by decide +kernel
theorem dM_undo_1 : decode prog_11_method_21_code 1 = .ok (.iconst 0, 1) := by decide +kernel
theorem dM_undo_2 : decode prog_11_method_21_code 2 = .ok (.putfield 1, 3) := by decide +kernel
theorem dM_undo_5 : decode prog_11_method_21_code 5 = .ok (.aload_n 0, 1) := by decide +kernel
theorem dM_undo_6 : decode prog_11_method_21_code 6 = .ok (.getfield 176, 3) := by decide +kernel
theorem dM_undo_9 : decode prog_11_method_21_code 9 = .ok (.ifCond .ne 6, 3) := by decide +kernel
theorem dM_undo_12 : decode prog_11_method_21_code 12 = .ok (.bipush (-5), 2) := by decide +kernel
theorem dM_undo_14 : decode prog_11_method_21_code 14 = .ok (.ireturn, 1) := by decide +kernel
theorem dM_undo_15 : decode prog_11_method_21_code 15 = .ok (.aload_n 0, 1) := by decide +kernel
theorem dM_undo_16 : decode prog_11_method_21_code 16 = .ok (.dup, 1) := by decide +kernel
theorem dM_undo_17 : decode prog_11_method_21_code 17 = .ok (.getfield 176, 3) := by decide +kernel
theorem dM_undo_20 : decode prog_11_method_21_code 20 = .ok (.iconst 1, 1) := by decide +kernel
theorem dM_undo_21 : decode prog_11_method_21_code 21 = .ok (.isub, 1) := by decide +kernel
theorem dM_undo_22 : decode prog_11_method_21_code 22 = .ok (.putfield 176, 3) := by decide +kernel
theorem dM_undo_25 : decode prog_11_method_21_code 25 = .ok (.sipush 301, 3) := by decide +kernel
theorem dM_undo_28 : decode prog_11_method_21_code 28 = .ok (.aload_n 0, 1) := by decide +kernel
theorem dM_undo_29 : decode prog_11_method_21_code 29 = .ok (.getfield 176, 3) := by decide +kernel
theorem dM_undo_32 : decode prog_11_method_21_code 32 = .ok (.imul, 1) := by decide +kernel
theorem dM_undo_33 : decode prog_11_method_21_code 33 = .ok (.istore_n 1, 1) := by decide +kernel
theorem dM_undo_34 : decode prog_11_method_21_code 34 = .ok (.aload_n 0, 1) := by decide +kernel
theorem dM_undo_35 : decode prog_11_method_21_code 35 = .ok (.aload_n 0, 1) := by decide +kernel
theorem dM_undo_36 : decode prog_11_method_21_code 36 = .ok (.getfield 32, 3) := by decide +kernel
theorem dM_undo_39 : decode prog_11_method_21_code 39 = .ok (.iload_n 1, 1) := by decide +kernel
theorem dM_undo_40 : decode prog_11_method_21_code 40 = .ok (.iaload, 1) := by decide +kernel
theorem dM_undo_41 : decode prog_11_method_21_code 41 = .ok (.putfield 169, 3) := by decide +kernel
theorem dM_undo_44 : decode prog_11_method_21_code 44 = .ok (.iconst 0, 1) := by decide +kernel
theorem dM_undo_45 : decode prog_11_method_21_code 45 = .ok (.istore_n 2, 1) := by decide +kernel
theorem dM_undo_46 : decode prog_11_method_21_code 46 = .ok (.iload_n 2, 1) := by decide +kernel
theorem dM_undo_47 : decode prog_11_method_21_code 47 = .ok (.bipush 100, 2) := by decide +kernel
theorem dM_undo_49 : decode prog_11_method_21_code 49 = .ok (.if_icmp .ge 60, 3) := by decide +kernel
theorem dM_undo_52 : decode prog_11_method_21_code 52 = .ok (.aload_n 0, 1) := by decide +kernel
theorem dM_undo_53 : decode prog_11_method_21_code 53 = .ok (.getfield 13, 3) := by decide +kernel
theorem dM_undo_56 : decode prog_11_method_21_code 56 = .ok (.iload_n 2, 1) := by decide +kernel
theorem dM_undo_57 : decode prog_11_method_21_code 57 = .ok (.aload_n 0, 1) := by decide +kernel
theorem dM_undo_58 : decode prog_11_method_21_code 58 = .ok (.getfield 32, 3) := by decide +kernel
theorem dM_undo_61 : decode prog_11_method_21_code 61 = .ok (.iload_n 1, 1) := by decide +kernel
theorem dM_undo_62 : decode prog_11_method_21_code 62 = .ok (.iconst 1, 1) := by decide +kernel
theorem dM_undo_63 : decode prog_11_method_21_code 63 = .ok (.iadd, 1) := by decide +kernel
theorem dM_undo_64 : decode prog_11_method_21_code 64 = .ok (.iload_n 2, 1) := by decide +kernel
theorem dM_undo_65 : decode prog_11_method_21_code 65 = .ok (.iadd, 1) := by decide +kernel
theorem dM_undo_66 : decode prog_11_method_21_code 66 = .ok (.iaload, 1) := by decide +kernel
theorem dM_undo_67 : decode prog_11_method_21_code 67 = .ok (.iastore, 1) := by decide +kernel
theorem dM_undo_68 : decode prog_11_method_21_code 68 = .ok (.aload_n 0, 1) := by decide +kernel
theorem dM_undo_69 : decode prog_11_method_21_code 69 = .ok (.getfield 17, 3) := by decide +kernel
theorem dM_undo_72 : decode prog_11_method_21_code 72 = .ok (.iload_n 2, 1) := by decide +kernel
theorem dM_undo_73 : decode prog_11_method_21_code 73 = .ok (.aload_n 0, 1) := by decide +kernel
theorem dM_undo_74 : decode prog_11_method_21_code 74 = .ok (.getfield 32, 3) := by decide +kernel
theorem dM_undo_77 : decode prog_11_method_21_code 77 = .ok (.iload_n 1, 1) := by decide +kernel
theorem dM_undo_78 : decode prog_11_method_21_code 78 = .ok (.bipush 101, 2) := by decide +kernel
theorem dM_undo_80 : decode prog_11_method_21_code 80 = .ok (.iadd, 1) := by decide +kernel
theorem dM_undo_81 : decode prog_11_method_21_code 81 = .ok (.iload_n 2, 1) := by decide +kernel
theorem dM_undo_82 : decode prog_11_method_21_code 82 = .ok (.iadd, 1) := by decide +kernel
theorem dM_undo_83 : decode prog_11_method_21_code 83 = .ok (.iaload, 1) := by decide +kernel
theorem dM_undo_84 : decode prog_11_method_21_code 84 = .ok (.iastore, 1) := by decide +kernel
theorem dM_undo_85 : decode prog_11_method_21_code 85 = .ok (.aload_n 0, 1) := by decide +kernel
theorem dM_undo_86 : decode prog_11_method_21_code 86 = .ok (.getfield 20, 3) := by decide +kernel
theorem dM_undo_89 : decode prog_11_method_21_code 89 = .ok (.iload_n 2, 1) := by decide +kernel
theorem dM_undo_90 : decode prog_11_method_21_code 90 = .ok (.aload_n 0, 1) := by decide +kernel
theorem dM_undo_91 : decode prog_11_method_21_code 91 = .ok (.getfield 32, 3) := by decide +kernel
theorem dM_undo_94 : decode prog_11_method_21_code 94 = .ok (.iload_n 1, 1) := by decide +kernel
theorem dM_undo_95 : decode prog_11_method_21_code 95 = .ok (.sipush 201, 3) := by decide +kernel
theorem dM_undo_98 : decode prog_11_method_21_code 98 = .ok (.iadd, 1) := by decide +kernel
theorem dM_undo_99 : decode prog_11_method_21_code 99 = .ok (.iload_n 2, 1) := by decide +kernel
theorem dM_undo_100 : decode prog_11_method_21_code 100 = .ok (.iadd, 1) := by decide +kernel
theorem dM_undo_101 : decode prog_11_method_21_code 101 = .ok (.iaload, 1) := by decide +kernel
theorem dM_undo_102 : decode prog_11_method_21_code 102 = .ok (.iastore, 1) := by decide +kernel
theorem dM_undo_103 : decode prog_11_method_21_code 103 = .ok (.iinc 2 1, 3) := by decide +kernel
theorem dM_undo_106 : decode prog_11_method_21_code 106 = .ok (.goto (-60), 3) := by decide +kernel
theorem dM_undo_109 : decode prog_11_method_21_code 109 = .ok (.aload_n 0, 1) := by decide +kernel
theorem dM_undo_110 : decode prog_11_method_21_code 110 = .ok (.getfield 176, 3) := by decide +kernel
theorem dM_undo_113 : decode prog_11_method_21_code 113 = .ok (.ireturn, 1) := by decide +kernel
set_option maxRecDepth 100000 in
set_option maxHeartbeats 4000000 in
theorem tM_undo_J109 {X : KC} {q : Int × KM} (hX : kOk X 1 prog_11_method_21_code 3 "KeyPathModel") (hR : kRet X (some .int) q) (σ : KM) {Θ : (Int × KM) → Prop} (hT : ∀ z, Θ (z) → z = q) : kJ X 109 [lq 10, none, none] [] σ (fM_undo_J109 σ) Θ := by
  refine k_aload_n hX dM_undo_109 rfl ?_
  refine gf_185 hX dM_undo_110 ?_
  exact k_iret hX hR hT dM_undo_113
set_option maxRecDepth 100000 in
set_option maxHeartbeats 4000000 in
theorem tM_undo_B46 {X : KC} {q : Int × KM} (hX : kOk X 1 prog_11_method_21_code 3 "KeyPathModel") (hR : kRet X (some .int) q) (x1 x2 : Int) (σ : KM) {Θ : ((Int × KM) ⊕ (Int × KM)) → Prop} (hT : ∀ z, Θ (.inr (z)) → z = q) (hb0 : ∀ s : Int × KM, Θ (.inl s) → kW X 46 [lq 10, li x1, li s.1] [] s.2) : kJ X 46 [lq 10, li x1, li x2] [] σ (fM_undo_B46 x1 x2 σ) Θ := by
  refine k_iload_n hX dM_undo_46 rfl ?_
  refine k_bipush hX dM_undo_47 (by decide) ?_
  refine k_icmp_ge (tgt := 109) hX dM_undo_49 (by decide) ?_ ?_
  · refine k_exit ?_
    refine k_less [true, false, false] (L' := [lq 10, none, none]) rfl ?_
    exact tM_undo_J109 hX hR σ hT
  · refine k_aload_n hX dM_undo_52 rfl ?_
    refine gf_160 hX dM_undo_53 ?_
    refine k_iload_n hX dM_undo_56 rfl ?_
    refine k_aload_n hX dM_undo_57 rfl ?_
    refine gf_187 hX dM_undo_58 ?_
    refine k_iload_n hX dM_undo_61 rfl ?_
    refine k_iconst hX dM_undo_62 ?_
    refine k_iadd hX dM_undo_63 ?_
    refine k_iload_n hX dM_undo_64 rfl ?_
    refine k_iadd hX dM_undo_65 ?_
    refine k_iald hX (by decide) rfl dM_undo_66 rfl (fun y1 => ?_)
    refine k_iast hX (by decide) rfl dM_undo_67 rfl (fun τ2 => ?_)
    refine k_aload_n hX dM_undo_68 rfl ?_
    refine gf_161 hX dM_undo_69 ?_
    refine k_iload_n hX dM_undo_72 rfl ?_
    refine k_aload_n hX dM_undo_73 rfl ?_
    refine gf_187 hX dM_undo_74 ?_
    refine k_iload_n hX dM_undo_77 rfl ?_
    refine k_bipush hX dM_undo_78 (by decide) ?_
    refine k_iadd hX dM_undo_80 ?_
    refine k_iload_n hX dM_undo_81 rfl ?_
    refine k_iadd hX dM_undo_82 ?_
    refine k_iald hX (by decide) rfl dM_undo_83 rfl (fun y3 => ?_)
    refine k_iast hX (by decide) rfl dM_undo_84 rfl (fun τ4 => ?_)
    refine k_aload_n hX dM_undo_85 rfl ?_
    refine gf_165 hX dM_undo_86 ?_
    refine k_iload_n hX dM_undo_89 rfl ?_
    refine k_aload_n hX dM_undo_90 rfl ?_
    refine gf_187 hX dM_undo_91 ?_
    refine k_iload_n hX dM_undo_94 rfl ?_
    refine k_sipush hX dM_undo_95 (by decide) ?_
    refine k_iadd hX dM_undo_98 ?_
    refine k_iload_n hX dM_undo_99 rfl ?_
    refine k_iadd hX dM_undo_100 ?_
    refine k_iald hX (by decide) rfl dM_undo_101 rfl (fun y5 => ?_)
    refine k_iast hX (by decide) rfl dM_undo_102 rfl (fun τ6 => ?_)
    refine k_iincL (Lf := fun y7 => [lq 10, li x1, li y7]) hX dM_undo_103 rfl (by decide) rfl (fun _ => rfl) (fun y7 => ?_)
    refine k_goto (tgt := 46) hX dM_undo_106 (by decide) ?_
    exact k_back (hb0 (y7, τ6))
set_option maxRecDepth 100000 in
set_option maxHeartbeats 4000000 in
theorem tM_undo_L46 {X : KC} {q : Int × KM} (hX : kOk X 1 prog_11_method_21_code 3 "KeyPathModel") (hR : kRet X (some .int) q) (x1 x2 : Int) (σ : KM) {Θ : (Int × KM) → Prop} (hT : ∀ z, Θ (z) → z = q) : kJ X 46 [lq 10, li x1, li x2] [] σ (fM_undo_L46 x1 x2 σ) Θ :=
  k_iter (f := fun s => fM_undo_B46 x1 s.1 s.2) (Lf := fun s => [lq 10, li x1, li s.1]) (mf := fun s => s.2) (Θ := Θ) (fun s => tM_undo_B46 hX hR x1 s.1 s.2 hT (fun _ h9 => h9)) kF (x2, σ)
set_option maxRecDepth 100000 in
set_option maxHeartbeats 4000000 in
theorem sM_undo (σ : KM) : kSem 1 (⟨"KeyPathModel", "undo", "()I"⟩ : MethodName) prog_11_method_21_code 3 (some .int) [kr 10] σ (fM_undo σ) := by
  refine kSem.of (L0 := [lq 10, none, none]) (by decide) (Nat.le_of_ble_eq_true rfl) rfl (fun X q hX hR => ?_)
  have hT : ∀ z : Int × KM, (fun z => z = q) z → z = q := fun _ h => h
  refine k_aload_n hX dM_undo_0 rfl ?_
  refine k_iconst hX dM_undo_1 ?_
  refine gp_157 hX dM_undo_2 (fun τ1 => ?_)
  refine k_aload_n hX dM_undo_5 rfl ?_
  refine gf_185 hX dM_undo_6 ?_
  refine k_if_ne (tgt := 15) hX dM_undo_9 (by decide) ?_ ?_
  · refine k_aload_n hX dM_undo_15 rfl ?_
    refine k_dupr hX dM_undo_16 ?_
    refine gf_185 hX dM_undo_17 ?_
    refine k_iconst hX dM_undo_20 ?_
    refine k_isub hX dM_undo_21 ?_
    refine gp_188 hX dM_undo_22 (fun τ2 => ?_)
    refine k_sipush hX dM_undo_25 (by decide) ?_
    refine k_aload_n hX dM_undo_28 rfl ?_
    refine gf_185 hX dM_undo_29 ?_
    refine k_imul hX dM_undo_32 ?_
    refine k_istoreL_n (Lf := fun y3 => [lq 10, li y3, none]) hX dM_undo_33 rfl (by decide) (fun _ => rfl) (fun y3 => ?_)
    refine k_aload_n hX dM_undo_34 rfl ?_
    refine k_aload_n hX dM_undo_35 rfl ?_
    refine gf_187 hX dM_undo_36 ?_
    refine k_iload_n hX dM_undo_39 rfl ?_
    refine k_iald hX (by decide) rfl dM_undo_40 rfl (fun y4 => ?_)
    refine gp_189 hX dM_undo_41 (fun τ5 => ?_)
    refine k_iconst hX dM_undo_44 ?_
    refine k_istore_n (L' := [lq 10, li y3, li 0]) hX dM_undo_45 rfl (by decide) rfl ?_
    exact tM_undo_L46 hX hR y3 0 τ5 hT
  · refine k_bipush hX dM_undo_12 (by decide) ?_
    exact k_iret hX hR hT dM_undo_14
