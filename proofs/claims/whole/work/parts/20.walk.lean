theorem dM_unsure_0 : decode prog_11_method_64_code 0 = .ok (.aload_n 0, 1) := by decide +kernel
theorem dM_unsure_1 : decode prog_11_method_64_code 1 = .ok (.iconst 0, 1) := by decide +kernel
theorem dM_unsure_2 : decode prog_11_method_64_code 2 = .ok (.putfield 1, 3) := by decide +kernel
theorem dM_unsure_5 : decode prog_11_method_64_code 5 = .ok (.aload_n 0, 1) := by decide +kernel
theorem dM_unsure_6 : decode prog_11_method_64_code 6 = .ok (.iload_n 1, 1) := by decide +kernel
theorem dM_unsure_7 : decode prog_11_method_64_code 7 = .ok (.invokevirtual 229, 3) := by decide +kernel
theorem dM_unsure_10 : decode prog_11_method_64_code 10 = .ok (.ifCond .ne 6, 3) := by decide +kernel
theorem dM_unsure_13 : decode prog_11_method_64_code 13 = .ok (.bipush (-2), 2) := by decide +kernel
theorem dM_unsure_15 : decode prog_11_method_64_code 15 = .ok (.ireturn, 1) := by decide +kernel
theorem dM_unsure_16 : decode prog_11_method_64_code 16 = .ok (.iload_n 2, 1) := by decide +kernel
theorem dM_unsure_17 : decode prog_11_method_64_code 17 = .ok (.i2l, 1) := by decide +kernel
theorem dM_unsure_18 : decode prog_11_method_64_code 18 = .ok (.lconst 0, 1) := by decide +kernel
theorem dM_unsure_19 : decode prog_11_method_64_code 19 = .ok (.ldc2_w 296, 3) := by decide +kernel
theorem dM_unsure_22 : decode prog_11_method_64_code 22 = .ok (.invokestatic 134, 3) := by decide +kernel
theorem dM_unsure_25 : decode prog_11_method_64_code 25 = .ok (.ifCond .ne 6, 3) := by decide +kernel
theorem dM_unsure_28 : decode prog_11_method_64_code 28 = .ok (.bipush (-3), 2) := by decide +kernel
theorem dM_unsure_30 : decode prog_11_method_64_code 30 = .ok (.ireturn, 1) := by decide +kernel
theorem dM_unsure_31 : decode prog_11_method_64_code 31 = .ok (.aload_n 0, 1) := by decide +kernel
theorem dM_unsure_32 : decode prog_11_method_64_code 32 = .ok (.invokevirtual 287, 3) := by decide +kernel
theorem dM_unsure_35 : decode prog_11_method_64_code 35 = .ok (.ifCond .ne 6, 3) := by decide +kernel
theorem dM_unsure_38 : decode prog_11_method_64_code 38 = .ok (.bipush (-5), 2) := by decide +kernel
theorem dM_unsure_40 : decode prog_11_method_64_code 40 = .ok (.ireturn, 1) := by decide +kernel
theorem dM_unsure_41 : decode prog_11_method_64_code 41 = .ok (.aload_n 0, 1) := by decide +kernel
theorem dM_unsure_42 : decode prog_11_method_64_code 42 = .ok (.invokevirtual 290, 3) := by decide +kernel
theorem dM_unsure_45 : decode prog_11_method_64_code 45 = .ok (.iconst 0, 1) := by decide +kernel
theorem dM_unsure_46 : decode prog_11_method_64_code 46 = .ok (.istore_n 3, 1) := by decide +kernel
theorem dM_unsure_47 : decode prog_11_method_64_code 47 = .ok (.iconst 0, 1) := by decide +kernel
theorem dM_unsure_48 : decode prog_11_method_64_code 48 = .ok (.istore 4, 2) := by decide +kernel
theorem dM_unsure_50 : decode prog_11_method_64_code 50 = .ok (.iload 4, 2) := by decide +kernel
theorem dM_unsure_52 : decode prog_11_method_64_code 52 = .ok (.bipush 24, 2) := by decide +kernel
theorem dM_unsure_54 : decode prog_11_method_64_code 54 = .ok (.if_icmp .ge 44, 3) := by decide +kernel
theorem dM_unsure_57 : decode prog_11_method_64_code 57 = .ok (.iload_n 3, 1) := by decide +kernel
theorem dM_unsure_58 : decode prog_11_method_64_code 58 = .ok (.aload_n 0, 1) := by decide +kernel
theorem dM_unsure_59 : decode prog_11_method_64_code 59 = .ok (.iload_n 1, 1) := by decide +kernel
theorem dM_unsure_60 : decode prog_11_method_64_code 60 = .ok (.iload 4, 2) := by decide +kernel
theorem dM_unsure_62 : decode prog_11_method_64_code 62 = .ok (.invokevirtual 293, 3) := by decide +kernel
theorem dM_unsure_65 : decode prog_11_method_64_code 65 = .ok (.iconst (-1), 1) := by decide +kernel
theorem dM_unsure_66 : decode prog_11_method_64_code 66 = .ok (.if_icmp .eq 23, 3) := by decide +kernel
theorem dM_unsure_69 : decode prog_11_method_64_code 69 = .ok (.aload_n 0, 1) := by decide +kernel
theorem dM_unsure_70 : decode prog_11_method_64_code 70 = .ok (.iload_n 1, 1) := by decide +kernel
theorem dM_unsure_71 : decode prog_11_method_64_code 71 = .ok (.iload 4, 2) := by decide +kernel
theorem dM_unsure_73 : decode prog_11_method_64_code 73 = .ok (.invokevirtual 293, 3) := by decide +kernel
theorem dM_unsure_76 : decode prog_11_method_64_code 76 = .ok (.aload_n 0, 1) := by decide +kernel
theorem dM_unsure_77 : decode prog_11_method_64_code 77 = .ok (.getfield 278, 3) := by decide +kernel
theorem dM_unsure_80 : decode prog_11_method_64_code 80 = .ok (.iload_n 2, 1) := by decide +kernel
theorem dM_unsure_81 : decode prog_11_method_64_code 81 = .ok (.iadd, 1) := by decide +kernel
theorem dM_unsure_82 : decode prog_11_method_64_code 82 = .ok (.if_icmp .gt 7, 3) := by decide +kernel
theorem dM_unsure_85 : decode prog_11_method_64_code 85 = .ok (.iconst 1, 1) := by decide +kernel
theorem dM_unsure_86 : decode prog_11_method_64_code 86 = .ok (.goto 4, 3) := by decide +kernel
theorem dM_unsure_89 : decode prog_11_method_64_code 89 = .ok (.iconst 0, 1) := by decide +kernel
theorem dM_unsure_90 : decode prog_11_method_64_code 90 = .ok (.iadd, 1) := by decide +kernel
theorem dM_unsure_91 : decode prog_11_method_64_code 91 = .ok (.istore_n 3, 1) := by decide +kernel
theorem dM_unsure_92 : decode prog_11_method_64_code 92 = .ok (.iinc 4 1, 3) := by decide +kernel
theorem dM_unsure_95 : decode prog_11_method_64_code 95 = .ok (.goto (-45), 3) := by decide +kernel
theorem dM_unsure_98 : decode prog_11_method_64_code 98 = .ok (.iload_n 3, 1) := by decide +kernel
theorem dM_unsure_99 : decode prog_11_method_64_code 99 = .ok (.ireturn, 1) := by decide +kernel
set_option maxRecDepth 100000 in
set_option maxHeartbeats 4000000 in
theorem tM_unsure_J98 {X : KC} {q : Int × KM} (hX : kOk X 6 prog_11_method_64_code 5 "KeyPathModel") (hR : kRet X (some .int) q) (x3 : Int) (σ : KM) {Θ : (Int × KM) → Prop} (hT : ∀ z, Θ (z) → z = q) : kJ X 98 [lq 10, none, none, li x3, none] [] σ (fM_unsure_J98 x3 σ) Θ := by
  refine k_iload_n hX dM_unsure_98 rfl ?_
  exact k_iret hX hR hT dM_unsure_99
set_option maxRecDepth 100000 in
set_option maxHeartbeats 4000000 in
theorem tM_unsure_J90 {X : KC} {q : Int × KM} (hX : kOk X 6 prog_11_method_64_code 5 "KeyPathModel") (hR : kRet X (some .int) q) (x1 x2 x4 t0 t1 : Int) (σ : KM) {Θ : ((Int × Int × KM) ⊕ (Int × KM)) → Prop} (hT : ∀ z, Θ (.inr (z)) → z = q) (hb0 : ∀ s : Int × Int × KM, Θ (.inl s) → kW X 50 [lq 10, li x1, li x2, li s.1, li s.2.1] [] s.2.2) : kJ X 90 [lq 10, li x1, li x2, none, li x4] [ki t0, ki t1] σ (fM_unsure_J90 x1 x2 x4 t0 t1 σ) Θ := by
  refine k_iadd hX dM_unsure_90 ?_
  refine k_istoreL_n (Lf := fun y1 => [lq 10, li x1, li x2, li y1, li x4]) hX dM_unsure_91 rfl (by decide) (fun _ => rfl) (fun y1 => ?_)
  refine k_iincL (Lf := fun y2 => [lq 10, li x1, li x2, li y1, li y2]) hX dM_unsure_92 rfl (by decide) rfl (fun _ => rfl) (fun y2 => ?_)
  refine k_goto (tgt := 50) hX dM_unsure_95 (by decide) ?_
  exact k_back (hb0 (y1, y2, σ))
set_option maxRecDepth 100000 in
set_option maxHeartbeats 4000000 in
theorem tM_unsure_J89 {X : KC} {q : Int × KM} (hX : kOk X 6 prog_11_method_64_code 5 "KeyPathModel") (hR : kRet X (some .int) q) (x1 x2 x4 t0 : Int) (σ : KM) {Θ : ((Int × Int × KM) ⊕ (Int × KM)) → Prop} (hT : ∀ z, Θ (.inr (z)) → z = q) (hb0 : ∀ s : Int × Int × KM, Θ (.inl s) → kW X 50 [lq 10, li x1, li x2, li s.1, li s.2.1] [] s.2.2) : kJ X 89 [lq 10, li x1, li x2, none, li x4] [ki t0] σ (fM_unsure_J89 x1 x2 x4 t0 σ) Θ := by
  refine k_iconst hX dM_unsure_89 ?_
  exact tM_unsure_J90 hX hR x1 x2 x4 0 t0 σ hT hb0
set_option maxRecDepth 100000 in
set_option maxHeartbeats 4000000 in
theorem tM_unsure_B50 {X : KC} {q : Int × KM} (hX : kOk X 6 prog_11_method_64_code 5 "KeyPathModel") (hR : kRet X (some .int) q) (x1 x2 x3 x4 : Int) (σ : KM) {Θ : ((Int × Int × KM) ⊕ (Int × KM)) → Prop} (hT : ∀ z, Θ (.inr (z)) → z = q) (hb0 : ∀ s : Int × Int × KM, Θ (.inl s) → kW X 50 [lq 10, li x1, li x2, li s.1, li s.2.1] [] s.2.2) : kJ X 50 [lq 10, li x1, li x2, li x3, li x4] [] σ (fM_unsure_B50 x1 x2 x3 x4 σ) Θ := by
  refine k_iload hX dM_unsure_50 rfl ?_
  refine k_bipush hX dM_unsure_52 (by decide) ?_
  refine k_icmp_ge (tgt := 98) hX dM_unsure_54 (by decide) ?_ ?_
  · refine k_exit ?_
    refine k_less [true, false, false, true, false] (L' := [lq 10, none, none, li x3, none]) rfl ?_
    exact tM_unsure_J98 hX hR x3 σ hT
  · refine k_iload_n hX dM_unsure_57 rfl ?_
    refine k_aload_n hX dM_unsure_58 rfl ?_
    refine k_iload_n hX dM_unsure_59 rfl ?_
    refine k_iload hX dM_unsure_60 rfl ?_
    refine cl_163 hX (by decide) (Nat.le_of_ble_eq_true rfl) dM_unsure_62 (fun r2 τ1 => ?_)
    refine k_iconst hX dM_unsure_65 ?_
    refine k_icmp_eq (tgt := 89) hX dM_unsure_66 (by decide) ?_ ?_
    · refine k_less [true, true, true, false, true] (L' := [lq 10, li x1, li x2, none, li x4]) rfl ?_
      exact tM_unsure_J89 hX hR x1 x2 x4 x3 τ1 hT hb0
    · refine k_aload_n hX dM_unsure_69 rfl ?_
      refine k_iload_n hX dM_unsure_70 rfl ?_
      refine k_iload hX dM_unsure_71 rfl ?_
      refine cl_163 hX (by decide) (Nat.le_of_ble_eq_true rfl) dM_unsure_73 (fun r4 τ3 => ?_)
      refine k_aload_n hX dM_unsure_76 rfl ?_
      refine gf_181 hX dM_unsure_77 ?_
      refine k_iload_n hX dM_unsure_80 rfl ?_
      refine k_iadd hX dM_unsure_81 ?_
      refine k_icmp_gt (tgt := 89) hX dM_unsure_82 (by decide) ?_ ?_
      · refine k_less [true, true, true, false, true] (L' := [lq 10, li x1, li x2, none, li x4]) rfl ?_
        exact tM_unsure_J89 hX hR x1 x2 x4 x3 τ3 hT hb0
      · refine k_iconst hX dM_unsure_85 ?_
        refine k_goto (tgt := 90) hX dM_unsure_86 (by decide) ?_
        refine k_less [true, true, true, false, true] (L' := [lq 10, li x1, li x2, none, li x4]) rfl ?_
        exact tM_unsure_J90 hX hR x1 x2 x4 1 x3 τ3 hT hb0
set_option maxRecDepth 100000 in
set_option maxHeartbeats 4000000 in
theorem tM_unsure_L50 {X : KC} {q : Int × KM} (hX : kOk X 6 prog_11_method_64_code 5 "KeyPathModel") (hR : kRet X (some .int) q) (x1 x2 x3 x4 : Int) (σ : KM) {Θ : (Int × KM) → Prop} (hT : ∀ z, Θ (z) → z = q) : kJ X 50 [lq 10, li x1, li x2, li x3, li x4] [] σ (fM_unsure_L50 x1 x2 x3 x4 σ) Θ :=
  k_iter (f := fun s => fM_unsure_B50 x1 x2 s.1 s.2.1 s.2.2) (Lf := fun s => [lq 10, li x1, li x2, li s.1, li s.2.1]) (mf := fun s => s.2.2) (Θ := Θ) (fun s => tM_unsure_B50 hX hR x1 x2 s.1 s.2.1 s.2.2 hT (fun _ h9 => h9)) kF (x3, x4, σ)
set_option maxRecDepth 100000 in
set_option maxHeartbeats 4000000 in
theorem sM_unsure (x1 x2 : Int) (σ : KM) : kSem 6 (⟨"KeyPathModel", "unsure", "(II)I"⟩ : MethodName) prog_11_method_64_code 5 (some .int) [kr 10, ki x1, ki x2] σ (fM_unsure x1 x2 σ) := by
  refine kSem.of (L0 := [lq 10, li x1, li x2, none, none]) (by decide) (Nat.le_of_ble_eq_true rfl) rfl (fun X q hX hR => ?_)
  have hT : ∀ z : Int × KM, (fun z => z = q) z → z = q := fun _ h => h
  refine k_aload_n hX dM_unsure_0 rfl ?_
  refine k_iconst hX dM_unsure_1 ?_
  refine gp_157 hX dM_unsure_2 (fun τ1 => ?_)
  refine k_aload_n hX dM_unsure_5 rfl ?_
  refine k_iload_n hX dM_unsure_6 rfl ?_
  refine cl_121 hX (by decide) (Nat.le_of_ble_eq_true rfl) dM_unsure_7 (fun r3 τ2 => ?_)
  refine k_if_ne (tgt := 16) hX dM_unsure_10 (by decide) ?_ ?_
  · refine k_iload_n hX dM_unsure_16 rfl ?_
    refine k_i2l hX dM_unsure_17 ?_
    refine k_lconst0 hX dM_unsure_18 ?_
    refine k_ldc2 (v := 9999) hX dM_unsure_19 tw_1373 ?_
    refine cl_120 hX (by decide) (Nat.le_of_ble_eq_true rfl) dM_unsure_22 (fun r5 τ4 => ?_)
    refine k_if_ne (tgt := 31) hX dM_unsure_25 (by decide) ?_ ?_
    · refine k_aload_n hX dM_unsure_31 rfl ?_
      refine cl_136 hX (by decide) (Nat.le_of_ble_eq_true rfl) dM_unsure_32 (fun r7 τ6 => ?_)
      refine k_if_ne (tgt := 41) hX dM_unsure_35 (by decide) ?_ ?_
      · refine k_aload_n hX dM_unsure_41 rfl ?_
        refine cl_162 hX (by decide) (Nat.le_of_ble_eq_true rfl) dM_unsure_42 (fun _ τ8 => ?_)
        refine k_iconst hX dM_unsure_45 ?_
        refine k_istore_n (L' := [lq 10, li x1, li x2, li 0, none]) hX dM_unsure_46 rfl (by decide) rfl ?_
        refine k_iconst hX dM_unsure_47 ?_
        refine k_istore (L' := [lq 10, li x1, li x2, li 0, li 0]) hX dM_unsure_48 rfl (by decide) rfl ?_
        exact tM_unsure_L50 hX hR x1 x2 0 0 τ8 hT
      · refine k_bipush hX dM_unsure_38 (by decide) ?_
        exact k_iret hX hR hT dM_unsure_40
    · refine k_bipush hX dM_unsure_28 (by decide) ?_
      exact k_iret hX hR hT dM_unsure_30
  · refine k_bipush hX dM_unsure_13 (by decide) ?_
    exact k_iret hX hR hT dM_unsure_15
theorem dM_way_0 : decode prog_11_method_52_code 0 = .ok (.aload_n 0, 1) := by decide +kernel
theorem dM_way_1 : decode prog_11_method_52_code 1 = .ok (.iconst 0, 1) := by decide +kernel
theorem dM_way_2 : decode prog_11_method_52_code 2 = .ok (.putfield 1, 3) := by decide +kernel
theorem dM_way_5 : decode prog_11_method_52_code 5 = .ok (.iload_n 1, 1) := by decide +kernel
theorem dM_way_6 : decode prog_11_method_52_code 6 = .ok (.invokestatic 220, 3) := by decide +kernel
theorem dM_way_9 : decode prog_11_method_52_code 9 = .ok (.ifCond .eq 10, 3) := by decide +kernel
theorem dM_way_12 : decode prog_11_method_52_code 12 = .ok (.iload_n 2, 1) := by decide +kernel
theorem dM_way_13 : decode prog_11_method_52_code 13 = .ok (.invokestatic 220, 3) := by decide +kernel
theorem dM_way_16 : decode prog_11_method_52_code 16 = .ok (.ifCond .ne 6, 3) := by decide +kernel
theorem dM_way_19 : decode prog_11_method_52_code 19 = .ok (.bipush (-2), 2) := by decide +kernel
theorem dM_way_21 : decode prog_11_method_52_code 21 = .ok (.ireturn, 1) := by decide +kernel
theorem dM_way_22 : decode prog_11_method_52_code 22 = .ok (.iload_n 3, 1) := by decide +kernel
theorem dM_way_23 : decode prog_11_method_52_code 23 = .ok (.ifCond .ge 6, 3) := by decide +kernel
theorem dM_way_26 : decode prog_11_method_52_code 26 = .ok (.bipush (-3), 2) := by decide +kernel
theorem dM_way_28 : decode prog_11_method_52_code 28 = .ok (.ireturn, 1) := by decide +kernel
theorem dM_way_29 : decode prog_11_method_52_code 29 = .ok (.aload_n 0, 1) := by decide +kernel
theorem dM_way_30 : decode prog_11_method_52_code 30 = .ok (.iload_n 2, 1) := by decide +kernel
theorem dM_way_31 : decode prog_11_method_52_code 31 = .ok (.invokevirtual 261, 3) := by decide +kernel
theorem dM_way_34 : decode prog_11_method_52_code 34 = .ok (.iload_n 3, 1) := by decide +kernel
theorem dM_way_35 : decode prog_11_method_52_code 35 = .ok (.aload_n 0, 1) := by decide +kernel
theorem dM_way_36 : decode prog_11_method_52_code 36 = .ok (.getfield 72, 3) := by decide +kernel
theorem dM_way_39 : decode prog_11_method_52_code 39 = .ok (.iload_n 1, 1) := by decide +kernel
theorem dM_way_40 : decode prog_11_method_52_code 40 = .ok (.iaload, 1) := by decide +kernel
theorem dM_way_41 : decode prog_11_method_52_code 41 = .ok (.if_icmp .le 5, 3) := by decide +kernel
theorem dM_way_44 : decode prog_11_method_52_code 44 = .ok (.iconst (-1), 1) := by decide +kernel
theorem dM_way_45 : decode prog_11_method_52_code 45 = .ok (.ireturn, 1) := by decide +kernel
theorem dM_way_46 : decode prog_11_method_52_code 46 = .ok (.iload_n 1, 1) := by decide +kernel
theorem dM_way_47 : decode prog_11_method_52_code 47 = .ok (.istore 4, 2) := by decide +kernel
theorem dM_way_49 : decode prog_11_method_52_code 49 = .ok (.iconst 0, 1) := by decide +kernel
theorem dM_way_50 : decode prog_11_method_52_code 50 = .ok (.istore 5, 2) := by decide +kernel
theorem dM_way_52 : decode prog_11_method_52_code 52 = .ok (.iload 5, 2) := by decide +kernel
theorem dM_way_54 : decode prog_11_method_52_code 54 = .ok (.iload_n 3, 1) := by decide +kernel
theorem dM_way_55 : decode prog_11_method_52_code 55 = .ok (.if_icmp .ge 95, 3) := by decide +kernel
theorem dM_way_58 : decode prog_11_method_52_code 58 = .ok (.bipush 24, 2) := by decide +kernel
theorem dM_way_60 : decode prog_11_method_52_code 60 = .ok (.istore 6, 2) := by decide +kernel
theorem dM_way_62 : decode prog_11_method_52_code 62 = .ok (.iconst 0, 1) := by decide +kernel
theorem dM_way_63 : decode prog_11_method_52_code 63 = .ok (.istore 7, 2) := by decide +kernel
theorem dM_way_65 : decode prog_11_method_52_code 65 = .ok (.iload 7, 2) := by decide +kernel
theorem dM_way_67 : decode prog_11_method_52_code 67 = .ok (.iconst 4, 1) := by decide +kernel
theorem dM_way_68 : decode prog_11_method_52_code 68 = .ok (.if_icmp .ge 72, 3) := by decide +kernel
theorem dM_way_71 : decode prog_11_method_52_code 71 = .ok (.iload 4, 2) := by decide +kernel
theorem dM_way_73 : decode prog_11_method_52_code 73 = .ok (.iload 7, 2) := by decide +kernel
theorem dM_way_75 : decode prog_11_method_52_code 75 = .ok (.invokestatic 255, 3) := by decide +kernel
theorem dM_way_78 : decode prog_11_method_52_code 78 = .ok (.istore 8, 2) := by decide +kernel
theorem dM_way_80 : decode prog_11_method_52_code 80 = .ok (.aload_n 0, 1) := by decide +kernel
theorem dM_way_81 : decode prog_11_method_52_code 81 = .ok (.getfield 69, 3) := by decide +kernel
theorem dM_way_84 : decode prog_11_method_52_code 84 = .ok (.iload 8, 2) := by decide +kernel
theorem dM_way_86 : decode prog_11_method_52_code 86 = .ok (.iaload, 1) := by decide +kernel
theorem dM_way_87 : decode prog_11_method_52_code 87 = .ok (.aload_n 0, 1) := by decide +kernel
theorem dM_way_88 : decode prog_11_method_52_code 88 = .ok (.iload 7, 2) := by decide +kernel
theorem dM_way_90 : decode prog_11_method_52_code 90 = .ok (.invokevirtual 258, 3) := by decide +kernel
theorem dM_way_93 : decode prog_11_method_52_code 93 = .ok (.iadd, 1) := by decide +kernel
theorem dM_way_94 : decode prog_11_method_52_code 94 = .ok (.aload_n 0, 1) := by decide +kernel
theorem dM_way_95 : decode prog_11_method_52_code 95 = .ok (.getfield 69, 3) := by decide +kernel
theorem dM_way_98 : decode prog_11_method_52_code 98 = .ok (.iload 4, 2) := by decide +kernel
theorem dM_way_100 : decode prog_11_method_52_code 100 = .ok (.iaload, 1) := by decide +kernel
theorem dM_way_101 : decode prog_11_method_52_code 101 = .ok (.if_icmp .ne 33, 3) := by decide +kernel
theorem dM_way_104 : decode prog_11_method_52_code 104 = .ok (.aload_n 0, 1) := by decide +kernel
theorem dM_way_105 : decode prog_11_method_52_code 105 = .ok (.getfield 72, 3) := by decide +kernel
theorem dM_way_108 : decode prog_11_method_52_code 108 = .ok (.iload 8, 2) := by decide +kernel
theorem dM_way_110 : decode prog_11_method_52_code 110 = .ok (.iaload, 1) := by decide +kernel
theorem dM_way_111 : decode prog_11_method_52_code 111 = .ok (.iconst 1, 1) := by decide +kernel
theorem dM_way_112 : decode prog_11_method_52_code 112 = .ok (.iadd, 1) := by decide +kernel
theorem dM_way_113 : decode prog_11_method_52_code 113 = .ok (.aload_n 0, 1) := by decide +kernel
theorem dM_way_114 : decode prog_11_method_52_code 114 = .ok (.getfield 72, 3) := by decide +kernel
theorem dM_way_117 : decode prog_11_method_52_code 117 = .ok (.iload 4, 2) := by decide +kernel
theorem dM_way_119 : decode prog_11_method_52_code 119 = .ok (.iaload, 1) := by decide +kernel
theorem dM_way_120 : decode prog_11_method_52_code 120 = .ok (.if_icmp .ne 14, 3) := by decide +kernel
theorem dM_way_123 : decode prog_11_method_52_code 123 = .ok (.iload 8, 2) := by decide +kernel
theorem dM_way_125 : decode prog_11_method_52_code 125 = .ok (.iload 6, 2) := by decide +kernel
theorem dM_way_127 : decode prog_11_method_52_code 127 = .ok (.if_icmp .ge 7, 3) := by decide +kernel
theorem dM_way_130 : decode prog_11_method_52_code 130 = .ok (.iload 8, 2) := by decide +kernel
theorem dM_way_132 : decode prog_11_method_52_code 132 = .ok (.istore 6, 2) := by decide +kernel
theorem dM_way_134 : decode prog_11_method_52_code 134 = .ok (.iinc 7 1, 3) := by decide +kernel
theorem dM_way_137 : decode prog_11_method_52_code 137 = .ok (.goto (-72), 3) := by decide +kernel
theorem dM_way_140 : decode prog_11_method_52_code 140 = .ok (.iload 6, 2) := by decide +kernel
theorem dM_way_142 : decode prog_11_method_52_code 142 = .ok (.istore 4, 2) := by decide +kernel
theorem dM_way_144 : decode prog_11_method_52_code 144 = .ok (.iinc 5 1, 3) := by decide +kernel
theorem dM_way_147 : decode prog_11_method_52_code 147 = .ok (.goto (-95), 3) := by decide +kernel
theorem dM_way_150 : decode prog_11_method_52_code 150 = .ok (.iload 4, 2) := by decide +kernel
theorem dM_way_152 : decode prog_11_method_52_code 152 = .ok (.ireturn, 1) := by decide +kernel
set_option maxRecDepth 100000 in
set_option maxHeartbeats 4000000 in
theorem tM_way_J19 {X : KC} {q : Int × KM} (hX : kOk X 3 prog_11_method_52_code 9 "KeyPathModel") (hR : kRet X (some .int) q) (σ : KM) {Θ : (Int × KM) → Prop} (hT : ∀ z, Θ (z) → z = q) : kJ X 19 [lq 10, none, none, none, none, none, none, none, none] [] σ (fM_way_J19 σ) Θ := by
  refine k_bipush hX dM_way_19 (by decide) ?_
  exact k_iret hX hR hT dM_way_21
set_option maxRecDepth 100000 in
set_option maxHeartbeats 4000000 in
theorem tM_way_J150 {X : KC} {q : Int × KM} (hX : kOk X 3 prog_11_method_52_code 9 "KeyPathModel") (hR : kRet X (some .int) q) (x4 : Int) (σ : KM) {Θ : (Int × KM) → Prop} (hT : ∀ z, Θ (z) → z = q) : kJ X 150 [lq 10, none, none, none, li x4, none, none, none, none] [] σ (fM_way_J150 x4 σ) Θ := by
  refine k_iload hX dM_way_150 rfl ?_
  exact k_iret hX hR hT dM_way_152
set_option maxRecDepth 100000 in
set_option maxHeartbeats 4000000 in
theorem tM_way_J140 {X : KC} {q : Int × KM} (hX : kOk X 3 prog_11_method_52_code 9 "KeyPathModel") (hR : kRet X (some .int) q) (x3 x5 x6 : Int) (σ : KM) {Θ : ((Int × Int × KM) ⊕ (Int × KM)) → Prop} (hT : ∀ z, Θ (.inr (z)) → z = q) (hb0 : ∀ s : Int × Int × KM, Θ (.inl s) → kW X 52 [lq 10, none, none, li x3, li s.1, li s.2.1, none, none, none] [] s.2.2) : kJ X 140 [lq 10, none, none, li x3, none, li x5, li x6, none, none] [] σ (fM_way_J140 x3 x5 x6 σ) Θ := by
  refine k_iload hX dM_way_140 rfl ?_
  refine k_istore (L' := [lq 10, none, none, li x3, li x6, li x5, li x6, none, none]) hX dM_way_142 rfl (by decide) rfl ?_
  refine k_iincL (Lf := fun y1 => [lq 10, none, none, li x3, li x6, li y1, li x6, none, none]) hX dM_way_144 rfl (by decide) rfl (fun _ => rfl) (fun y1 => ?_)
  refine k_goto (tgt := 52) hX dM_way_147 (by decide) ?_
  refine k_less [true, true, true, true, true, true, false, true, true] (L' := [lq 10, none, none, li x3, li x6, li y1, none, none, none]) rfl ?_
  exact k_back (hb0 (x6, y1, σ))
set_option maxRecDepth 100000 in
set_option maxHeartbeats 4000000 in
theorem tM_way_J134 {X : KC} {q : Int × KM} (hX : kOk X 3 prog_11_method_52_code 9 "KeyPathModel") (hR : kRet X (some .int) q) (x3 x4 x5 x6 x7 : Int) (σ : KM) {Θ : ((Int × Int × KM) ⊕ ((Int × Int × KM) ⊕ (Int × KM))) → Prop} (hT : ∀ z, Θ (.inr (.inr (z))) → z = q) (hb0 : ∀ s : Int × Int × KM, Θ (.inl s) → kW X 65 [lq 10, none, none, li x3, li x4, li x5, li s.1, li s.2.1, none] [] s.2.2) (hb1 : ∀ s : Int × Int × KM, Θ (.inr (.inl s)) → kW X 52 [lq 10, none, none, li x3, li s.1, li s.2.1, none, none, none] [] s.2.2) : kJ X 134 [lq 10, none, none, li x3, li x4, li x5, li x6, li x7, none] [] σ (fM_way_J134 x3 x4 x5 x6 x7 σ) Θ := by
  refine k_iincL (Lf := fun y1 => [lq 10, none, none, li x3, li x4, li x5, li x6, li y1, none]) hX dM_way_134 rfl (by decide) rfl (fun _ => rfl) (fun y1 => ?_)
  refine k_goto (tgt := 65) hX dM_way_137 (by decide) ?_
  exact k_back (hb0 (x6, y1, σ))
set_option maxRecDepth 100000 in
set_option maxHeartbeats 4000000 in
theorem tM_way_B65 {X : KC} {q : Int × KM} (hX : kOk X 3 prog_11_method_52_code 9 "KeyPathModel") (hR : kRet X (some .int) q) (x3 x4 x5 x6 x7 : Int) (σ : KM) {Θ : ((Int × Int × KM) ⊕ ((Int × Int × KM) ⊕ (Int × KM))) → Prop} (hT : ∀ z, Θ (.inr (.inr (z))) → z = q) (hb0 : ∀ s : Int × Int × KM, Θ (.inl s) → kW X 65 [lq 10, none, none, li x3, li x4, li x5, li s.1, li s.2.1, none] [] s.2.2) (hb1 : ∀ s : Int × Int × KM, Θ (.inr (.inl s)) → kW X 52 [lq 10, none, none, li x3, li s.1, li s.2.1, none, none, none] [] s.2.2) : kJ X 65 [lq 10, none, none, li x3, li x4, li x5, li x6, li x7, none] [] σ (fM_way_B65 x3 x4 x5 x6 x7 σ) Θ := by
  refine k_iload hX dM_way_65 rfl ?_
  refine k_iconst hX dM_way_67 ?_
  refine k_icmp_ge (tgt := 140) hX dM_way_68 (by decide) ?_ ?_
  · refine k_exit ?_
    refine k_less [true, true, true, true, false, true, true, false, true] (L' := [lq 10, none, none, li x3, none, li x5, li x6, none, none]) rfl ?_
    exact tM_way_J140 hX hR x3 x5 x6 σ hT hb1
  · refine k_iload hX dM_way_71 rfl ?_
    refine k_iload hX dM_way_73 rfl ?_
    refine cl_126 hX (by decide) (Nat.le_of_ble_eq_true rfl) dM_way_75 (fun r2 τ1 => ?_)
    refine k_istore (L' := [lq 10, none, none, li x3, li x4, li x5, li x6, li x7, li r2]) hX dM_way_78 rfl (by decide) rfl ?_
    refine k_aload_n hX dM_way_80 rfl ?_
    refine gf_167 hX dM_way_81 ?_
    refine k_iload hX dM_way_84 rfl ?_
    refine k_iald hX (by decide) rfl dM_way_86 rfl (fun y3 => ?_)
    refine k_aload_n hX dM_way_87 rfl ?_
    refine k_iload hX dM_way_88 rfl ?_
    refine cl_127 hX (by decide) (Nat.le_of_ble_eq_true rfl) dM_way_90 (fun r5 τ4 => ?_)
    refine k_iadd hX dM_way_93 ?_
    refine k_aload_n hX dM_way_94 rfl ?_
    refine gf_167 hX dM_way_95 ?_
    refine k_iload hX dM_way_98 rfl ?_
    refine k_iald hX (by decide) rfl dM_way_100 rfl (fun y6 => ?_)
    refine k_icmp_ne (tgt := 134) hX dM_way_101 (by decide) ?_ ?_
    · refine k_less [true, true, true, true, true, true, true, true, false] (L' := [lq 10, none, none, li x3, li x4, li x5, li x6, li x7, none]) rfl ?_
      exact tM_way_J134 hX hR x3 x4 x5 x6 x7 τ4 hT hb0 hb1
    · refine k_aload_n hX dM_way_104 rfl ?_
      refine gf_168 hX dM_way_105 ?_
      refine k_iload hX dM_way_108 rfl ?_
      refine k_iald hX (by decide) rfl dM_way_110 rfl (fun y7 => ?_)
      refine k_iconst hX dM_way_111 ?_
      refine k_iadd hX dM_way_112 ?_
      refine k_aload_n hX dM_way_113 rfl ?_
      refine gf_168 hX dM_way_114 ?_
      refine k_iload hX dM_way_117 rfl ?_
      refine k_iald hX (by decide) rfl dM_way_119 rfl (fun y8 => ?_)
      refine k_icmp_ne (tgt := 134) hX dM_way_120 (by decide) ?_ ?_
      · refine k_less [true, true, true, true, true, true, true, true, false] (L' := [lq 10, none, none, li x3, li x4, li x5, li x6, li x7, none]) rfl ?_
        exact tM_way_J134 hX hR x3 x4 x5 x6 x7 τ4 hT hb0 hb1
      · refine k_iload hX dM_way_123 rfl ?_
        refine k_iload hX dM_way_125 rfl ?_
        refine k_icmp_ge (tgt := 134) hX dM_way_127 (by decide) ?_ ?_
        · refine k_less [true, true, true, true, true, true, true, true, false] (L' := [lq 10, none, none, li x3, li x4, li x5, li x6, li x7, none]) rfl ?_
          exact tM_way_J134 hX hR x3 x4 x5 x6 x7 τ4 hT hb0 hb1
        · refine k_iload hX dM_way_130 rfl ?_
          refine k_istore (L' := [lq 10, none, none, li x3, li x4, li x5, li r2, li x7, li r2]) hX dM_way_132 rfl (by decide) rfl ?_
          refine k_less [true, true, true, true, true, true, true, true, false] (L' := [lq 10, none, none, li x3, li x4, li x5, li r2, li x7, none]) rfl ?_
          exact tM_way_J134 hX hR x3 x4 x5 r2 x7 τ4 hT hb0 hb1
set_option maxRecDepth 100000 in
set_option maxHeartbeats 4000000 in
theorem tM_way_L65 {X : KC} {q : Int × KM} (hX : kOk X 3 prog_11_method_52_code 9 "KeyPathModel") (hR : kRet X (some .int) q) (x3 x4 x5 x6 x7 : Int) (σ : KM) {Θ : ((Int × Int × KM) ⊕ (Int × KM)) → Prop} (hT : ∀ z, Θ (.inr (z)) → z = q) (hb0 : ∀ s : Int × Int × KM, Θ (.inl s) → kW X 52 [lq 10, none, none, li x3, li s.1, li s.2.1, none, none, none] [] s.2.2) : kJ X 65 [lq 10, none, none, li x3, li x4, li x5, li x6, li x7, none] [] σ (fM_way_L65 x3 x4 x5 x6 x7 σ) Θ :=
  k_iter (f := fun s => fM_way_B65 x3 x4 x5 s.1 s.2.1 s.2.2) (Lf := fun s => [lq 10, none, none, li x3, li x4, li x5, li s.1, li s.2.1, none]) (mf := fun s => s.2.2) (Θ := Θ) (fun s => tM_way_B65 hX hR x3 x4 x5 s.1 s.2.1 s.2.2 hT (fun _ h9 => h9) hb0) kF (x6, x7, σ)
set_option maxRecDepth 100000 in
set_option maxHeartbeats 4000000 in
theorem tM_way_B52 {X : KC} {q : Int × KM} (hX : kOk X 3 prog_11_method_52_code 9 "KeyPathModel") (hR : kRet X (some .int) q) (x3 x4 x5 : Int) (σ : KM) {Θ : ((Int × Int × KM) ⊕ (Int × KM)) → Prop} (hT : ∀ z, Θ (.inr (z)) → z = q) (hb0 : ∀ s : Int × Int × KM, Θ (.inl s) → kW X 52 [lq 10, none, none, li x3, li s.1, li s.2.1, none, none, none] [] s.2.2) : kJ X 52 [lq 10, none, none, li x3, li x4, li x5, none, none, none] [] σ (fM_way_B52 x3 x4 x5 σ) Θ := by
  refine k_iload hX dM_way_52 rfl ?_
  refine k_iload_n hX dM_way_54 rfl ?_
  refine k_icmp_ge (tgt := 150) hX dM_way_55 (by decide) ?_ ?_
  · refine k_exit ?_
    refine k_less [true, true, true, false, true, false, true, true, true] (L' := [lq 10, none, none, none, li x4, none, none, none, none]) rfl ?_
    exact tM_way_J150 hX hR x4 σ hT
  · refine k_bipush hX dM_way_58 (by decide) ?_
    refine k_istore (L' := [lq 10, none, none, li x3, li x4, li x5, li 24, none, none]) hX dM_way_60 rfl (by decide) rfl ?_
    refine k_iconst hX dM_way_62 ?_
    refine k_istore (L' := [lq 10, none, none, li x3, li x4, li x5, li 24, li 0, none]) hX dM_way_63 rfl (by decide) rfl ?_
    exact tM_way_L65 hX hR x3 x4 x5 24 0 σ hT hb0
set_option maxRecDepth 100000 in
set_option maxHeartbeats 4000000 in
theorem tM_way_L52 {X : KC} {q : Int × KM} (hX : kOk X 3 prog_11_method_52_code 9 "KeyPathModel") (hR : kRet X (some .int) q) (x3 x4 x5 : Int) (σ : KM) {Θ : (Int × KM) → Prop} (hT : ∀ z, Θ (z) → z = q) : kJ X 52 [lq 10, none, none, li x3, li x4, li x5, none, none, none] [] σ (fM_way_L52 x3 x4 x5 σ) Θ :=
  k_iter (f := fun s => fM_way_B52 x3 s.1 s.2.1 s.2.2) (Lf := fun s => [lq 10, none, none, li x3, li s.1, li s.2.1, none, none, none]) (mf := fun s => s.2.2) (Θ := Θ) (fun s => tM_way_B52 hX hR x3 s.1 s.2.1 s.2.2 hT (fun _ h9 => h9)) kF (x4, x5, σ)
set_option maxRecDepth 100000 in
set_option maxHeartbeats 4000000 in
theorem sM_way (x1 x2 x3 : Int) (σ : KM) : kSem 3 (⟨"KeyPathModel", "way", "(III)I"⟩ : MethodName) prog_11_method_52_code 9 (some .int) [kr 10, ki x1, ki x2, ki x3] σ (fM_way x1 x2 x3 σ) := by
  refine kSem.of (L0 := [lq 10, li x1, li x2, li x3, none, none, none, none, none]) (by decide) (Nat.le_of_ble_eq_true rfl) rfl (fun X q hX hR => ?_)
  have hT : ∀ z : Int × KM, (fun z => z = q) z → z = q := fun _ h => h
  refine k_aload_n hX dM_way_0 rfl ?_
  refine k_iconst hX dM_way_1 ?_
  refine gp_157 hX dM_way_2 (fun τ1 => ?_)
  refine k_iload_n hX dM_way_5 rfl ?_
  refine cl_143 hX (by decide) (Nat.le_of_ble_eq_true rfl) dM_way_6 (fun r3 τ2 => ?_)
  refine k_if_eq (tgt := 19) hX dM_way_9 (by decide) ?_ ?_
  · refine k_less [true, false, false, false, true, true, true, true, true] (L' := [lq 10, none, none, none, none, none, none, none, none]) rfl ?_
    exact tM_way_J19 hX hR τ2 hT
  · refine k_iload_n hX dM_way_12 rfl ?_
    refine cl_143 hX (by decide) (Nat.le_of_ble_eq_true rfl) dM_way_13 (fun r5 τ4 => ?_)
    refine k_if_ne (tgt := 22) hX dM_way_16 (by decide) ?_ ?_
    · refine k_iload_n hX dM_way_22 rfl ?_
      refine k_if_ge (tgt := 29) hX dM_way_23 (by decide) ?_ ?_
      · refine k_aload_n hX dM_way_29 rfl ?_
        refine k_iload_n hX dM_way_30 rfl ?_
        refine cl_128 hX (by decide) (Nat.le_of_ble_eq_true rfl) dM_way_31 (fun _ τ6 => ?_)
        refine k_iload_n hX dM_way_34 rfl ?_
        refine k_aload_n hX dM_way_35 rfl ?_
        refine gf_168 hX dM_way_36 ?_
        refine k_iload_n hX dM_way_39 rfl ?_
        refine k_iald hX (by decide) rfl dM_way_40 rfl (fun y7 => ?_)
        refine k_icmp_le (tgt := 46) hX dM_way_41 (by decide) ?_ ?_
        · refine k_iload_n hX dM_way_46 rfl ?_
          refine k_istore (L' := [lq 10, li x1, li x2, li x3, li x1, none, none, none, none]) hX dM_way_47 rfl (by decide) rfl ?_
          refine k_iconst hX dM_way_49 ?_
          refine k_istore (L' := [lq 10, li x1, li x2, li x3, li x1, li 0, none, none, none]) hX dM_way_50 rfl (by decide) rfl ?_
          refine k_less [true, false, false, true, true, true, true, true, true] (L' := [lq 10, none, none, li x3, li x1, li 0, none, none, none]) rfl ?_
          exact tM_way_L52 hX hR x3 x1 0 τ6 hT
        · refine k_iconst hX dM_way_44 ?_
          exact k_iret hX hR hT dM_way_45
      · refine k_bipush hX dM_way_26 (by decide) ?_
        exact k_iret hX hR hT dM_way_28
    · refine k_less [true, false, false, false, true, true, true, true, true] (L' := [lq 10, none, none, none, none, none, none, none, none]) rfl ?_
      exact tM_way_J19 hX hR τ4 hT
theorem dM_weight_0 : decode prog_11_method_28_code 0 = .ok (.aload_n 0, 1) := by decide +kernel
theorem dM_weight_1 : decode prog_11_method_28_code 1 = .ok (.iconst 0, 1) := by decide +kernel
theorem dM_weight_2 : decode prog_11_method_28_code 2 = .ok (.putfield 1, 3) := by decide +kernel
theorem dM_weight_5 : decode prog_11_method_28_code 5 = .ok (.iload_n 1, 1) := by decide +kernel
theorem dM_weight_6 : decode prog_11_method_28_code 6 = .ok (.invokestatic 205, 3) := by decide +kernel
theorem dM_weight_9 : decode prog_11_method_28_code 9 = .ok (.ifCond .eq 15, 3) := by decide +kernel
theorem dM_weight_12 : decode prog_11_method_28_code 12 = .ok (.iload_n 2, 1) := by decide +kernel
theorem dM_weight_13 : decode prog_11_method_28_code 13 = .ok (.i2l, 1) := by decide +kernel
theorem dM_weight_14 : decode prog_11_method_28_code 14 = .ok (.lconst 0, 1) := by decide +kernel
theorem dM_weight_15 : decode prog_11_method_28_code 15 = .ok (.ldc2_w 208, 3) := by decide +kernel
theorem dM_weight_18 : decode prog_11_method_28_code 18 = .ok (.invokestatic 134, 3) := by decide +kernel
theorem dM_weight_21 : decode prog_11_method_28_code 21 = .ok (.ifCond .ne 6, 3) := by decide +kernel
theorem dM_weight_24 : decode prog_11_method_28_code 24 = .ok (.bipush (-2), 2) := by decide +kernel
theorem dM_weight_26 : decode prog_11_method_28_code 26 = .ok (.ireturn, 1) := by decide +kernel
theorem dM_weight_27 : decode prog_11_method_28_code 27 = .ok (.iload_n 3, 1) := by decide +kernel
theorem dM_weight_28 : decode prog_11_method_28_code 28 = .ok (.i2l, 1) := by decide +kernel
theorem dM_weight_29 : decode prog_11_method_28_code 29 = .ok (.lconst 0, 1) := by decide +kernel
theorem dM_weight_30 : decode prog_11_method_28_code 30 = .ok (.ldc2_w 210, 3) := by decide +kernel
theorem dM_weight_33 : decode prog_11_method_28_code 33 = .ok (.invokestatic 134, 3) := by decide +kernel
theorem dM_weight_36 : decode prog_11_method_28_code 36 = .ok (.ifCond .ne 6, 3) := by decide +kernel
theorem dM_weight_39 : decode prog_11_method_28_code 39 = .ok (.bipush (-3), 2) := by decide +kernel
theorem dM_weight_41 : decode prog_11_method_28_code 41 = .ok (.ireturn, 1) := by decide +kernel
theorem dM_weight_42 : decode prog_11_method_28_code 42 = .ok (.aload_n 0, 1) := by decide +kernel
theorem dM_weight_43 : decode prog_11_method_28_code 43 = .ok (.getfield 53, 3) := by decide +kernel
theorem dM_weight_46 : decode prog_11_method_28_code 46 = .ok (.bipush 12, 2) := by decide +kernel
theorem dM_weight_48 : decode prog_11_method_28_code 48 = .ok (.iload_n 1, 1) := by decide +kernel
theorem dM_weight_49 : decode prog_11_method_28_code 49 = .ok (.imul, 1) := by decide +kernel
theorem dM_weight_50 : decode prog_11_method_28_code 50 = .ok (.iload_n 2, 1) := by decide +kernel
theorem dM_weight_51 : decode prog_11_method_28_code 51 = .ok (.iadd, 1) := by decide +kernel
theorem dM_weight_52 : decode prog_11_method_28_code 52 = .ok (.iaload, 1) := by decide +kernel
theorem dM_weight_53 : decode prog_11_method_28_code 53 = .ok (.istore 4, 2) := by decide +kernel
theorem dM_weight_55 : decode prog_11_method_28_code 55 = .ok (.aload_n 0, 1) := by decide +kernel
theorem dM_weight_56 : decode prog_11_method_28_code 56 = .ok (.getfield 53, 3) := by decide +kernel
theorem dM_weight_59 : decode prog_11_method_28_code 59 = .ok (.bipush 12, 2) := by decide +kernel
theorem dM_weight_61 : decode prog_11_method_28_code 61 = .ok (.iload_n 1, 1) := by decide +kernel
theorem dM_weight_62 : decode prog_11_method_28_code 62 = .ok (.imul, 1) := by decide +kernel
theorem dM_weight_63 : decode prog_11_method_28_code 63 = .ok (.iload_n 2, 1) := by decide +kernel
theorem dM_weight_64 : decode prog_11_method_28_code 64 = .ok (.iadd, 1) := by decide +kernel
theorem dM_weight_65 : decode prog_11_method_28_code 65 = .ok (.iload_n 3, 1) := by decide +kernel
theorem dM_weight_66 : decode prog_11_method_28_code 66 = .ok (.iastore, 1) := by decide +kernel
theorem dM_weight_67 : decode prog_11_method_28_code 67 = .ok (.iload 4, 2) := by decide +kernel
theorem dM_weight_69 : decode prog_11_method_28_code 69 = .ok (.ireturn, 1) := by decide +kernel
set_option maxRecDepth 100000 in
set_option maxHeartbeats 4000000 in
theorem tM_weight_J24 {X : KC} {q : Int × KM} (hX : kOk X 2 prog_11_method_28_code 5 "KeyPathModel") (hR : kRet X (some .int) q) (σ : KM) {Θ : (Int × KM) → Prop} (hT : ∀ z, Θ (z) → z = q) : kJ X 24 [lq 10, none, none, none, none] [] σ (fM_weight_J24 σ) Θ := by
  refine k_bipush hX dM_weight_24 (by decide) ?_
  exact k_iret hX hR hT dM_weight_26
set_option maxRecDepth 100000 in
set_option maxHeartbeats 4000000 in
theorem sM_weight (x1 x2 x3 : Int) (σ : KM) : kSem 2 (⟨"KeyPathModel", "weight", "(III)I"⟩ : MethodName) prog_11_method_28_code 5 (some .int) [kr 10, ki x1, ki x2, ki x3] σ (fM_weight x1 x2 x3 σ) := by
  refine kSem.of (L0 := [lq 10, li x1, li x2, li x3, none]) (by decide) (Nat.le_of_ble_eq_true rfl) rfl (fun X q hX hR => ?_)
  have hT : ∀ z : Int × KM, (fun z => z = q) z → z = q := fun _ h => h
  refine k_aload_n hX dM_weight_0 rfl ?_
  refine k_iconst hX dM_weight_1 ?_
  refine gp_157 hX dM_weight_2 (fun τ1 => ?_)
  refine k_iload_n hX dM_weight_5 rfl ?_
  refine cl_149 hX (by decide) (Nat.le_of_ble_eq_true rfl) dM_weight_6 (fun r3 τ2 => ?_)
  refine k_if_eq (tgt := 24) hX dM_weight_9 (by decide) ?_ ?_
  · refine k_less [true, false, false, false, true] (L' := [lq 10, none, none, none, none]) rfl ?_
    exact tM_weight_J24 hX hR τ2 hT
  · refine k_iload_n hX dM_weight_12 rfl ?_
    refine k_i2l hX dM_weight_13 ?_
    refine k_lconst0 hX dM_weight_14 ?_
    refine k_ldc2 (v := 11) hX dM_weight_15 tw_1226 ?_
    refine cl_120 hX (by decide) (Nat.le_of_ble_eq_true rfl) dM_weight_18 (fun r5 τ4 => ?_)
    refine k_if_ne (tgt := 27) hX dM_weight_21 (by decide) ?_ ?_
    · refine k_iload_n hX dM_weight_27 rfl ?_
      refine k_i2l hX dM_weight_28 ?_
      refine k_lconst0 hX dM_weight_29 ?_
      refine k_ldc2 (v := 99) hX dM_weight_30 tw_1227 ?_
      refine cl_120 hX (by decide) (Nat.le_of_ble_eq_true rfl) dM_weight_33 (fun r7 τ6 => ?_)
      refine k_if_ne (tgt := 42) hX dM_weight_36 (by decide) ?_ ?_
      · refine k_aload_n hX dM_weight_42 rfl ?_
        refine gf_178 hX dM_weight_43 ?_
        refine k_bipush hX dM_weight_46 (by decide) ?_
        refine k_iload_n hX dM_weight_48 rfl ?_
        refine k_imul hX dM_weight_49 ?_
        refine k_iload_n hX dM_weight_50 rfl ?_
        refine k_iadd hX dM_weight_51 ?_
        refine k_iald hX (by decide) rfl dM_weight_52 rfl (fun y8 => ?_)
        refine k_istore (L' := [lq 10, li x1, li x2, li x3, li y8]) hX dM_weight_53 rfl (by decide) rfl ?_
        refine k_aload_n hX dM_weight_55 rfl ?_
        refine gf_178 hX dM_weight_56 ?_
        refine k_bipush hX dM_weight_59 (by decide) ?_
        refine k_iload_n hX dM_weight_61 rfl ?_
        refine k_imul hX dM_weight_62 ?_
        refine k_iload_n hX dM_weight_63 rfl ?_
        refine k_iadd hX dM_weight_64 ?_
        refine k_iload_n hX dM_weight_65 rfl ?_
        refine k_iast hX (by decide) rfl dM_weight_66 rfl (fun τ9 => ?_)
        refine k_iload hX dM_weight_67 rfl ?_
        exact k_iret hX hR hT dM_weight_69
      · refine k_bipush hX dM_weight_39 (by decide) ?_
        exact k_iret hX hR hT dM_weight_41
    · refine k_less [true, false, false, false, true] (L' := [lq 10, none, none, none, none]) rfl ?_
      exact tM_weight_J24 hX hR τ4 hT
theorem dM_windows_0 : decode prog_11_method_26_code 0 = .ok (.aload_n 0, 1) := by decide +kernel
theorem dM_windows_1 : decode prog_11_method_26_code 1 = .ok (.iconst 0, 1) := by decide +kernel
theorem dM_windows_2 : decode prog_11_method_26_code 2 = .ok (.putfield 1, 3) := by decide +kernel
theorem dM_windows_5 : decode prog_11_method_26_code 5 = .ok (.iload_n 1, 1) := by decide +kernel
theorem dM_windows_6 : decode prog_11_method_26_code 6 = .ok (.i2l, 1) := by decide +kernel
theorem dM_windows_7 : decode prog_11_method_26_code 7 = .ok (.ldc2_w 198, 3) := by decide +kernel
theorem dM_windows_10 : decode prog_11_method_26_code 10 = .ok (.ldc2_w 200, 3) := by decide +kernel
theorem dM_windows_13 : decode prog_11_method_26_code 13 = .ok (.invokestatic 134, 3) := by decide +kernel
theorem dM_windows_16 : decode prog_11_method_26_code 16 = .ok (.ifCond .eq 17, 3) := by decide +kernel
theorem dM_windows_19 : decode prog_11_method_26_code 19 = .ok (.iload_n 2, 1) := by decide +kernel
theorem dM_windows_20 : decode prog_11_method_26_code 20 = .ok (.i2l, 1) := by decide +kernel
theorem dM_windows_21 : decode prog_11_method_26_code 21 = .ok (.ldc2_w 198, 3) := by decide +kernel
theorem dM_windows_24 : decode prog_11_method_26_code 24 = .ok (.ldc2_w 200, 3) := by decide +kernel
theorem dM_windows_27 : decode prog_11_method_26_code 27 = .ok (.invokestatic 134, 3) := by decide +kernel
theorem dM_windows_30 : decode prog_11_method_26_code 30 = .ok (.ifCond .ne 6, 3) := by decide +kernel
theorem dM_windows_33 : decode prog_11_method_26_code 33 = .ok (.bipush (-3), 2) := by decide +kernel
theorem dM_windows_35 : decode prog_11_method_26_code 35 = .ok (.ireturn, 1) := by decide +kernel
theorem dM_windows_36 : decode prog_11_method_26_code 36 = .ok (.aload_n 0, 1) := by decide +kernel
theorem dM_windows_37 : decode prog_11_method_26_code 37 = .ok (.iload_n 2, 1) := by decide +kernel
theorem dM_windows_38 : decode prog_11_method_26_code 38 = .ok (.invokevirtual 195, 3) := by decide +kernel
theorem dM_windows_41 : decode prog_11_method_26_code 41 = .ok (.bipush 48, 2) := by decide +kernel
theorem dM_windows_43 : decode prog_11_method_26_code 43 = .ok (.if_icmp .le 6, 3) := by decide +kernel
theorem dM_windows_46 : decode prog_11_method_26_code 46 = .ok (.bipush (-4), 2) := by decide +kernel
theorem dM_windows_48 : decode prog_11_method_26_code 48 = .ok (.ireturn, 1) := by decide +kernel
theorem dM_windows_49 : decode prog_11_method_26_code 49 = .ok (.aload_n 0, 1) := by decide +kernel
theorem dM_windows_50 : decode prog_11_method_26_code 50 = .ok (.iload_n 1, 1) := by decide +kernel
theorem dM_windows_51 : decode prog_11_method_26_code 51 = .ok (.putfield 35, 3) := by decide +kernel
theorem dM_windows_54 : decode prog_11_method_26_code 54 = .ok (.aload_n 0, 1) := by decide +kernel
theorem dM_windows_55 : decode prog_11_method_26_code 55 = .ok (.iload_n 2, 1) := by decide +kernel
theorem dM_windows_56 : decode prog_11_method_26_code 56 = .ok (.putfield 38, 3) := by decide +kernel
theorem dM_windows_59 : decode prog_11_method_26_code 59 = .ok (.aload_n 0, 1) := by decide +kernel
theorem dM_windows_60 : decode prog_11_method_26_code 60 = .ok (.invokevirtual 202, 3) := by decide +kernel
theorem dM_windows_63 : decode prog_11_method_26_code 63 = .ok (.ireturn, 1) := by decide +kernel
set_option maxRecDepth 100000 in
set_option maxHeartbeats 4000000 in
theorem tM_windows_J33 {X : KC} {q : Int × KM} (hX : kOk X 4 prog_11_method_26_code 3 "KeyPathModel") (hR : kRet X (some .int) q) (σ : KM) {Θ : (Int × KM) → Prop} (hT : ∀ z, Θ (z) → z = q) : kJ X 33 [lq 10, none, none] [] σ (fM_windows_J33 σ) Θ := by
  refine k_bipush hX dM_windows_33 (by decide) ?_
  exact k_iret hX hR hT dM_windows_35
set_option maxRecDepth 100000 in
set_option maxHeartbeats 4000000 in
theorem sM_windows (x1 x2 : Int) (σ : KM) : kSem 4 (⟨"KeyPathModel", "windows", "(II)I"⟩ : MethodName) prog_11_method_26_code 3 (some .int) [kr 10, ki x1, ki x2] σ (fM_windows x1 x2 σ) := by
  refine kSem.of (L0 := [lq 10, li x1, li x2]) (by decide) (Nat.le_of_ble_eq_true rfl) rfl (fun X q hX hR => ?_)
  have hT : ∀ z : Int × KM, (fun z => z = q) z → z = q := fun _ h => h
  refine k_aload_n hX dM_windows_0 rfl ?_
  refine k_iconst hX dM_windows_1 ?_
  refine gp_157 hX dM_windows_2 (fun τ1 => ?_)
  refine k_iload_n hX dM_windows_5 rfl ?_
  refine k_i2l hX dM_windows_6 ?_
  refine k_ldc2 (v := 4) hX dM_windows_7 tw_1205 ?_
  refine k_ldc2 (v := 128) hX dM_windows_10 tw_1206 ?_
  refine cl_120 hX (by decide) (Nat.le_of_ble_eq_true rfl) dM_windows_13 (fun r3 τ2 => ?_)
  refine k_if_eq (tgt := 33) hX dM_windows_16 (by decide) ?_ ?_
  · refine k_less [true, false, false] (L' := [lq 10, none, none]) rfl ?_
    exact tM_windows_J33 hX hR τ2 hT
  · refine k_iload_n hX dM_windows_19 rfl ?_
    refine k_i2l hX dM_windows_20 ?_
    refine k_ldc2 (v := 4) hX dM_windows_21 tw_1205 ?_
    refine k_ldc2 (v := 128) hX dM_windows_24 tw_1206 ?_
    refine cl_120 hX (by decide) (Nat.le_of_ble_eq_true rfl) dM_windows_27 (fun r5 τ4 => ?_)
    refine k_if_ne (tgt := 36) hX dM_windows_30 (by decide) ?_ ?_
    · refine k_aload_n hX dM_windows_36 rfl ?_
      refine k_iload_n hX dM_windows_37 rfl ?_
      refine cl_118 hX (by decide) (Nat.le_of_ble_eq_true rfl) dM_windows_38 (fun r7 τ6 => ?_)
      refine k_bipush hX dM_windows_41 (by decide) ?_
      refine k_icmp_le (tgt := 49) hX dM_windows_43 (by decide) ?_ ?_
      · refine k_aload_n hX dM_windows_49 rfl ?_
        refine k_iload_n hX dM_windows_50 rfl ?_
        refine gp_215 hX dM_windows_51 (fun τ8 => ?_)
        refine k_aload_n hX dM_windows_54 rfl ?_
        refine k_iload_n hX dM_windows_55 rfl ?_
        refine gp_216 hX dM_windows_56 (fun τ9 => ?_)
        refine k_aload_n hX dM_windows_59 rfl ?_
        refine cl_119 hX (by decide) (Nat.le_of_ble_eq_true rfl) dM_windows_60 (fun r11 τ10 => ?_)
        exact k_iret hX hR hT dM_windows_63
      · refine k_bipush hX dM_windows_46 (by decide) ?_
        exact k_iret hX hR hT dM_windows_48
    · refine k_less [true, false, false] (L' := [lq 10, none, none]) rfl ?_
      exact tM_windows_J33 hX hR τ4 hT
theorem dM_within_0 : decode prog_11_method_68_code 0 = .ok (.aload_n 0, 1) := by decide +kernel
theorem dM_within_1 : decode prog_11_method_68_code 1 = .ok (.iconst 0, 1) := by decide +kernel
theorem dM_within_2 : decode prog_11_method_68_code 2 = .ok (.putfield 1, 3) := by decide +kernel
theorem dM_within_5 : decode prog_11_method_68_code 5 = .ok (.iload_n 1, 1) := by decide +kernel
theorem dM_within_6 : decode prog_11_method_68_code 6 = .ok (.i2l, 1) := by decide +kernel
theorem dM_within_7 : decode prog_11_method_68_code 7 = .ok (.lconst 0, 1) := by decide +kernel
theorem dM_within_8 : decode prog_11_method_68_code 8 = .ok (.ldc2_w 218, 3) := by decide +kernel
theorem dM_within_11 : decode prog_11_method_68_code 11 = .ok (.invokestatic 134, 3) := by decide +kernel
theorem dM_within_14 : decode prog_11_method_68_code 14 = .ok (.ifCond .ne 6, 3) := by decide +kernel
theorem dM_within_17 : decode prog_11_method_68_code 17 = .ok (.bipush (-3), 2) := by decide +kernel
theorem dM_within_19 : decode prog_11_method_68_code 19 = .ok (.ireturn, 1) := by decide +kernel
theorem dM_within_20 : decode prog_11_method_68_code 20 = .ok (.aload_n 0, 1) := by decide +kernel
theorem dM_within_21 : decode prog_11_method_68_code 21 = .ok (.invokevirtual 287, 3) := by decide +kernel
theorem dM_within_24 : decode prog_11_method_68_code 24 = .ok (.ifCond .ne 6, 3) := by decide +kernel
theorem dM_within_27 : decode prog_11_method_68_code 27 = .ok (.bipush (-5), 2) := by decide +kernel
theorem dM_within_29 : decode prog_11_method_68_code 29 = .ok (.ireturn, 1) := by decide +kernel
theorem dM_within_30 : decode prog_11_method_68_code 30 = .ok (.aload_n 0, 1) := by decide +kernel
theorem dM_within_31 : decode prog_11_method_68_code 31 = .ok (.getfield 267, 3) := by decide +kernel
theorem dM_within_34 : decode prog_11_method_68_code 34 = .ok (.ifCond .ne 5, 3) := by decide +kernel
theorem dM_within_37 : decode prog_11_method_68_code 37 = .ok (.iconst 0, 1) := by decide +kernel
theorem dM_within_38 : decode prog_11_method_68_code 38 = .ok (.ireturn, 1) := by decide +kernel
theorem dM_within_39 : decode prog_11_method_68_code 39 = .ok (.iconst 0, 1) := by decide +kernel
theorem dM_within_40 : decode prog_11_method_68_code 40 = .ok (.istore_n 2, 1) := by decide +kernel
theorem dM_within_41 : decode prog_11_method_68_code 41 = .ok (.iload_n 2, 1) := by decide +kernel
theorem dM_within_42 : decode prog_11_method_68_code 42 = .ok (.bipush 24, 2) := by decide +kernel
theorem dM_within_44 : decode prog_11_method_68_code 44 = .ok (.iload_n 1, 1) := by decide +kernel
theorem dM_within_45 : decode prog_11_method_68_code 45 = .ok (.iconst 1, 1) := by decide +kernel
theorem dM_within_46 : decode prog_11_method_68_code 46 = .ok (.iadd, 1) := by decide +kernel
theorem dM_within_47 : decode prog_11_method_68_code 47 = .ok (.imul, 1) := by decide +kernel
theorem dM_within_48 : decode prog_11_method_68_code 48 = .ok (.if_icmp .ge 32, 3) := by decide +kernel
theorem dM_within_51 : decode prog_11_method_68_code 51 = .ok (.aload_n 0, 1) := by decide +kernel
theorem dM_within_52 : decode prog_11_method_68_code 52 = .ok (.getfield 97, 3) := by decide +kernel
theorem dM_within_55 : decode prog_11_method_68_code 55 = .ok (.iload_n 2, 1) := by decide +kernel
theorem dM_within_56 : decode prog_11_method_68_code 56 = .ok (.iload_n 2, 1) := by decide +kernel
theorem dM_within_57 : decode prog_11_method_68_code 57 = .ok (.bipush 24, 2) := by decide +kernel
theorem dM_within_59 : decode prog_11_method_68_code 59 = .ok (.if_icmp .ge 12, 3) := by decide +kernel
theorem dM_within_62 : decode prog_11_method_68_code 62 = .ok (.aload_n 0, 1) := by decide +kernel
theorem dM_within_63 : decode prog_11_method_68_code 63 = .ok (.getfield 78, 3) := by decide +kernel
theorem dM_within_66 : decode prog_11_method_68_code 66 = .ok (.iload_n 2, 1) := by decide +kernel
theorem dM_within_67 : decode prog_11_method_68_code 67 = .ok (.iaload, 1) := by decide +kernel
theorem dM_within_68 : decode prog_11_method_68_code 68 = .ok (.goto 5, 3) := by decide +kernel
theorem dM_within_71 : decode prog_11_method_68_code 71 = .ok (.ldc 254, 2) := by decide +kernel
theorem dM_within_73 : decode prog_11_method_68_code 73 = .ok (.iastore, 1) := by decide +kernel
theorem dM_within_74 : decode prog_11_method_68_code 74 = .ok (.iinc 2 1, 3) := by decide +kernel
theorem dM_within_77 : decode prog_11_method_68_code 77 = .ok (.goto (-36), 3) := by decide +kernel
theorem dM_within_80 : decode prog_11_method_68_code 80 = .ok (.iconst 1, 1) := by decide +kernel
theorem dM_within_81 : decode prog_11_method_68_code 81 = .ok (.istore_n 2, 1) := by decide +kernel
theorem dM_within_82 : decode prog_11_method_68_code 82 = .ok (.iload_n 2, 1) := by decide +kernel
theorem dM_within_83 : decode prog_11_method_68_code 83 = .ok (.aload_n 0, 1) := by decide +kernel
theorem dM_within_84 : decode prog_11_method_68_code 84 = .ok (.getfield 267, 3) := by decide +kernel
theorem dM_within_87 : decode prog_11_method_68_code 87 = .ok (.if_icmp .ge 168, 3) := by decide +kernel
theorem dM_within_90 : decode prog_11_method_68_code 90 = .ok (.iconst 0, 1) := by decide +kernel
theorem dM_within_91 : decode prog_11_method_68_code 91 = .ok (.istore_n 3, 1) := by decide +kernel
theorem dM_within_92 : decode prog_11_method_68_code 92 = .ok (.iload_n 3, 1) := by decide +kernel
theorem dM_within_93 : decode prog_11_method_68_code 93 = .ok (.iload_n 1, 1) := by decide +kernel
theorem dM_within_94 : decode prog_11_method_68_code 94 = .ok (.if_icmp .gt 148, 3) := by decide +kernel
theorem dM_within_97 : decode prog_11_method_68_code 97 = .ok (.iconst 0, 1) := by decide +kernel
theorem dM_within_98 : decode prog_11_method_68_code 98 = .ok (.istore 4, 2) := by decide +kernel
theorem dM_within_100 : decode prog_11_method_68_code 100 = .ok (.iload 4, 2) := by decide +kernel
theorem dM_within_102 : decode prog_11_method_68_code 102 = .ok (.bipush 24, 2) := by decide +kernel
theorem dM_within_104 : decode prog_11_method_68_code 104 = .ok (.if_icmp .ge 132, 3) := by decide +kernel
theorem dM_within_107 : decode prog_11_method_68_code 107 = .ok (.aload_n 0, 1) := by decide +kernel
theorem dM_within_108 : decode prog_11_method_68_code 108 = .ok (.getfield 97, 3) := by decide +kernel
theorem dM_within_111 : decode prog_11_method_68_code 111 = .ok (.bipush 24, 2) := by decide +kernel
theorem dM_within_113 : decode prog_11_method_68_code 113 = .ok (.iload_n 3, 1) := by decide +kernel
theorem dM_within_114 : decode prog_11_method_68_code 114 = .ok (.imul, 1) := by decide +kernel
theorem dM_within_115 : decode prog_11_method_68_code 115 = .ok (.iload 4, 2) := by decide +kernel
theorem dM_within_117 : decode prog_11_method_68_code 117 = .ok (.iadd, 1) := by decide +kernel
theorem dM_within_118 : decode prog_11_method_68_code 118 = .ok (.iaload, 1) := by decide +kernel
theorem dM_within_119 : decode prog_11_method_68_code 119 = .ok (.istore 5, 2) := by decide +kernel
theorem dM_within_121 : decode prog_11_method_68_code 121 = .ok (.iconst 0, 1) := by decide +kernel
theorem dM_within_122 : decode prog_11_method_68_code 122 = .ok (.istore 6, 2) := by decide +kernel
theorem dM_within_124 : decode prog_11_method_68_code 124 = .ok (.iload 6, 2) := by decide +kernel
theorem dM_within_126 : decode prog_11_method_68_code 126 = .ok (.bipush 24, 2) := by decide +kernel
theorem dM_within_128 : decode prog_11_method_68_code 128 = .ok (.if_icmp .ge 73, 3) := by decide +kernel
theorem dM_within_131 : decode prog_11_method_68_code 131 = .ok (.iload_n 3, 1) := by decide +kernel
theorem dM_within_132 : decode prog_11_method_68_code 132 = .ok (.ifCond .le 69, 3) := by decide +kernel
theorem dM_within_135 : decode prog_11_method_68_code 135 = .ok (.iload 6, 2) := by decide +kernel
theorem dM_within_137 : decode prog_11_method_68_code 137 = .ok (.iload 4, 2) := by decide +kernel
theorem dM_within_139 : decode prog_11_method_68_code 139 = .ok (.if_icmp .ne 8, 3) := by decide +kernel
theorem dM_within_142 : decode prog_11_method_68_code 142 = .ok (.ldc 254, 2) := by decide +kernel
theorem dM_within_144 : decode prog_11_method_68_code 144 = .ok (.goto 33, 3) := by decide +kernel
theorem dM_within_147 : decode prog_11_method_68_code 147 = .ok (.aload_n 0, 1) := by decide +kernel
theorem dM_within_148 : decode prog_11_method_68_code 148 = .ok (.getfield 97, 3) := by decide +kernel
theorem dM_within_151 : decode prog_11_method_68_code 151 = .ok (.bipush 24, 2) := by decide +kernel
theorem dM_within_153 : decode prog_11_method_68_code 153 = .ok (.iload_n 3, 1) := by decide +kernel
theorem dM_within_154 : decode prog_11_method_68_code 154 = .ok (.iconst 1, 1) := by decide +kernel
theorem dM_within_155 : decode prog_11_method_68_code 155 = .ok (.isub, 1) := by decide +kernel
theorem dM_within_156 : decode prog_11_method_68_code 156 = .ok (.imul, 1) := by decide +kernel
theorem dM_within_157 : decode prog_11_method_68_code 157 = .ok (.iload 6, 2) := by decide +kernel
theorem dM_within_159 : decode prog_11_method_68_code 159 = .ok (.iadd, 1) := by decide +kernel
theorem dM_within_160 : decode prog_11_method_68_code 160 = .ok (.iaload, 1) := by decide +kernel
theorem dM_within_161 : decode prog_11_method_68_code 161 = .ok (.aload_n 0, 1) := by decide +kernel
theorem dM_within_162 : decode prog_11_method_68_code 162 = .ok (.iload 6, 2) := by decide +kernel
theorem dM_within_164 : decode prog_11_method_68_code 164 = .ok (.iload 4, 2) := by decide +kernel
theorem dM_within_166 : decode prog_11_method_68_code 166 = .ok (.iload_n 2, 1) := by decide +kernel
theorem dM_within_167 : decode prog_11_method_68_code 167 = .ok (.aload_n 0, 1) := by decide +kernel
theorem dM_within_168 : decode prog_11_method_68_code 168 = .ok (.getfield 50, 3) := by decide +kernel
theorem dM_within_171 : decode prog_11_method_68_code 171 = .ok (.invokevirtual 270, 3) := by decide +kernel
theorem dM_within_174 : decode prog_11_method_68_code 174 = .ok (.invokestatic 274, 3) := by decide +kernel
theorem dM_within_177 : decode prog_11_method_68_code 177 = .ok (.istore 7, 2) := by decide +kernel
theorem dM_within_179 : decode prog_11_method_68_code 179 = .ok (.iload 7, 2) := by decide +kernel
theorem dM_within_181 : decode prog_11_method_68_code 181 = .ok (.iload 5, 2) := by decide +kernel
theorem dM_within_183 : decode prog_11_method_68_code 183 = .ok (.if_icmp .ge 8, 3) := by decide +kernel
theorem dM_within_186 : decode prog_11_method_68_code 186 = .ok (.iload 7, 2) := by decide +kernel
theorem dM_within_188 : decode prog_11_method_68_code 188 = .ok (.goto 5, 3) := by decide +kernel
theorem dM_within_191 : decode prog_11_method_68_code 191 = .ok (.iload 5, 2) := by decide +kernel
theorem dM_within_193 : decode prog_11_method_68_code 193 = .ok (.istore 5, 2) := by decide +kernel
theorem dM_within_195 : decode prog_11_method_68_code 195 = .ok (.iinc 6 1, 3) := by decide +kernel
theorem dM_within_198 : decode prog_11_method_68_code 198 = .ok (.goto (-74), 3) := by decide +kernel
theorem dM_within_201 : decode prog_11_method_68_code 201 = .ok (.aload_n 0, 1) := by decide +kernel
theorem dM_within_202 : decode prog_11_method_68_code 202 = .ok (.getfield 100, 3) := by decide +kernel
theorem dM_within_205 : decode prog_11_method_68_code 205 = .ok (.bipush 24, 2) := by decide +kernel
theorem dM_within_207 : decode prog_11_method_68_code 207 = .ok (.iload_n 3, 1) := by decide +kernel
theorem dM_within_208 : decode prog_11_method_68_code 208 = .ok (.imul, 1) := by decide +kernel
theorem dM_within_209 : decode prog_11_method_68_code 209 = .ok (.iload 4, 2) := by decide +kernel
theorem dM_within_211 : decode prog_11_method_68_code 211 = .ok (.iadd, 1) := by decide +kernel
theorem dM_within_212 : decode prog_11_method_68_code 212 = .ok (.iload 5, 2) := by decide +kernel
theorem dM_within_214 : decode prog_11_method_68_code 214 = .ok (.aload_n 0, 1) := by decide +kernel
theorem dM_within_215 : decode prog_11_method_68_code 215 = .ok (.getfield 78, 3) := by decide +kernel
theorem dM_within_218 : decode prog_11_method_68_code 218 = .ok (.bipush 24, 2) := by decide +kernel
theorem dM_within_220 : decode prog_11_method_68_code 220 = .ok (.iload_n 2, 1) := by decide +kernel
theorem dM_within_221 : decode prog_11_method_68_code 221 = .ok (.imul, 1) := by decide +kernel
theorem dM_within_222 : decode prog_11_method_68_code 222 = .ok (.iload 4, 2) := by decide +kernel
theorem dM_within_224 : decode prog_11_method_68_code 224 = .ok (.iadd, 1) := by decide +kernel
theorem dM_within_225 : decode prog_11_method_68_code 225 = .ok (.iaload, 1) := by decide +kernel
theorem dM_within_226 : decode prog_11_method_68_code 226 = .ok (.invokestatic 274, 3) := by decide +kernel
theorem dM_within_229 : decode prog_11_method_68_code 229 = .ok (.iastore, 1) := by decide +kernel
theorem dM_within_230 : decode prog_11_method_68_code 230 = .ok (.iinc 4 1, 3) := by decide +kernel
theorem dM_within_233 : decode prog_11_method_68_code 233 = .ok (.goto (-133), 3) := by decide +kernel
theorem dM_within_236 : decode prog_11_method_68_code 236 = .ok (.iinc 3 1, 3) := by decide +kernel
theorem dM_within_239 : decode prog_11_method_68_code 239 = .ok (.goto (-147), 3) := by decide +kernel
theorem dM_within_242 : decode prog_11_method_68_code 242 = .ok (.aload_n 0, 1) := by decide +kernel
theorem dM_within_243 : decode prog_11_method_68_code 243 = .ok (.iload_n 1, 1) := by decide +kernel
theorem dM_within_244 : decode prog_11_method_68_code 244 = .ok (.iconst 1, 1) := by decide +kernel
theorem dM_within_245 : decode prog_11_method_68_code 245 = .ok (.iadd, 1) := by decide +kernel
theorem dM_within_246 : decode prog_11_method_68_code 246 = .ok (.invokevirtual 298, 3) := by decide +kernel
theorem dM_within_249 : decode prog_11_method_68_code 249 = .ok (.iinc 2 1, 3) := by decide +kernel
theorem dM_within_252 : decode prog_11_method_68_code 252 = .ok (.goto (-170), 3) := by decide +kernel
theorem dM_within_255 : decode prog_11_method_68_code 255 = .ok (.aload_n 0, 1) := by decide +kernel
theorem dM_within_256 : decode prog_11_method_68_code 256 = .ok (.iconst 0, 1) := by decide +kernel
theorem dM_within_257 : decode prog_11_method_68_code 257 = .ok (.bipush 24, 2) := by decide +kernel
theorem dM_within_259 : decode prog_11_method_68_code 259 = .ok (.iload_n 1, 1) := by decide +kernel
theorem dM_within_260 : decode prog_11_method_68_code 260 = .ok (.iconst 1, 1) := by decide +kernel
theorem dM_within_261 : decode prog_11_method_68_code 261 = .ok (.iadd, 1) := by decide +kernel
theorem dM_within_262 : decode prog_11_method_68_code 262 = .ok (.imul, 1) := by decide +kernel
theorem dM_within_263 : decode prog_11_method_68_code 263 = .ok (.invokevirtual 301, 3) := by decide +kernel
theorem dM_within_266 : decode prog_11_method_68_code 266 = .ok (.ireturn, 1) := by decide +kernel
set_option maxRecDepth 100000 in
set_option maxHeartbeats 4000000 in
theorem tM_within_J255 {X : KC} {q : Int × KM} (hX : kOk X 6 prog_11_method_68_code 8 "KeyPathModel") (hR : kRet X (some .int) q) (x1 : Int) (σ : KM) {Θ : (Int × KM) → Prop} (hT : ∀ z, Θ (z) → z = q) : kJ X 255 [lq 10, li x1, none, none, none, none, none, none] [] σ (fM_within_J255 x1 σ) Θ := by
  refine k_aload_n hX dM_within_255 rfl ?_
  refine k_iconst hX dM_within_256 ?_
  refine k_bipush hX dM_within_257 (by decide) ?_
  refine k_iload_n hX dM_within_259 rfl ?_
  refine k_iconst hX dM_within_260 ?_
  refine k_iadd hX dM_within_261 ?_
  refine k_imul hX dM_within_262 ?_
  refine cl_147 hX (by decide) (Nat.le_of_ble_eq_true rfl) dM_within_263 (fun r2 τ1 => ?_)
  exact k_iret hX hR hT dM_within_266
set_option maxRecDepth 100000 in
set_option maxHeartbeats 4000000 in
theorem tM_within_J242 {X : KC} {q : Int × KM} (hX : kOk X 6 prog_11_method_68_code 8 "KeyPathModel") (hR : kRet X (some .int) q) (x1 x2 : Int) (σ : KM) {Θ : ((Int × KM) ⊕ (Int × KM)) → Prop} (hT : ∀ z, Θ (.inr (z)) → z = q) (hb0 : ∀ s : Int × KM, Θ (.inl s) → kW X 82 [lq 10, li x1, li s.1, none, none, none, none, none] [] s.2) : kJ X 242 [lq 10, li x1, li x2, none, none, none, none, none] [] σ (fM_within_J242 x1 x2 σ) Θ := by
  refine k_aload_n hX dM_within_242 rfl ?_
  refine k_iload_n hX dM_within_243 rfl ?_
  refine k_iconst hX dM_within_244 ?_
  refine k_iadd hX dM_within_245 ?_
  refine cl_148 hX (by decide) (Nat.le_of_ble_eq_true rfl) dM_within_246 (fun _ τ1 => ?_)
  refine k_iincL (Lf := fun y2 => [lq 10, li x1, li y2, none, none, none, none, none]) hX dM_within_249 rfl (by decide) rfl (fun _ => rfl) (fun y2 => ?_)
  refine k_goto (tgt := 82) hX dM_within_252 (by decide) ?_
  exact k_back (hb0 (y2, τ1))
set_option maxRecDepth 100000 in
set_option maxHeartbeats 4000000 in
theorem tM_within_J236 {X : KC} {q : Int × KM} (hX : kOk X 6 prog_11_method_68_code 8 "KeyPathModel") (hR : kRet X (some .int) q) (x1 x2 x3 : Int) (σ : KM) {Θ : ((Int × KM) ⊕ ((Int × KM) ⊕ (Int × KM))) → Prop} (hT : ∀ z, Θ (.inr (.inr (z))) → z = q) (hb0 : ∀ s : Int × KM, Θ (.inl s) → kW X 92 [lq 10, li x1, li x2, li s.1, none, none, none, none] [] s.2) (hb1 : ∀ s : Int × KM, Θ (.inr (.inl s)) → kW X 82 [lq 10, li x1, li s.1, none, none, none, none, none] [] s.2) : kJ X 236 [lq 10, li x1, li x2, li x3, none, none, none, none] [] σ (fM_within_J236 x1 x2 x3 σ) Θ := by
  refine k_iincL (Lf := fun y1 => [lq 10, li x1, li x2, li y1, none, none, none, none]) hX dM_within_236 rfl (by decide) rfl (fun _ => rfl) (fun y1 => ?_)
  refine k_goto (tgt := 92) hX dM_within_239 (by decide) ?_
  exact k_back (hb0 (y1, σ))
set_option maxRecDepth 100000 in
set_option maxHeartbeats 4000000 in
theorem tM_within_J201 {X : KC} {q : Int × KM} (hX : kOk X 6 prog_11_method_68_code 8 "KeyPathModel") (hR : kRet X (some .int) q) (x1 x2 x3 x4 x5 : Int) (σ : KM) {Θ : ((Int × KM) ⊕ ((Int × KM) ⊕ ((Int × KM) ⊕ (Int × KM)))) → Prop} (hT : ∀ z, Θ (.inr (.inr (.inr (z)))) → z = q) (hb0 : ∀ s : Int × KM, Θ (.inl s) → kW X 100 [lq 10, li x1, li x2, li x3, li s.1, none, none, none] [] s.2) (hb1 : ∀ s : Int × KM, Θ (.inr (.inl s)) → kW X 92 [lq 10, li x1, li x2, li s.1, none, none, none, none] [] s.2) (hb2 : ∀ s : Int × KM, Θ (.inr (.inr (.inl s))) → kW X 82 [lq 10, li x1, li s.1, none, none, none, none, none] [] s.2) : kJ X 201 [lq 10, li x1, li x2, li x3, li x4, li x5, none, none] [] σ (fM_within_J201 x1 x2 x3 x4 x5 σ) Θ := by
  refine k_aload_n hX dM_within_201 rfl ?_
  refine gf_195 hX dM_within_202 ?_
  refine k_bipush hX dM_within_205 (by decide) ?_
  refine k_iload_n hX dM_within_207 rfl ?_
  refine k_imul hX dM_within_208 ?_
  refine k_iload hX dM_within_209 rfl ?_
  refine k_iadd hX dM_within_211 ?_
  refine k_iload hX dM_within_212 rfl ?_
  refine k_aload_n hX dM_within_214 rfl ?_
  refine gf_176 hX dM_within_215 ?_
  refine k_bipush hX dM_within_218 (by decide) ?_
  refine k_iload_n hX dM_within_220 rfl ?_
  refine k_imul hX dM_within_221 ?_
  refine k_iload hX dM_within_222 rfl ?_
  refine k_iadd hX dM_within_224 ?_
  refine k_iald hX (by decide) rfl dM_within_225 rfl (fun y1 => ?_)
  refine cl_134 hX (by decide) (Nat.le_of_ble_eq_true rfl) dM_within_226 (fun r3 τ2 => ?_)
  refine k_iast hX (by decide) rfl dM_within_229 rfl (fun τ4 => ?_)
  refine k_iincL (Lf := fun y5 => [lq 10, li x1, li x2, li x3, li y5, li x5, none, none]) hX dM_within_230 rfl (by decide) rfl (fun _ => rfl) (fun y5 => ?_)
  refine k_goto (tgt := 100) hX dM_within_233 (by decide) ?_
  refine k_less [true, true, true, true, true, false, true, true] (L' := [lq 10, li x1, li x2, li x3, li y5, none, none, none]) rfl ?_
  exact k_back (hb0 (y5, τ4))
set_option maxRecDepth 100000 in
set_option maxHeartbeats 4000000 in
theorem tM_within_J193 {X : KC} {q : Int × KM} (hX : kOk X 6 prog_11_method_68_code 8 "KeyPathModel") (hR : kRet X (some .int) q) (x1 x2 x3 x4 x6 t0 : Int) (σ : KM) {Θ : ((Int × Int × KM) ⊕ ((Int × KM) ⊕ ((Int × KM) ⊕ ((Int × KM) ⊕ (Int × KM))))) → Prop} (hT : ∀ z, Θ (.inr (.inr (.inr (.inr (z))))) → z = q) (hb0 : ∀ s : Int × Int × KM, Θ (.inl s) → kW X 124 [lq 10, li x1, li x2, li x3, li x4, li s.1, li s.2.1, none] [] s.2.2) (hb1 : ∀ s : Int × KM, Θ (.inr (.inl s)) → kW X 100 [lq 10, li x1, li x2, li x3, li s.1, none, none, none] [] s.2) (hb2 : ∀ s : Int × KM, Θ (.inr (.inr (.inl s))) → kW X 92 [lq 10, li x1, li x2, li s.1, none, none, none, none] [] s.2) (hb3 : ∀ s : Int × KM, Θ (.inr (.inr (.inr (.inl s)))) → kW X 82 [lq 10, li x1, li s.1, none, none, none, none, none] [] s.2) : kJ X 193 [lq 10, li x1, li x2, li x3, li x4, none, li x6, none] [ki t0] σ (fM_within_J193 x1 x2 x3 x4 x6 t0 σ) Θ := by
  refine k_istore (L' := [lq 10, li x1, li x2, li x3, li x4, li t0, li x6, none]) hX dM_within_193 rfl (by decide) rfl ?_
  refine k_iincL (Lf := fun y1 => [lq 10, li x1, li x2, li x3, li x4, li t0, li y1, none]) hX dM_within_195 rfl (by decide) rfl (fun _ => rfl) (fun y1 => ?_)
  refine k_goto (tgt := 124) hX dM_within_198 (by decide) ?_
  exact k_back (hb0 (t0, y1, σ))
set_option maxRecDepth 100000 in
set_option maxHeartbeats 4000000 in
theorem tM_within_J177 {X : KC} {q : Int × KM} (hX : kOk X 6 prog_11_method_68_code 8 "KeyPathModel") (hR : kRet X (some .int) q) (x1 x2 x3 x4 x5 x6 t0 : Int) (σ : KM) {Θ : ((Int × Int × KM) ⊕ ((Int × KM) ⊕ ((Int × KM) ⊕ ((Int × KM) ⊕ (Int × KM))))) → Prop} (hT : ∀ z, Θ (.inr (.inr (.inr (.inr (z))))) → z = q) (hb0 : ∀ s : Int × Int × KM, Θ (.inl s) → kW X 124 [lq 10, li x1, li x2, li x3, li x4, li s.1, li s.2.1, none] [] s.2.2) (hb1 : ∀ s : Int × KM, Θ (.inr (.inl s)) → kW X 100 [lq 10, li x1, li x2, li x3, li s.1, none, none, none] [] s.2) (hb2 : ∀ s : Int × KM, Θ (.inr (.inr (.inl s))) → kW X 92 [lq 10, li x1, li x2, li s.1, none, none, none, none] [] s.2) (hb3 : ∀ s : Int × KM, Θ (.inr (.inr (.inr (.inl s)))) → kW X 82 [lq 10, li x1, li s.1, none, none, none, none, none] [] s.2) : kJ X 177 [lq 10, li x1, li x2, li x3, li x4, li x5, li x6, none] [ki t0] σ (fM_within_J177 x1 x2 x3 x4 x5 x6 t0 σ) Θ := by
  refine k_istore (L' := [lq 10, li x1, li x2, li x3, li x4, li x5, li x6, li t0]) hX dM_within_177 rfl (by decide) rfl ?_
  refine k_iload hX dM_within_179 rfl ?_
  refine k_iload hX dM_within_181 rfl ?_
  refine k_icmp_ge (tgt := 191) hX dM_within_183 (by decide) ?_ ?_
  · refine k_iload hX dM_within_191 rfl ?_
    refine k_less [true, true, true, true, true, false, true, false] (L' := [lq 10, li x1, li x2, li x3, li x4, none, li x6, none]) rfl ?_
    exact tM_within_J193 hX hR x1 x2 x3 x4 x6 x5 σ hT hb0 hb1 hb2 hb3
  · refine k_iload hX dM_within_186 rfl ?_
    refine k_goto (tgt := 193) hX dM_within_188 (by decide) ?_
    refine k_less [true, true, true, true, true, false, true, false] (L' := [lq 10, li x1, li x2, li x3, li x4, none, li x6, none]) rfl ?_
    exact tM_within_J193 hX hR x1 x2 x3 x4 x6 t0 σ hT hb0 hb1 hb2 hb3
set_option maxRecDepth 100000 in
set_option maxHeartbeats 4000000 in
theorem tM_within_B124 {X : KC} {q : Int × KM} (hX : kOk X 6 prog_11_method_68_code 8 "KeyPathModel") (hR : kRet X (some .int) q) (x1 x2 x3 x4 x5 x6 : Int) (σ : KM) {Θ : ((Int × Int × KM) ⊕ ((Int × KM) ⊕ ((Int × KM) ⊕ ((Int × KM) ⊕ (Int × KM))))) → Prop} (hT : ∀ z, Θ (.inr (.inr (.inr (.inr (z))))) → z = q) (hb0 : ∀ s : Int × Int × KM, Θ (.inl s) → kW X 124 [lq 10, li x1, li x2, li x3, li x4, li s.1, li s.2.1, none] [] s.2.2) (hb1 : ∀ s : Int × KM, Θ (.inr (.inl s)) → kW X 100 [lq 10, li x1, li x2, li x3, li s.1, none, none, none] [] s.2) (hb2 : ∀ s : Int × KM, Θ (.inr (.inr (.inl s))) → kW X 92 [lq 10, li x1, li x2, li s.1, none, none, none, none] [] s.2) (hb3 : ∀ s : Int × KM, Θ (.inr (.inr (.inr (.inl s)))) → kW X 82 [lq 10, li x1, li s.1, none, none, none, none, none] [] s.2) : kJ X 124 [lq 10, li x1, li x2, li x3, li x4, li x5, li x6, none] [] σ (fM_within_B124 x1 x2 x3 x4 x5 x6 σ) Θ := by
  refine k_iload hX dM_within_124 rfl ?_
  refine k_bipush hX dM_within_126 (by decide) ?_
  refine k_icmp_ge (tgt := 201) hX dM_within_128 (by decide) ?_ ?_
  · refine k_exit ?_
    refine k_less [true, true, true, true, true, true, false, true] (L' := [lq 10, li x1, li x2, li x3, li x4, li x5, none, none]) rfl ?_
    exact tM_within_J201 hX hR x1 x2 x3 x4 x5 σ hT hb1 hb2 hb3
  · refine k_iload_n hX dM_within_131 rfl ?_
    refine k_if_le (tgt := 201) hX dM_within_132 (by decide) ?_ ?_
    · refine k_exit ?_
      refine k_less [true, true, true, true, true, true, false, true] (L' := [lq 10, li x1, li x2, li x3, li x4, li x5, none, none]) rfl ?_
      exact tM_within_J201 hX hR x1 x2 x3 x4 x5 σ hT hb1 hb2 hb3
    · refine k_iload hX dM_within_135 rfl ?_
      refine k_iload hX dM_within_137 rfl ?_
      refine k_icmp_ne (tgt := 147) hX dM_within_139 (by decide) ?_ ?_
      · refine k_aload_n hX dM_within_147 rfl ?_
        refine gf_194 hX dM_within_148 ?_
        refine k_bipush hX dM_within_151 (by decide) ?_
        refine k_iload_n hX dM_within_153 rfl ?_
        refine k_iconst hX dM_within_154 ?_
        refine k_isub hX dM_within_155 ?_
        refine k_imul hX dM_within_156 ?_
        refine k_iload hX dM_within_157 rfl ?_
        refine k_iadd hX dM_within_159 ?_
        refine k_iald hX (by decide) rfl dM_within_160 rfl (fun y1 => ?_)
        refine k_aload_n hX dM_within_161 rfl ?_
        refine k_iload hX dM_within_162 rfl ?_
        refine k_iload hX dM_within_164 rfl ?_
        refine k_iload_n hX dM_within_166 rfl ?_
        refine k_aload_n hX dM_within_167 rfl ?_
        refine gf_179 hX dM_within_168 ?_
        refine cl_133 hX (by decide) (Nat.le_of_ble_eq_true rfl) dM_within_171 (fun r3 τ2 => ?_)
        refine cl_134 hX (by decide) (Nat.le_of_ble_eq_true rfl) dM_within_174 (fun r5 τ4 => ?_)
        exact tM_within_J177 hX hR x1 x2 x3 x4 x5 x6 r5 τ4 hT hb0 hb1 hb2 hb3
      · refine k_ldc (v := 1000000000) (w := 0) hX dM_within_142 tw_1309 ?_
        refine k_goto (tgt := 177) hX dM_within_144 (by decide) ?_
        exact tM_within_J177 hX hR x1 x2 x3 x4 x5 x6 1000000000 σ hT hb0 hb1 hb2 hb3
set_option maxRecDepth 100000 in
set_option maxHeartbeats 4000000 in
theorem tM_within_L124 {X : KC} {q : Int × KM} (hX : kOk X 6 prog_11_method_68_code 8 "KeyPathModel") (hR : kRet X (some .int) q) (x1 x2 x3 x4 x5 x6 : Int) (σ : KM) {Θ : ((Int × KM) ⊕ ((Int × KM) ⊕ ((Int × KM) ⊕ (Int × KM)))) → Prop} (hT : ∀ z, Θ (.inr (.inr (.inr (z)))) → z = q) (hb0 : ∀ s : Int × KM, Θ (.inl s) → kW X 100 [lq 10, li x1, li x2, li x3, li s.1, none, none, none] [] s.2) (hb1 : ∀ s : Int × KM, Θ (.inr (.inl s)) → kW X 92 [lq 10, li x1, li x2, li s.1, none, none, none, none] [] s.2) (hb2 : ∀ s : Int × KM, Θ (.inr (.inr (.inl s))) → kW X 82 [lq 10, li x1, li s.1, none, none, none, none, none] [] s.2) : kJ X 124 [lq 10, li x1, li x2, li x3, li x4, li x5, li x6, none] [] σ (fM_within_L124 x1 x2 x3 x4 x5 x6 σ) Θ :=
  k_iter (f := fun s => fM_within_B124 x1 x2 x3 x4 s.1 s.2.1 s.2.2) (Lf := fun s => [lq 10, li x1, li x2, li x3, li x4, li s.1, li s.2.1, none]) (mf := fun s => s.2.2) (Θ := Θ) (fun s => tM_within_B124 hX hR x1 x2 x3 x4 s.1 s.2.1 s.2.2 hT (fun _ h9 => h9) hb0 hb1 hb2) kF (x5, x6, σ)
set_option maxRecDepth 100000 in
set_option maxHeartbeats 4000000 in
theorem tM_within_B100 {X : KC} {q : Int × KM} (hX : kOk X 6 prog_11_method_68_code 8 "KeyPathModel") (hR : kRet X (some .int) q) (x1 x2 x3 x4 : Int) (σ : KM) {Θ : ((Int × KM) ⊕ ((Int × KM) ⊕ ((Int × KM) ⊕ (Int × KM)))) → Prop} (hT : ∀ z, Θ (.inr (.inr (.inr (z)))) → z = q) (hb0 : ∀ s : Int × KM, Θ (.inl s) → kW X 100 [lq 10, li x1, li x2, li x3, li s.1, none, none, none] [] s.2) (hb1 : ∀ s : Int × KM, Θ (.inr (.inl s)) → kW X 92 [lq 10, li x1, li x2, li s.1, none, none, none, none] [] s.2) (hb2 : ∀ s : Int × KM, Θ (.inr (.inr (.inl s))) → kW X 82 [lq 10, li x1, li s.1, none, none, none, none, none] [] s.2) : kJ X 100 [lq 10, li x1, li x2, li x3, li x4, none, none, none] [] σ (fM_within_B100 x1 x2 x3 x4 σ) Θ := by
  refine k_iload hX dM_within_100 rfl ?_
  refine k_bipush hX dM_within_102 (by decide) ?_
  refine k_icmp_ge (tgt := 236) hX dM_within_104 (by decide) ?_ ?_
  · refine k_exit ?_
    refine k_less [true, true, true, true, false, true, true, true] (L' := [lq 10, li x1, li x2, li x3, none, none, none, none]) rfl ?_
    exact tM_within_J236 hX hR x1 x2 x3 σ hT hb1 hb2
  · refine k_aload_n hX dM_within_107 rfl ?_
    refine gf_194 hX dM_within_108 ?_
    refine k_bipush hX dM_within_111 (by decide) ?_
    refine k_iload_n hX dM_within_113 rfl ?_
    refine k_imul hX dM_within_114 ?_
    refine k_iload hX dM_within_115 rfl ?_
    refine k_iadd hX dM_within_117 ?_
    refine k_iald hX (by decide) rfl dM_within_118 rfl (fun y1 => ?_)
    refine k_istore (L' := [lq 10, li x1, li x2, li x3, li x4, li y1, none, none]) hX dM_within_119 rfl (by decide) rfl ?_
    refine k_iconst hX dM_within_121 ?_
    refine k_istore (L' := [lq 10, li x1, li x2, li x3, li x4, li y1, li 0, none]) hX dM_within_122 rfl (by decide) rfl ?_
    exact tM_within_L124 hX hR x1 x2 x3 x4 y1 0 σ hT hb0 hb1 hb2
set_option maxRecDepth 100000 in
set_option maxHeartbeats 4000000 in
theorem tM_within_L100 {X : KC} {q : Int × KM} (hX : kOk X 6 prog_11_method_68_code 8 "KeyPathModel") (hR : kRet X (some .int) q) (x1 x2 x3 x4 : Int) (σ : KM) {Θ : ((Int × KM) ⊕ ((Int × KM) ⊕ (Int × KM))) → Prop} (hT : ∀ z, Θ (.inr (.inr (z))) → z = q) (hb0 : ∀ s : Int × KM, Θ (.inl s) → kW X 92 [lq 10, li x1, li x2, li s.1, none, none, none, none] [] s.2) (hb1 : ∀ s : Int × KM, Θ (.inr (.inl s)) → kW X 82 [lq 10, li x1, li s.1, none, none, none, none, none] [] s.2) : kJ X 100 [lq 10, li x1, li x2, li x3, li x4, none, none, none] [] σ (fM_within_L100 x1 x2 x3 x4 σ) Θ :=
  k_iter (f := fun s => fM_within_B100 x1 x2 x3 s.1 s.2) (Lf := fun s => [lq 10, li x1, li x2, li x3, li s.1, none, none, none]) (mf := fun s => s.2) (Θ := Θ) (fun s => tM_within_B100 hX hR x1 x2 x3 s.1 s.2 hT (fun _ h9 => h9) hb0 hb1) kF (x4, σ)
set_option maxRecDepth 100000 in
set_option maxHeartbeats 4000000 in
theorem tM_within_B92 {X : KC} {q : Int × KM} (hX : kOk X 6 prog_11_method_68_code 8 "KeyPathModel") (hR : kRet X (some .int) q) (x1 x2 x3 : Int) (σ : KM) {Θ : ((Int × KM) ⊕ ((Int × KM) ⊕ (Int × KM))) → Prop} (hT : ∀ z, Θ (.inr (.inr (z))) → z = q) (hb0 : ∀ s : Int × KM, Θ (.inl s) → kW X 92 [lq 10, li x1, li x2, li s.1, none, none, none, none] [] s.2) (hb1 : ∀ s : Int × KM, Θ (.inr (.inl s)) → kW X 82 [lq 10, li x1, li s.1, none, none, none, none, none] [] s.2) : kJ X 92 [lq 10, li x1, li x2, li x3, none, none, none, none] [] σ (fM_within_B92 x1 x2 x3 σ) Θ := by
  refine k_iload_n hX dM_within_92 rfl ?_
  refine k_iload_n hX dM_within_93 rfl ?_
  refine k_icmp_gt (tgt := 242) hX dM_within_94 (by decide) ?_ ?_
  · refine k_exit ?_
    refine k_less [true, true, true, false, true, true, true, true] (L' := [lq 10, li x1, li x2, none, none, none, none, none]) rfl ?_
    exact tM_within_J242 hX hR x1 x2 σ hT hb1
  · refine k_iconst hX dM_within_97 ?_
    refine k_istore (L' := [lq 10, li x1, li x2, li x3, li 0, none, none, none]) hX dM_within_98 rfl (by decide) rfl ?_
    exact tM_within_L100 hX hR x1 x2 x3 0 σ hT hb0 hb1
set_option maxRecDepth 100000 in
set_option maxHeartbeats 4000000 in
theorem tM_within_L92 {X : KC} {q : Int × KM} (hX : kOk X 6 prog_11_method_68_code 8 "KeyPathModel") (hR : kRet X (some .int) q) (x1 x2 x3 : Int) (σ : KM) {Θ : ((Int × KM) ⊕ (Int × KM)) → Prop} (hT : ∀ z, Θ (.inr (z)) → z = q) (hb0 : ∀ s : Int × KM, Θ (.inl s) → kW X 82 [lq 10, li x1, li s.1, none, none, none, none, none] [] s.2) : kJ X 92 [lq 10, li x1, li x2, li x3, none, none, none, none] [] σ (fM_within_L92 x1 x2 x3 σ) Θ :=
  k_iter (f := fun s => fM_within_B92 x1 x2 s.1 s.2) (Lf := fun s => [lq 10, li x1, li x2, li s.1, none, none, none, none]) (mf := fun s => s.2) (Θ := Θ) (fun s => tM_within_B92 hX hR x1 x2 s.1 s.2 hT (fun _ h9 => h9) hb0) kF (x3, σ)
set_option maxRecDepth 100000 in
set_option maxHeartbeats 4000000 in
theorem tM_within_B82 {X : KC} {q : Int × KM} (hX : kOk X 6 prog_11_method_68_code 8 "KeyPathModel") (hR : kRet X (some .int) q) (x1 x2 : Int) (σ : KM) {Θ : ((Int × KM) ⊕ (Int × KM)) → Prop} (hT : ∀ z, Θ (.inr (z)) → z = q) (hb0 : ∀ s : Int × KM, Θ (.inl s) → kW X 82 [lq 10, li x1, li s.1, none, none, none, none, none] [] s.2) : kJ X 82 [lq 10, li x1, li x2, none, none, none, none, none] [] σ (fM_within_B82 x1 x2 σ) Θ := by
  refine k_iload_n hX dM_within_82 rfl ?_
  refine k_aload_n hX dM_within_83 rfl ?_
  refine gf_174 hX dM_within_84 ?_
  refine k_icmp_ge (tgt := 255) hX dM_within_87 (by decide) ?_ ?_
  · refine k_exit ?_
    refine k_less [true, true, false, true, true, true, true, true] (L' := [lq 10, li x1, none, none, none, none, none, none]) rfl ?_
    exact tM_within_J255 hX hR x1 σ hT
  · refine k_iconst hX dM_within_90 ?_
    refine k_istore_n (L' := [lq 10, li x1, li x2, li 0, none, none, none, none]) hX dM_within_91 rfl (by decide) rfl ?_
    exact tM_within_L92 hX hR x1 x2 0 σ hT hb0
set_option maxRecDepth 100000 in
set_option maxHeartbeats 4000000 in
theorem tM_within_L82 {X : KC} {q : Int × KM} (hX : kOk X 6 prog_11_method_68_code 8 "KeyPathModel") (hR : kRet X (some .int) q) (x1 x2 : Int) (σ : KM) {Θ : (Int × KM) → Prop} (hT : ∀ z, Θ (z) → z = q) : kJ X 82 [lq 10, li x1, li x2, none, none, none, none, none] [] σ (fM_within_L82 x1 x2 σ) Θ :=
  k_iter (f := fun s => fM_within_B82 x1 s.1 s.2) (Lf := fun s => [lq 10, li x1, li s.1, none, none, none, none, none]) (mf := fun s => s.2) (Θ := Θ) (fun s => tM_within_B82 hX hR x1 s.1 s.2 hT (fun _ h9 => h9)) kF (x2, σ)
set_option maxRecDepth 100000 in
set_option maxHeartbeats 4000000 in
theorem tM_within_J80 {X : KC} {q : Int × KM} (hX : kOk X 6 prog_11_method_68_code 8 "KeyPathModel") (hR : kRet X (some .int) q) (x1 : Int) (σ : KM) {Θ : (Int × KM) → Prop} (hT : ∀ z, Θ (z) → z = q) : kJ X 80 [lq 10, li x1, none, none, none, none, none, none] [] σ (fM_within_J80 x1 σ) Θ := by
  refine k_iconst hX dM_within_80 ?_
  refine k_istore_n (L' := [lq 10, li x1, li 1, none, none, none, none, none]) hX dM_within_81 rfl (by decide) rfl ?_
  exact tM_within_L82 hX hR x1 1 σ hT
set_option maxRecDepth 100000 in
set_option maxHeartbeats 4000000 in
theorem tM_within_J73 {X : KC} {q : Int × KM} (hX : kOk X 6 prog_11_method_68_code 8 "KeyPathModel") (hR : kRet X (some .int) q) (x1 x2 t0 t1 : Int) (σ : KM) {Θ : ((Int × KM) ⊕ (Int × KM)) → Prop} (hT : ∀ z, Θ (.inr (z)) → z = q) (hb0 : ∀ s : Int × KM, Θ (.inl s) → kW X 41 [lq 10, li x1, li s.1, none, none, none, none, none] [] s.2) : kJ X 73 [lq 10, li x1, li x2, none, none, none, none, none] [ki t0, ki t1, kr 65] σ (fM_within_J73 x1 x2 t0 t1 σ) Θ := by
  refine k_iast hX (by decide) rfl dM_within_73 rfl (fun τ1 => ?_)
  refine k_iincL (Lf := fun y2 => [lq 10, li x1, li y2, none, none, none, none, none]) hX dM_within_74 rfl (by decide) rfl (fun _ => rfl) (fun y2 => ?_)
  refine k_goto (tgt := 41) hX dM_within_77 (by decide) ?_
  exact k_back (hb0 (y2, τ1))
set_option maxRecDepth 100000 in
set_option maxHeartbeats 4000000 in
theorem tM_within_B41 {X : KC} {q : Int × KM} (hX : kOk X 6 prog_11_method_68_code 8 "KeyPathModel") (hR : kRet X (some .int) q) (x1 x2 : Int) (σ : KM) {Θ : ((Int × KM) ⊕ (Int × KM)) → Prop} (hT : ∀ z, Θ (.inr (z)) → z = q) (hb0 : ∀ s : Int × KM, Θ (.inl s) → kW X 41 [lq 10, li x1, li s.1, none, none, none, none, none] [] s.2) : kJ X 41 [lq 10, li x1, li x2, none, none, none, none, none] [] σ (fM_within_B41 x1 x2 σ) Θ := by
  refine k_iload_n hX dM_within_41 rfl ?_
  refine k_bipush hX dM_within_42 (by decide) ?_
  refine k_iload_n hX dM_within_44 rfl ?_
  refine k_iconst hX dM_within_45 ?_
  refine k_iadd hX dM_within_46 ?_
  refine k_imul hX dM_within_47 ?_
  refine k_icmp_ge (tgt := 80) hX dM_within_48 (by decide) ?_ ?_
  · refine k_exit ?_
    refine k_less [true, true, false, true, true, true, true, true] (L' := [lq 10, li x1, none, none, none, none, none, none]) rfl ?_
    exact tM_within_J80 hX hR x1 σ hT
  · refine k_aload_n hX dM_within_51 rfl ?_
    refine gf_194 hX dM_within_52 ?_
    refine k_iload_n hX dM_within_55 rfl ?_
    refine k_iload_n hX dM_within_56 rfl ?_
    refine k_bipush hX dM_within_57 (by decide) ?_
    refine k_icmp_ge (tgt := 71) hX dM_within_59 (by decide) ?_ ?_
    · refine k_ldc (v := 1000000000) (w := 0) hX dM_within_71 tw_1309 ?_
      exact tM_within_J73 hX hR x1 x2 1000000000 x2 σ hT hb0
    · refine k_aload_n hX dM_within_62 rfl ?_
      refine gf_176 hX dM_within_63 ?_
      refine k_iload_n hX dM_within_66 rfl ?_
      refine k_iald hX (by decide) rfl dM_within_67 rfl (fun y1 => ?_)
      refine k_goto (tgt := 73) hX dM_within_68 (by decide) ?_
      exact tM_within_J73 hX hR x1 x2 y1 x2 σ hT hb0
set_option maxRecDepth 100000 in
set_option maxHeartbeats 4000000 in
theorem tM_within_L41 {X : KC} {q : Int × KM} (hX : kOk X 6 prog_11_method_68_code 8 "KeyPathModel") (hR : kRet X (some .int) q) (x1 x2 : Int) (σ : KM) {Θ : (Int × KM) → Prop} (hT : ∀ z, Θ (z) → z = q) : kJ X 41 [lq 10, li x1, li x2, none, none, none, none, none] [] σ (fM_within_L41 x1 x2 σ) Θ :=
  k_iter (f := fun s => fM_within_B41 x1 s.1 s.2) (Lf := fun s => [lq 10, li x1, li s.1, none, none, none, none, none]) (mf := fun s => s.2) (Θ := Θ) (fun s => tM_within_B41 hX hR x1 s.1 s.2 hT (fun _ h9 => h9)) kF (x2, σ)
set_option maxRecDepth 100000 in
set_option maxHeartbeats 4000000 in
theorem sM_within (x1 : Int) (σ : KM) : kSem 6 (⟨"KeyPathModel", "within", "(I)I"⟩ : MethodName) prog_11_method_68_code 8 (some .int) [kr 10, ki x1] σ (fM_within x1 σ) := by
  refine kSem.of (L0 := [lq 10, li x1, none, none, none, none, none, none]) (by decide) (Nat.le_of_ble_eq_true rfl) rfl (fun X q hX hR => ?_)
  have hT : ∀ z : Int × KM, (fun z => z = q) z → z = q := fun _ h => h
  refine k_aload_n hX dM_within_0 rfl ?_
  refine k_iconst hX dM_within_1 ?_
  refine gp_157 hX dM_within_2 (fun τ1 => ?_)
  refine k_iload_n hX dM_within_5 rfl ?_
  refine k_i2l hX dM_within_6 ?_
  refine k_lconst0 hX dM_within_7 ?_
  refine k_ldc2 (v := 47) hX dM_within_8 tw_1238 ?_
  refine cl_120 hX (by decide) (Nat.le_of_ble_eq_true rfl) dM_within_11 (fun r3 τ2 => ?_)
  refine k_if_ne (tgt := 20) hX dM_within_14 (by decide) ?_ ?_
  · refine k_aload_n hX dM_within_20 rfl ?_
    refine cl_136 hX (by decide) (Nat.le_of_ble_eq_true rfl) dM_within_21 (fun r5 τ4 => ?_)
    refine k_if_ne (tgt := 30) hX dM_within_24 (by decide) ?_ ?_
    · refine k_aload_n hX dM_within_30 rfl ?_
      refine gf_174 hX dM_within_31 ?_
      refine k_if_ne (tgt := 39) hX dM_within_34 (by decide) ?_ ?_
      · refine k_iconst hX dM_within_39 ?_
        refine k_istore_n (L' := [lq 10, li x1, li 0, none, none, none, none, none]) hX dM_within_40 rfl (by decide) rfl ?_
        exact tM_within_L41 hX hR x1 0 τ4 hT
      · refine k_iconst hX dM_within_37 ?_
        exact k_iret hX hR hT dM_within_38
    · refine k_bipush hX dM_within_27 (by decide) ?_
      exact k_iret hX hR hT dM_within_29
  · refine k_bipush hX dM_within_17 (by decide) ?_
    exact k_iret hX hR hT dM_within_19
