theorem dM_close_0 : decode prog_11_method_79_code 0 = .ok (.aload_n 0, 1) := by decide +kernel
theorem dM_close_1 : decode prog_11_method_79_code 1 = .ok (.iconst 0, 1) := by decide +kernel
theorem dM_close_2 : decode prog_11_method_79_code 2 = .ok (.putfield 1, 3) := by decide +kernel
theorem dM_close_5 : decode prog_11_method_79_code 5 = .ok (.aload_n 0, 1) := by decide +kernel
theorem dM_close_6 : decode prog_11_method_79_code 6 = .ok (.invokevirtual 287, 3) := by decide +kernel
theorem dM_close_9 : decode prog_11_method_79_code 9 = .ok (.ifCond .ne 6, 3) := by decide +kernel
theorem dM_close_12 : decode prog_11_method_79_code 12 = .ok (.bipush (-5), 2) := by decide +kernel
theorem dM_close_14 : decode prog_11_method_79_code 14 = .ok (.ireturn, 1) := by decide +kernel
theorem dM_close_15 : decode prog_11_method_79_code 15 = .ok (.aload_n 0, 1) := by decide +kernel
theorem dM_close_16 : decode prog_11_method_79_code 16 = .ok (.getfield 267, 3) := by decide +kernel
theorem dM_close_19 : decode prog_11_method_79_code 19 = .ok (.iconst 1, 1) := by decide +kernel
theorem dM_close_20 : decode prog_11_method_79_code 20 = .ok (.isub, 1) := by decide +kernel
theorem dM_close_21 : decode prog_11_method_79_code 21 = .ok (.istore_n 1, 1) := by decide +kernel
theorem dM_close_22 : decode prog_11_method_79_code 22 = .ok (.iload_n 1, 1) := by decide +kernel
theorem dM_close_23 : decode prog_11_method_79_code 23 = .ok (.ifCond .lt 18, 3) := by decide +kernel
theorem dM_close_26 : decode prog_11_method_79_code 26 = .ok (.aload_n 0, 1) := by decide +kernel
theorem dM_close_27 : decode prog_11_method_79_code 27 = .ok (.getfield 93, 3) := by decide +kernel
theorem dM_close_30 : decode prog_11_method_79_code 30 = .ok (.iload_n 1, 1) := by decide +kernel
theorem dM_close_31 : decode prog_11_method_79_code 31 = .ok (.baload, 1) := by decide +kernel
theorem dM_close_32 : decode prog_11_method_79_code 32 = .ok (.ifCond .eq 9, 3) := by decide +kernel
theorem dM_close_35 : decode prog_11_method_79_code 35 = .ok (.iinc 1 (-1), 3) := by decide +kernel
theorem dM_close_38 : decode prog_11_method_79_code 38 = .ok (.goto (-16), 3) := by decide +kernel
theorem dM_close_41 : decode prog_11_method_79_code 41 = .ok (.iload_n 1, 1) := by decide +kernel
theorem dM_close_42 : decode prog_11_method_79_code 42 = .ok (.ifCond .ge 5, 3) := by decide +kernel
theorem dM_close_45 : decode prog_11_method_79_code 45 = .ok (.iconst (-1), 1) := by decide +kernel
theorem dM_close_46 : decode prog_11_method_79_code 46 = .ok (.ireturn, 1) := by decide +kernel
theorem dM_close_47 : decode prog_11_method_79_code 47 = .ok (.aload_n 0, 1) := by decide +kernel
theorem dM_close_48 : decode prog_11_method_79_code 48 = .ok (.iload_n 1, 1) := by decide +kernel
theorem dM_close_49 : decode prog_11_method_79_code 49 = .ok (.invokevirtual 232, 3) := by decide +kernel
theorem dM_close_52 : decode prog_11_method_79_code 52 = .ok (.aload_n 0, 1) := by decide +kernel
theorem dM_close_53 : decode prog_11_method_79_code 53 = .ok (.invokevirtual 251, 3) := by decide +kernel
theorem dM_close_56 : decode prog_11_method_79_code 56 = .ok (.istore_n 2, 1) := by decide +kernel
theorem dM_close_57 : decode prog_11_method_79_code 57 = .ok (.aload_n 0, 1) := by decide +kernel
theorem dM_close_58 : decode prog_11_method_79_code 58 = .ok (.getfield 90, 3) := by decide +kernel
theorem dM_close_61 : decode prog_11_method_79_code 61 = .ok (.iload_n 1, 1) := by decide +kernel
theorem dM_close_62 : decode prog_11_method_79_code 62 = .ok (.iaload, 1) := by decide +kernel
theorem dM_close_63 : decode prog_11_method_79_code 63 = .ok (.istore_n 3, 1) := by decide +kernel
theorem dM_close_64 : decode prog_11_method_79_code 64 = .ok (.iload_n 2, 1) := by decide +kernel
theorem dM_close_65 : decode prog_11_method_79_code 65 = .ok (.istore 4, 2) := by decide +kernel
theorem dM_close_67 : decode prog_11_method_79_code 67 = .ok (.iload_n 1, 1) := by decide +kernel
theorem dM_close_68 : decode prog_11_method_79_code 68 = .ok (.ifCond .le 37, 3) := by decide +kernel
theorem dM_close_71 : decode prog_11_method_79_code 71 = .ok (.iload 4, 2) := by decide +kernel
theorem dM_close_73 : decode prog_11_method_79_code 73 = .ok (.iload_n 2, 1) := by decide +kernel
theorem dM_close_74 : decode prog_11_method_79_code 74 = .ok (.if_icmp .ne 31, 3) := by decide +kernel
theorem dM_close_77 : decode prog_11_method_79_code 77 = .ok (.iinc 1 (-1), 3) := by decide +kernel
theorem dM_close_80 : decode prog_11_method_79_code 80 = .ok (.aload_n 0, 1) := by decide +kernel
theorem dM_close_81 : decode prog_11_method_79_code 81 = .ok (.iload_n 1, 1) := by decide +kernel
theorem dM_close_82 : decode prog_11_method_79_code 82 = .ok (.invokevirtual 232, 3) := by decide +kernel
theorem dM_close_85 : decode prog_11_method_79_code 85 = .ok (.aload_n 0, 1) := by decide +kernel
theorem dM_close_86 : decode prog_11_method_79_code 86 = .ok (.getfield 223, 3) := by decide +kernel
theorem dM_close_89 : decode prog_11_method_79_code 89 = .ok (.ifCond .ne 7, 3) := by decide +kernel
theorem dM_close_92 : decode prog_11_method_79_code 92 = .ok (.iload_n 2, 1) := by decide +kernel
theorem dM_close_93 : decode prog_11_method_79_code 93 = .ok (.goto 7, 3) := by decide +kernel
theorem dM_close_96 : decode prog_11_method_79_code 96 = .ok (.aload_n 0, 1) := by decide +kernel
theorem dM_close_97 : decode prog_11_method_79_code 97 = .ok (.invokevirtual 251, 3) := by decide +kernel
theorem dM_close_100 : decode prog_11_method_79_code 100 = .ok (.istore 4, 2) := by decide +kernel
theorem dM_close_102 : decode prog_11_method_79_code 102 = .ok (.goto (-35), 3) := by decide +kernel
theorem dM_close_105 : decode prog_11_method_79_code 105 = .ok (.iload_n 2, 1) := by decide +kernel
theorem dM_close_106 : decode prog_11_method_79_code 106 = .ok (.iload_n 3, 1) := by decide +kernel
theorem dM_close_107 : decode prog_11_method_79_code 107 = .ok (.invokestatic 317, 3) := by decide +kernel
theorem dM_close_110 : decode prog_11_method_79_code 110 = .ok (.iconst 1, 1) := by decide +kernel
theorem dM_close_111 : decode prog_11_method_79_code 111 = .ok (.if_icmp .ne 21, 3) := by decide +kernel
theorem dM_close_114 : decode prog_11_method_79_code 114 = .ok (.iload 4, 2) := by decide +kernel
theorem dM_close_116 : decode prog_11_method_79_code 116 = .ok (.iload_n 2, 1) := by decide +kernel
theorem dM_close_117 : decode prog_11_method_79_code 117 = .ok (.if_icmp .eq 15, 3) := by decide +kernel
theorem dM_close_120 : decode prog_11_method_79_code 120 = .ok (.iload 4, 2) := by decide +kernel
theorem dM_close_122 : decode prog_11_method_79_code 122 = .ok (.iload_n 3, 1) := by decide +kernel
theorem dM_close_123 : decode prog_11_method_79_code 123 = .ok (.invokestatic 317, 3) := by decide +kernel
theorem dM_close_126 : decode prog_11_method_79_code 126 = .ok (.iconst 5, 1) := by decide +kernel
theorem dM_close_127 : decode prog_11_method_79_code 127 = .ok (.if_icmp .ne 5, 3) := by decide +kernel
theorem dM_close_130 : decode prog_11_method_79_code 130 = .ok (.iconst 2, 1) := by decide +kernel
theorem dM_close_131 : decode prog_11_method_79_code 131 = .ok (.ireturn, 1) := by decide +kernel
theorem dM_close_132 : decode prog_11_method_79_code 132 = .ok (.iload_n 2, 1) := by decide +kernel
theorem dM_close_133 : decode prog_11_method_79_code 133 = .ok (.iload_n 3, 1) := by decide +kernel
theorem dM_close_134 : decode prog_11_method_79_code 134 = .ok (.invokestatic 317, 3) := by decide +kernel
theorem dM_close_137 : decode prog_11_method_79_code 137 = .ok (.iconst 5, 1) := by decide +kernel
theorem dM_close_138 : decode prog_11_method_79_code 138 = .ok (.if_icmp .ne 7, 3) := by decide +kernel
theorem dM_close_141 : decode prog_11_method_79_code 141 = .ok (.iconst 1, 1) := by decide +kernel
theorem dM_close_142 : decode prog_11_method_79_code 142 = .ok (.goto 4, 3) := by decide +kernel
theorem dM_close_145 : decode prog_11_method_79_code 145 = .ok (.iconst 0, 1) := by decide +kernel
theorem dM_close_146 : decode prog_11_method_79_code 146 = .ok (.ireturn, 1) := by decide +kernel
set_option maxRecDepth 100000 in
set_option maxHeartbeats 4000000 in
theorem tM_close_J146 {X : KC} {q : Int × KM} (hX : kOk X 6 prog_11_method_79_code 5 "KeyPathModel") (hR : kRet X (some .int) q) (t0 : Int) (σ : KM) {Θ : (Int × KM) → Prop} (hT : ∀ z, Θ (z) → z = q) : kJ X 146 [lq 10, none, none, none, none] [ki t0] σ (fM_close_J146 t0 σ) Θ := by
  exact k_iret hX hR hT dM_close_146
set_option maxRecDepth 100000 in
set_option maxHeartbeats 4000000 in
theorem tM_close_J132 {X : KC} {q : Int × KM} (hX : kOk X 6 prog_11_method_79_code 5 "KeyPathModel") (hR : kRet X (some .int) q) (x2 x3 : Int) (σ : KM) {Θ : (Int × KM) → Prop} (hT : ∀ z, Θ (z) → z = q) : kJ X 132 [lq 10, none, li x2, li x3, none] [] σ (fM_close_J132 x2 x3 σ) Θ := by
  refine k_iload_n hX dM_close_132 rfl ?_
  refine k_iload_n hX dM_close_133 rfl ?_
  refine cl_137 hX (by decide) (Nat.le_of_ble_eq_true rfl) dM_close_134 (fun r2 τ1 => ?_)
  refine k_iconst hX dM_close_137 ?_
  refine k_icmp_ne (tgt := 145) hX dM_close_138 (by decide) ?_ ?_
  · refine k_iconst hX dM_close_145 ?_
    refine k_less [true, true, false, false, true] (L' := [lq 10, none, none, none, none]) rfl ?_
    exact tM_close_J146 hX hR 0 τ1 hT
  · refine k_iconst hX dM_close_141 ?_
    refine k_goto (tgt := 146) hX dM_close_142 (by decide) ?_
    refine k_less [true, true, false, false, true] (L' := [lq 10, none, none, none, none]) rfl ?_
    exact tM_close_J146 hX hR 1 τ1 hT
set_option maxRecDepth 100000 in
set_option maxHeartbeats 4000000 in
theorem tM_close_J105 {X : KC} {q : Int × KM} (hX : kOk X 6 prog_11_method_79_code 5 "KeyPathModel") (hR : kRet X (some .int) q) (x2 x3 x4 : Int) (σ : KM) {Θ : (Int × KM) → Prop} (hT : ∀ z, Θ (z) → z = q) : kJ X 105 [lq 10, none, li x2, li x3, li x4] [] σ (fM_close_J105 x2 x3 x4 σ) Θ := by
  refine k_iload_n hX dM_close_105 rfl ?_
  refine k_iload_n hX dM_close_106 rfl ?_
  refine cl_137 hX (by decide) (Nat.le_of_ble_eq_true rfl) dM_close_107 (fun r2 τ1 => ?_)
  refine k_iconst hX dM_close_110 ?_
  refine k_icmp_ne (tgt := 132) hX dM_close_111 (by decide) ?_ ?_
  · refine k_less [true, true, true, true, false] (L' := [lq 10, none, li x2, li x3, none]) rfl ?_
    exact tM_close_J132 hX hR x2 x3 τ1 hT
  · refine k_iload hX dM_close_114 rfl ?_
    refine k_iload_n hX dM_close_116 rfl ?_
    refine k_icmp_eq (tgt := 132) hX dM_close_117 (by decide) ?_ ?_
    · refine k_less [true, true, true, true, false] (L' := [lq 10, none, li x2, li x3, none]) rfl ?_
      exact tM_close_J132 hX hR x2 x3 τ1 hT
    · refine k_iload hX dM_close_120 rfl ?_
      refine k_iload_n hX dM_close_122 rfl ?_
      refine cl_137 hX (by decide) (Nat.le_of_ble_eq_true rfl) dM_close_123 (fun r4 τ3 => ?_)
      refine k_iconst hX dM_close_126 ?_
      refine k_icmp_ne (tgt := 132) hX dM_close_127 (by decide) ?_ ?_
      · refine k_less [true, true, true, true, false] (L' := [lq 10, none, li x2, li x3, none]) rfl ?_
        exact tM_close_J132 hX hR x2 x3 τ3 hT
      · refine k_iconst hX dM_close_130 ?_
        exact k_iret hX hR hT dM_close_131
set_option maxRecDepth 100000 in
set_option maxHeartbeats 4000000 in
theorem tM_close_J100 {X : KC} {q : Int × KM} (hX : kOk X 6 prog_11_method_79_code 5 "KeyPathModel") (hR : kRet X (some .int) q) (x1 x2 x3 t0 : Int) (σ : KM) {Θ : ((Int × Int × KM) ⊕ (Int × KM)) → Prop} (hT : ∀ z, Θ (.inr (z)) → z = q) (hb0 : ∀ s : Int × Int × KM, Θ (.inl s) → kW X 67 [lq 10, li s.1, li x2, li x3, li s.2.1] [] s.2.2) : kJ X 100 [lq 10, li x1, li x2, li x3, none] [ki t0] σ (fM_close_J100 x1 x2 x3 t0 σ) Θ := by
  refine k_istore (L' := [lq 10, li x1, li x2, li x3, li t0]) hX dM_close_100 rfl (by decide) rfl ?_
  refine k_goto (tgt := 67) hX dM_close_102 (by decide) ?_
  exact k_back (hb0 (x1, t0, σ))
set_option maxRecDepth 100000 in
set_option maxHeartbeats 4000000 in
theorem tM_close_B67 {X : KC} {q : Int × KM} (hX : kOk X 6 prog_11_method_79_code 5 "KeyPathModel") (hR : kRet X (some .int) q) (x2 x3 x1 x4 : Int) (σ : KM) {Θ : ((Int × Int × KM) ⊕ (Int × KM)) → Prop} (hT : ∀ z, Θ (.inr (z)) → z = q) (hb0 : ∀ s : Int × Int × KM, Θ (.inl s) → kW X 67 [lq 10, li s.1, li x2, li x3, li s.2.1] [] s.2.2) : kJ X 67 [lq 10, li x1, li x2, li x3, li x4] [] σ (fM_close_B67 x2 x3 x1 x4 σ) Θ := by
  refine k_iload_n hX dM_close_67 rfl ?_
  refine k_if_le (tgt := 105) hX dM_close_68 (by decide) ?_ ?_
  · refine k_exit ?_
    refine k_less [true, false, true, true, true] (L' := [lq 10, none, li x2, li x3, li x4]) rfl ?_
    exact tM_close_J105 hX hR x2 x3 x4 σ hT
  · refine k_iload hX dM_close_71 rfl ?_
    refine k_iload_n hX dM_close_73 rfl ?_
    refine k_icmp_ne (tgt := 105) hX dM_close_74 (by decide) ?_ ?_
    · refine k_exit ?_
      refine k_less [true, false, true, true, true] (L' := [lq 10, none, li x2, li x3, li x4]) rfl ?_
      exact tM_close_J105 hX hR x2 x3 x4 σ hT
    · refine k_iincL (Lf := fun y1 => [lq 10, li y1, li x2, li x3, li x4]) hX dM_close_77 rfl (by decide) rfl (fun _ => rfl) (fun y1 => ?_)
      refine k_aload_n hX dM_close_80 rfl ?_
      refine k_iload_n hX dM_close_81 rfl ?_
      refine cl_123 hX (by decide) (Nat.le_of_ble_eq_true rfl) dM_close_82 (fun _ τ2 => ?_)
      refine k_aload_n hX dM_close_85 rfl ?_
      refine gf_166 hX dM_close_86 ?_
      refine k_if_ne (tgt := 96) hX dM_close_89 (by decide) ?_ ?_
      · refine k_aload_n hX dM_close_96 rfl ?_
        refine cl_125 hX (by decide) (Nat.le_of_ble_eq_true rfl) dM_close_97 (fun r4 τ3 => ?_)
        refine k_less [true, true, true, true, false] (L' := [lq 10, li y1, li x2, li x3, none]) rfl ?_
        exact tM_close_J100 hX hR y1 x2 x3 r4 τ3 hT hb0
      · refine k_iload_n hX dM_close_92 rfl ?_
        refine k_goto (tgt := 100) hX dM_close_93 (by decide) ?_
        refine k_less [true, true, true, true, false] (L' := [lq 10, li y1, li x2, li x3, none]) rfl ?_
        exact tM_close_J100 hX hR y1 x2 x3 x2 τ2 hT hb0
set_option maxRecDepth 100000 in
set_option maxHeartbeats 4000000 in
theorem tM_close_L67 {X : KC} {q : Int × KM} (hX : kOk X 6 prog_11_method_79_code 5 "KeyPathModel") (hR : kRet X (some .int) q) (x2 x3 x1 x4 : Int) (σ : KM) {Θ : (Int × KM) → Prop} (hT : ∀ z, Θ (z) → z = q) : kJ X 67 [lq 10, li x1, li x2, li x3, li x4] [] σ (fM_close_L67 x2 x3 x1 x4 σ) Θ :=
  k_iter (f := fun s => fM_close_B67 x2 x3 s.1 s.2.1 s.2.2) (Lf := fun s => [lq 10, li s.1, li x2, li x3, li s.2.1]) (mf := fun s => s.2.2) (Θ := Θ) (fun s => tM_close_B67 hX hR x2 x3 s.1 s.2.1 s.2.2 hT (fun _ h9 => h9)) kF (x1, x4, σ)
set_option maxRecDepth 100000 in
set_option maxHeartbeats 4000000 in
theorem tM_close_J41 {X : KC} {q : Int × KM} (hX : kOk X 6 prog_11_method_79_code 5 "KeyPathModel") (hR : kRet X (some .int) q) (x1 : Int) (σ : KM) {Θ : (Int × KM) → Prop} (hT : ∀ z, Θ (z) → z = q) : kJ X 41 [lq 10, li x1, none, none, none] [] σ (fM_close_J41 x1 σ) Θ := by
  refine k_iload_n hX dM_close_41 rfl ?_
  refine k_if_ge (tgt := 47) hX dM_close_42 (by decide) ?_ ?_
  · refine k_aload_n hX dM_close_47 rfl ?_
    refine k_iload_n hX dM_close_48 rfl ?_
    refine cl_123 hX (by decide) (Nat.le_of_ble_eq_true rfl) dM_close_49 (fun _ τ1 => ?_)
    refine k_aload_n hX dM_close_52 rfl ?_
    refine cl_125 hX (by decide) (Nat.le_of_ble_eq_true rfl) dM_close_53 (fun r3 τ2 => ?_)
    refine k_istore_n (L' := [lq 10, li x1, li r3, none, none]) hX dM_close_56 rfl (by decide) rfl ?_
    refine k_aload_n hX dM_close_57 rfl ?_
    refine gf_182 hX dM_close_58 ?_
    refine k_iload_n hX dM_close_61 rfl ?_
    refine k_iald hX (by decide) rfl dM_close_62 rfl (fun y4 => ?_)
    refine k_istore_n (L' := [lq 10, li x1, li r3, li y4, none]) hX dM_close_63 rfl (by decide) rfl ?_
    refine k_iload_n hX dM_close_64 rfl ?_
    refine k_istore (L' := [lq 10, li x1, li r3, li y4, li r3]) hX dM_close_65 rfl (by decide) rfl ?_
    exact tM_close_L67 hX hR r3 y4 x1 r3 τ2 hT
  · refine k_iconst hX dM_close_45 ?_
    exact k_iret hX hR hT dM_close_46
set_option maxRecDepth 100000 in
set_option maxHeartbeats 4000000 in
theorem tM_close_B22 {X : KC} {q : Int × KM} (hX : kOk X 6 prog_11_method_79_code 5 "KeyPathModel") (hR : kRet X (some .int) q) (x1 : Int) (σ : KM) {Θ : ((Int × KM) ⊕ (Int × KM)) → Prop} (hT : ∀ z, Θ (.inr (z)) → z = q) (hb0 : ∀ s : Int × KM, Θ (.inl s) → kW X 22 [lq 10, li s.1, none, none, none] [] s.2) : kJ X 22 [lq 10, li x1, none, none, none] [] σ (fM_close_B22 x1 σ) Θ := by
  refine k_iload_n hX dM_close_22 rfl ?_
  refine k_if_lt (tgt := 41) hX dM_close_23 (by decide) ?_ ?_
  · refine k_exit ?_
    exact tM_close_J41 hX hR x1 σ hT
  · refine k_aload_n hX dM_close_26 rfl ?_
    refine gf_175 hX dM_close_27 ?_
    refine k_iload_n hX dM_close_30 rfl ?_
    refine k_zald hX (by decide) rfl dM_close_31 rfl (fun y1 => ?_)
    refine k_if_eq (tgt := 41) hX dM_close_32 (by decide) ?_ ?_
    · refine k_exit ?_
      exact tM_close_J41 hX hR x1 σ hT
    · refine k_iincL (Lf := fun y2 => [lq 10, li y2, none, none, none]) hX dM_close_35 rfl (by decide) rfl (fun _ => rfl) (fun y2 => ?_)
      refine k_goto (tgt := 22) hX dM_close_38 (by decide) ?_
      exact k_back (hb0 (y2, σ))
set_option maxRecDepth 100000 in
set_option maxHeartbeats 4000000 in
theorem tM_close_L22 {X : KC} {q : Int × KM} (hX : kOk X 6 prog_11_method_79_code 5 "KeyPathModel") (hR : kRet X (some .int) q) (x1 : Int) (σ : KM) {Θ : (Int × KM) → Prop} (hT : ∀ z, Θ (z) → z = q) : kJ X 22 [lq 10, li x1, none, none, none] [] σ (fM_close_L22 x1 σ) Θ :=
  k_iter (f := fun s => fM_close_B22 s.1 s.2) (Lf := fun s => [lq 10, li s.1, none, none, none]) (mf := fun s => s.2) (Θ := Θ) (fun s => tM_close_B22 hX hR s.1 s.2 hT (fun _ h9 => h9)) kF (x1, σ)
set_option maxRecDepth 100000 in
set_option maxHeartbeats 4000000 in
theorem sM_close (σ : KM) : kSem 6 (⟨"KeyPathModel", "close", "()I"⟩ : MethodName) prog_11_method_79_code 5 (some .int) [kr 10] σ (fM_close σ) := by
  refine kSem.of (L0 := [lq 10, none, none, none, none]) (by decide) (Nat.le_of_ble_eq_true rfl) rfl (fun X q hX hR => ?_)
  have hT : ∀ z : Int × KM, (fun z => z = q) z → z = q := fun _ h => h
  refine k_aload_n hX dM_close_0 rfl ?_
  refine k_iconst hX dM_close_1 ?_
  refine gp_157 hX dM_close_2 (fun τ1 => ?_)
  refine k_aload_n hX dM_close_5 rfl ?_
  refine cl_136 hX (by decide) (Nat.le_of_ble_eq_true rfl) dM_close_6 (fun r3 τ2 => ?_)
  refine k_if_ne (tgt := 15) hX dM_close_9 (by decide) ?_ ?_
  · refine k_aload_n hX dM_close_15 rfl ?_
    refine gf_174 hX dM_close_16 ?_
    refine k_iconst hX dM_close_19 ?_
    refine k_isub hX dM_close_20 ?_
    refine k_istoreL_n (Lf := fun y4 => [lq 10, li y4, none, none, none]) hX dM_close_21 rfl (by decide) (fun _ => rfl) (fun y4 => ?_)
    exact tM_close_L22 hX hR y4 τ2 hT
  · refine k_bipush hX dM_close_12 (by decide) ?_
    exact k_iret hX hR hT dM_close_14
theorem dM_segmentsNow_0 : decode prog_11_method_70_code 0 = .ok (.aload_n 0, 1) := by decide +kernel
theorem dM_segmentsNow_1 : decode prog_11_method_70_code 1 = .ok (.getfield 267, 3) := by decide +kernel
theorem dM_segmentsNow_4 : decode prog_11_method_70_code 4 = .ok (.ifCond .ne 7, 3) := by decide +kernel
theorem dM_segmentsNow_7 : decode prog_11_method_70_code 7 = .ok (.iconst 0, 1) := by decide +kernel
theorem dM_segmentsNow_8 : decode prog_11_method_70_code 8 = .ok (.goto 4, 3) := by decide +kernel
theorem dM_segmentsNow_11 : decode prog_11_method_70_code 11 = .ok (.iconst 1, 1) := by decide +kernel
theorem dM_segmentsNow_12 : decode prog_11_method_70_code 12 = .ok (.istore_n 1, 1) := by decide +kernel
theorem dM_segmentsNow_13 : decode prog_11_method_70_code 13 = .ok (.iconst 1, 1) := by decide +kernel
theorem dM_segmentsNow_14 : decode prog_11_method_70_code 14 = .ok (.istore_n 2, 1) := by decide +kernel
theorem dM_segmentsNow_15 : decode prog_11_method_70_code 15 = .ok (.iload_n 2, 1) := by decide +kernel
theorem dM_segmentsNow_16 : decode prog_11_method_70_code 16 = .ok (.aload_n 0, 1) := by decide +kernel
theorem dM_segmentsNow_17 : decode prog_11_method_70_code 17 = .ok (.getfield 267, 3) := by decide +kernel
theorem dM_segmentsNow_20 : decode prog_11_method_70_code 20 = .ok (.if_icmp .ge 34, 3) := by decide +kernel
theorem dM_segmentsNow_23 : decode prog_11_method_70_code 23 = .ok (.iload_n 1, 1) := by decide +kernel
theorem dM_segmentsNow_24 : decode prog_11_method_70_code 24 = .ok (.aload_n 0, 1) := by decide +kernel
theorem dM_segmentsNow_25 : decode prog_11_method_70_code 25 = .ok (.getfield 90, 3) := by decide +kernel
theorem dM_segmentsNow_28 : decode prog_11_method_70_code 28 = .ok (.iload_n 2, 1) := by decide +kernel
theorem dM_segmentsNow_29 : decode prog_11_method_70_code 29 = .ok (.iaload, 1) := by decide +kernel
theorem dM_segmentsNow_30 : decode prog_11_method_70_code 30 = .ok (.aload_n 0, 1) := by decide +kernel
theorem dM_segmentsNow_31 : decode prog_11_method_70_code 31 = .ok (.getfield 90, 3) := by decide +kernel
theorem dM_segmentsNow_34 : decode prog_11_method_70_code 34 = .ok (.iload_n 2, 1) := by decide +kernel
theorem dM_segmentsNow_35 : decode prog_11_method_70_code 35 = .ok (.iconst 1, 1) := by decide +kernel
theorem dM_segmentsNow_36 : decode prog_11_method_70_code 36 = .ok (.isub, 1) := by decide +kernel
theorem dM_segmentsNow_37 : decode prog_11_method_70_code 37 = .ok (.iaload, 1) := by decide +kernel
theorem dM_segmentsNow_38 : decode prog_11_method_70_code 38 = .ok (.if_icmp .ne 7, 3) := by decide +kernel
theorem dM_segmentsNow_41 : decode prog_11_method_70_code 41 = .ok (.iconst 0, 1) := by decide +kernel
theorem dM_segmentsNow_42 : decode prog_11_method_70_code 42 = .ok (.goto 4, 3) := by decide +kernel
theorem dM_segmentsNow_45 : decode prog_11_method_70_code 45 = .ok (.iconst 1, 1) := by decide +kernel
theorem dM_segmentsNow_46 : decode prog_11_method_70_code 46 = .ok (.iadd, 1) := by decide +kernel
theorem dM_segmentsNow_47 : decode prog_11_method_70_code 47 = .ok (.istore_n 1, 1) := by decide +kernel
theorem dM_segmentsNow_48 : decode prog_11_method_70_code 48 = .ok (.iinc 2 1, 3) := by decide +kernel
theorem dM_segmentsNow_51 : decode prog_11_method_70_code 51 = .ok (.goto (-36), 3) := by decide +kernel
theorem dM_segmentsNow_54 : decode prog_11_method_70_code 54 = .ok (.iload_n 1, 1) := by decide +kernel
theorem dM_segmentsNow_55 : decode prog_11_method_70_code 55 = .ok (.ireturn, 1) := by decide +kernel
set_option maxRecDepth 100000 in
set_option maxHeartbeats 4000000 in
theorem tM_segmentsNow_J54 {X : KC} {q : Int × KM} (hX : kOk X 1 prog_11_method_70_code 3 "KeyPathModel") (hR : kRet X (some .int) q) (x1 : Int) (σ : KM) {Θ : (Int × KM) → Prop} (hT : ∀ z, Θ (z) → z = q) : kJ X 54 [lq 10, li x1, none] [] σ (fM_segmentsNow_J54 x1 σ) Θ := by
  refine k_iload_n hX dM_segmentsNow_54 rfl ?_
  exact k_iret hX hR hT dM_segmentsNow_55
set_option maxRecDepth 100000 in
set_option maxHeartbeats 4000000 in
theorem tM_segmentsNow_J46 {X : KC} {q : Int × KM} (hX : kOk X 1 prog_11_method_70_code 3 "KeyPathModel") (hR : kRet X (some .int) q) (x2 t0 t1 : Int) (σ : KM) {Θ : ((Int × Int × KM) ⊕ (Int × KM)) → Prop} (hT : ∀ z, Θ (.inr (z)) → z = q) (hb0 : ∀ s : Int × Int × KM, Θ (.inl s) → kW X 15 [lq 10, li s.1, li s.2.1] [] s.2.2) : kJ X 46 [lq 10, none, li x2] [ki t0, ki t1] σ (fM_segmentsNow_J46 x2 t0 t1 σ) Θ := by
  refine k_iadd hX dM_segmentsNow_46 ?_
  refine k_istoreL_n (Lf := fun y1 => [lq 10, li y1, li x2]) hX dM_segmentsNow_47 rfl (by decide) (fun _ => rfl) (fun y1 => ?_)
  refine k_iincL (Lf := fun y2 => [lq 10, li y1, li y2]) hX dM_segmentsNow_48 rfl (by decide) rfl (fun _ => rfl) (fun y2 => ?_)
  refine k_goto (tgt := 15) hX dM_segmentsNow_51 (by decide) ?_
  exact k_back (hb0 (y1, y2, σ))
set_option maxRecDepth 100000 in
set_option maxHeartbeats 4000000 in
theorem tM_segmentsNow_B15 {X : KC} {q : Int × KM} (hX : kOk X 1 prog_11_method_70_code 3 "KeyPathModel") (hR : kRet X (some .int) q) (x1 x2 : Int) (σ : KM) {Θ : ((Int × Int × KM) ⊕ (Int × KM)) → Prop} (hT : ∀ z, Θ (.inr (z)) → z = q) (hb0 : ∀ s : Int × Int × KM, Θ (.inl s) → kW X 15 [lq 10, li s.1, li s.2.1] [] s.2.2) : kJ X 15 [lq 10, li x1, li x2] [] σ (fM_segmentsNow_B15 x1 x2 σ) Θ := by
  refine k_iload_n hX dM_segmentsNow_15 rfl ?_
  refine k_aload_n hX dM_segmentsNow_16 rfl ?_
  refine gf_174 hX dM_segmentsNow_17 ?_
  refine k_icmp_ge (tgt := 54) hX dM_segmentsNow_20 (by decide) ?_ ?_
  · refine k_exit ?_
    refine k_less [true, true, false] (L' := [lq 10, li x1, none]) rfl ?_
    exact tM_segmentsNow_J54 hX hR x1 σ hT
  · refine k_iload_n hX dM_segmentsNow_23 rfl ?_
    refine k_aload_n hX dM_segmentsNow_24 rfl ?_
    refine gf_182 hX dM_segmentsNow_25 ?_
    refine k_iload_n hX dM_segmentsNow_28 rfl ?_
    refine k_iald hX (by decide) rfl dM_segmentsNow_29 rfl (fun y1 => ?_)
    refine k_aload_n hX dM_segmentsNow_30 rfl ?_
    refine gf_182 hX dM_segmentsNow_31 ?_
    refine k_iload_n hX dM_segmentsNow_34 rfl ?_
    refine k_iconst hX dM_segmentsNow_35 ?_
    refine k_isub hX dM_segmentsNow_36 ?_
    refine k_iald hX (by decide) rfl dM_segmentsNow_37 rfl (fun y2 => ?_)
    refine k_icmp_ne (tgt := 45) hX dM_segmentsNow_38 (by decide) ?_ ?_
    · refine k_iconst hX dM_segmentsNow_45 ?_
      refine k_less [true, false, true] (L' := [lq 10, none, li x2]) rfl ?_
      exact tM_segmentsNow_J46 hX hR x2 1 x1 σ hT hb0
    · refine k_iconst hX dM_segmentsNow_41 ?_
      refine k_goto (tgt := 46) hX dM_segmentsNow_42 (by decide) ?_
      refine k_less [true, false, true] (L' := [lq 10, none, li x2]) rfl ?_
      exact tM_segmentsNow_J46 hX hR x2 0 x1 σ hT hb0
set_option maxRecDepth 100000 in
set_option maxHeartbeats 4000000 in
theorem tM_segmentsNow_L15 {X : KC} {q : Int × KM} (hX : kOk X 1 prog_11_method_70_code 3 "KeyPathModel") (hR : kRet X (some .int) q) (x1 x2 : Int) (σ : KM) {Θ : (Int × KM) → Prop} (hT : ∀ z, Θ (z) → z = q) : kJ X 15 [lq 10, li x1, li x2] [] σ (fM_segmentsNow_L15 x1 x2 σ) Θ :=
  k_iter (f := fun s => fM_segmentsNow_B15 s.1 s.2.1 s.2.2) (Lf := fun s => [lq 10, li s.1, li s.2.1]) (mf := fun s => s.2.2) (Θ := Θ) (fun s => tM_segmentsNow_B15 hX hR s.1 s.2.1 s.2.2 hT (fun _ h9 => h9)) kF (x1, x2, σ)
set_option maxRecDepth 100000 in
set_option maxHeartbeats 4000000 in
theorem tM_segmentsNow_J12 {X : KC} {q : Int × KM} (hX : kOk X 1 prog_11_method_70_code 3 "KeyPathModel") (hR : kRet X (some .int) q) (t0 : Int) (σ : KM) {Θ : (Int × KM) → Prop} (hT : ∀ z, Θ (z) → z = q) : kJ X 12 [lq 10, none, none] [ki t0] σ (fM_segmentsNow_J12 t0 σ) Θ := by
  refine k_istore_n (L' := [lq 10, li t0, none]) hX dM_segmentsNow_12 rfl (by decide) rfl ?_
  refine k_iconst hX dM_segmentsNow_13 ?_
  refine k_istore_n (L' := [lq 10, li t0, li 1]) hX dM_segmentsNow_14 rfl (by decide) rfl ?_
  exact tM_segmentsNow_L15 hX hR t0 1 σ hT
set_option maxRecDepth 100000 in
set_option maxHeartbeats 4000000 in
theorem sM_segmentsNow (σ : KM) : kSem 1 (⟨"KeyPathModel", "segmentsNow", "()I"⟩ : MethodName) prog_11_method_70_code 3 (some .int) [kr 10] σ (fM_segmentsNow σ) := by
  refine kSem.of (L0 := [lq 10, none, none]) (by decide) (Nat.le_of_ble_eq_true rfl) rfl (fun X q hX hR => ?_)
  have hT : ∀ z : Int × KM, (fun z => z = q) z → z = q := fun _ h => h
  refine k_aload_n hX dM_segmentsNow_0 rfl ?_
  refine gf_174 hX dM_segmentsNow_1 ?_
  refine k_if_ne (tgt := 11) hX dM_segmentsNow_4 (by decide) ?_ ?_
  · refine k_iconst hX dM_segmentsNow_11 ?_
    exact tM_segmentsNow_J12 hX hR 1 σ hT
  · refine k_iconst hX dM_segmentsNow_7 ?_
    refine k_goto (tgt := 12) hX dM_segmentsNow_8 (by decide) ?_
    exact tM_segmentsNow_J12 hX hR 0 σ hT
theorem cl_138 {X : KC} {d n : Nat} {cc : ByteArray} {pc : Nat} {L : List (Option KV)} {st : List KV} {σ : KM} {Z : Type} {Θ : Z → Prop} {G : Int → KM → Option Z} (hX : kOk X d cc n "KeyPathModel") (hdd : 1 + 1 ≤ d) (hst : k_cat st ≤ 8) (hd : decode cc pc = .ok (.invokevirtual 306, 3)) (h : ∀ r τ, kJ X (pc + 3) L (ki r :: st) τ (G r τ) Θ) : kJ X pc L (kr 10 :: st) σ (kCall (fM_segmentsNow σ) G) Θ :=
  k_callV (np := 0) (av := []) (ret := (some .int)) hX (by decide) rfl rfl rfl (sM_segmentsNow σ) ⟨⟨hdd, by decide⟩, tw_1402, tw_11, by decide +kernel⟩ rfl tw_1399 tw_1401 ts_69 hst hd h
theorem dM_firstOf_0 : decode prog_11_method_73_code 0 = .ok (.iload_n 1, 1) := by decide +kernel
theorem dM_firstOf_1 : decode prog_11_method_73_code 1 = .ok (.istore_n 2, 1) := by decide +kernel
theorem dM_firstOf_2 : decode prog_11_method_73_code 2 = .ok (.iconst 0, 1) := by decide +kernel
theorem dM_firstOf_3 : decode prog_11_method_73_code 3 = .ok (.istore_n 3, 1) := by decide +kernel
theorem dM_firstOf_4 : decode prog_11_method_73_code 4 = .ok (.iload_n 3, 1) := by decide +kernel
theorem dM_firstOf_5 : decode prog_11_method_73_code 5 = .ok (.aload_n 0, 1) := by decide +kernel
theorem dM_firstOf_6 : decode prog_11_method_73_code 6 = .ok (.getfield 267, 3) := by decide +kernel
theorem dM_firstOf_9 : decode prog_11_method_73_code 9 = .ok (.if_icmp .ge 41, 3) := by decide +kernel
theorem dM_firstOf_12 : decode prog_11_method_73_code 12 = .ok (.iload_n 2, 1) := by decide +kernel
theorem dM_firstOf_13 : decode prog_11_method_73_code 13 = .ok (.ifCond .le 37, 3) := by decide +kernel
theorem dM_firstOf_16 : decode prog_11_method_73_code 16 = .ok (.iinc 3 1, 3) := by decide +kernel
theorem dM_firstOf_19 : decode prog_11_method_73_code 19 = .ok (.iload_n 3, 1) := by decide +kernel
theorem dM_firstOf_20 : decode prog_11_method_73_code 20 = .ok (.aload_n 0, 1) := by decide +kernel
theorem dM_firstOf_21 : decode prog_11_method_73_code 21 = .ok (.getfield 267, 3) := by decide +kernel
theorem dM_firstOf_24 : decode prog_11_method_73_code 24 = .ok (.if_icmp .eq 20, 3) := by decide +kernel
theorem dM_firstOf_27 : decode prog_11_method_73_code 27 = .ok (.aload_n 0, 1) := by decide +kernel
theorem dM_firstOf_28 : decode prog_11_method_73_code 28 = .ok (.getfield 90, 3) := by decide +kernel
theorem dM_firstOf_31 : decode prog_11_method_73_code 31 = .ok (.iload_n 3, 1) := by decide +kernel
theorem dM_firstOf_32 : decode prog_11_method_73_code 32 = .ok (.iaload, 1) := by decide +kernel
theorem dM_firstOf_33 : decode prog_11_method_73_code 33 = .ok (.aload_n 0, 1) := by decide +kernel
theorem dM_firstOf_34 : decode prog_11_method_73_code 34 = .ok (.getfield 90, 3) := by decide +kernel
theorem dM_firstOf_37 : decode prog_11_method_73_code 37 = .ok (.iload_n 3, 1) := by decide +kernel
theorem dM_firstOf_38 : decode prog_11_method_73_code 38 = .ok (.iconst 1, 1) := by decide +kernel
theorem dM_firstOf_39 : decode prog_11_method_73_code 39 = .ok (.isub, 1) := by decide +kernel
theorem dM_firstOf_40 : decode prog_11_method_73_code 40 = .ok (.iaload, 1) := by decide +kernel
theorem dM_firstOf_41 : decode prog_11_method_73_code 41 = .ok (.if_icmp .eq (-37), 3) := by decide +kernel
theorem dM_firstOf_44 : decode prog_11_method_73_code 44 = .ok (.iinc 2 (-1), 3) := by decide +kernel
theorem dM_firstOf_47 : decode prog_11_method_73_code 47 = .ok (.goto (-43), 3) := by decide +kernel
theorem dM_firstOf_50 : decode prog_11_method_73_code 50 = .ok (.iload_n 3, 1) := by decide +kernel
theorem dM_firstOf_51 : decode prog_11_method_73_code 51 = .ok (.ireturn, 1) := by decide +kernel
set_option maxRecDepth 100000 in
set_option maxHeartbeats 4000000 in
theorem tM_firstOf_J50 {X : KC} {q : Int × KM} (hX : kOk X 1 prog_11_method_73_code 4 "KeyPathModel") (hR : kRet X (some .int) q) (x3 : Int) (σ : KM) {Θ : (Int × KM) → Prop} (hT : ∀ z, Θ (z) → z = q) : kJ X 50 [lq 10, none, none, li x3] [] σ (fM_firstOf_J50 x3 σ) Θ := by
  refine k_iload_n hX dM_firstOf_50 rfl ?_
  exact k_iret hX hR hT dM_firstOf_51
set_option maxRecDepth 100000 in
set_option maxHeartbeats 4000000 in
theorem tM_firstOf_J44 {X : KC} {q : Int × KM} (hX : kOk X 1 prog_11_method_73_code 4 "KeyPathModel") (hR : kRet X (some .int) q) (x2 x3 : Int) (σ : KM) {Θ : ((Int × Int × KM) ⊕ (Int × KM)) → Prop} (hT : ∀ z, Θ (.inr (z)) → z = q) (hb0 : ∀ s : Int × Int × KM, Θ (.inl s) → kW X 4 [lq 10, none, li s.1, li s.2.1] [] s.2.2) : kJ X 44 [lq 10, none, li x2, li x3] [] σ (fM_firstOf_J44 x2 x3 σ) Θ := by
  refine k_iincL (Lf := fun y1 => [lq 10, none, li y1, li x3]) hX dM_firstOf_44 rfl (by decide) rfl (fun _ => rfl) (fun y1 => ?_)
  refine k_goto (tgt := 4) hX dM_firstOf_47 (by decide) ?_
  exact k_back (hb0 (y1, x3, σ))
set_option maxRecDepth 100000 in
set_option maxHeartbeats 4000000 in
theorem tM_firstOf_B4 {X : KC} {q : Int × KM} (hX : kOk X 1 prog_11_method_73_code 4 "KeyPathModel") (hR : kRet X (some .int) q) (x2 x3 : Int) (σ : KM) {Θ : ((Int × Int × KM) ⊕ (Int × KM)) → Prop} (hT : ∀ z, Θ (.inr (z)) → z = q) (hb0 : ∀ s : Int × Int × KM, Θ (.inl s) → kW X 4 [lq 10, none, li s.1, li s.2.1] [] s.2.2) : kJ X 4 [lq 10, none, li x2, li x3] [] σ (fM_firstOf_B4 x2 x3 σ) Θ := by
  refine k_iload_n hX dM_firstOf_4 rfl ?_
  refine k_aload_n hX dM_firstOf_5 rfl ?_
  refine gf_174 hX dM_firstOf_6 ?_
  refine k_icmp_ge (tgt := 50) hX dM_firstOf_9 (by decide) ?_ ?_
  · refine k_exit ?_
    refine k_less [true, true, false, true] (L' := [lq 10, none, none, li x3]) rfl ?_
    exact tM_firstOf_J50 hX hR x3 σ hT
  · refine k_iload_n hX dM_firstOf_12 rfl ?_
    refine k_if_le (tgt := 50) hX dM_firstOf_13 (by decide) ?_ ?_
    · refine k_exit ?_
      refine k_less [true, true, false, true] (L' := [lq 10, none, none, li x3]) rfl ?_
      exact tM_firstOf_J50 hX hR x3 σ hT
    · refine k_iincL (Lf := fun y1 => [lq 10, none, li x2, li y1]) hX dM_firstOf_16 rfl (by decide) rfl (fun _ => rfl) (fun y1 => ?_)
      refine k_iload_n hX dM_firstOf_19 rfl ?_
      refine k_aload_n hX dM_firstOf_20 rfl ?_
      refine gf_174 hX dM_firstOf_21 ?_
      refine k_icmp_eq (tgt := 44) hX dM_firstOf_24 (by decide) ?_ ?_
      · exact tM_firstOf_J44 hX hR x2 y1 σ hT hb0
      · refine k_aload_n hX dM_firstOf_27 rfl ?_
        refine gf_182 hX dM_firstOf_28 ?_
        refine k_iload_n hX dM_firstOf_31 rfl ?_
        refine k_iald hX (by decide) rfl dM_firstOf_32 rfl (fun y2 => ?_)
        refine k_aload_n hX dM_firstOf_33 rfl ?_
        refine gf_182 hX dM_firstOf_34 ?_
        refine k_iload_n hX dM_firstOf_37 rfl ?_
        refine k_iconst hX dM_firstOf_38 ?_
        refine k_isub hX dM_firstOf_39 ?_
        refine k_iald hX (by decide) rfl dM_firstOf_40 rfl (fun y3 => ?_)
        refine k_icmp_eq (tgt := 4) hX dM_firstOf_41 (by decide) ?_ ?_
        · exact k_back (hb0 (x2, y1, σ))
        · exact tM_firstOf_J44 hX hR x2 y1 σ hT hb0
set_option maxRecDepth 100000 in
set_option maxHeartbeats 4000000 in
theorem tM_firstOf_L4 {X : KC} {q : Int × KM} (hX : kOk X 1 prog_11_method_73_code 4 "KeyPathModel") (hR : kRet X (some .int) q) (x2 x3 : Int) (σ : KM) {Θ : (Int × KM) → Prop} (hT : ∀ z, Θ (z) → z = q) : kJ X 4 [lq 10, none, li x2, li x3] [] σ (fM_firstOf_L4 x2 x3 σ) Θ :=
  k_iter (f := fun s => fM_firstOf_B4 s.1 s.2.1 s.2.2) (Lf := fun s => [lq 10, none, li s.1, li s.2.1]) (mf := fun s => s.2.2) (Θ := Θ) (fun s => tM_firstOf_B4 hX hR s.1 s.2.1 s.2.2 hT (fun _ h9 => h9)) kF (x2, x3, σ)
set_option maxRecDepth 100000 in
set_option maxHeartbeats 4000000 in
theorem sM_firstOf (x1 : Int) (σ : KM) : kSem 1 (⟨"KeyPathModel", "firstOf", "(I)I"⟩ : MethodName) prog_11_method_73_code 4 (some .int) [kr 10, ki x1] σ (fM_firstOf x1 σ) := by
  refine kSem.of (L0 := [lq 10, li x1, none, none]) (by decide) (Nat.le_of_ble_eq_true rfl) rfl (fun X q hX hR => ?_)
  have hT : ∀ z : Int × KM, (fun z => z = q) z → z = q := fun _ h => h
  refine k_iload_n hX dM_firstOf_0 rfl ?_
  refine k_istore_n (L' := [lq 10, li x1, li x1, none]) hX dM_firstOf_1 rfl (by decide) rfl ?_
  refine k_iconst hX dM_firstOf_2 ?_
  refine k_istore_n (L' := [lq 10, li x1, li x1, li 0]) hX dM_firstOf_3 rfl (by decide) rfl ?_
  refine k_less [true, false, true, true] (L' := [lq 10, none, li x1, li 0]) rfl ?_
  exact tM_firstOf_L4 hX hR x1 0 σ hT
theorem cl_139 {X : KC} {d n : Nat} {cc : ByteArray} {pc : Nat} {L : List (Option KV)} {st : List KV} {σ : KM} {Z : Type} {Θ : Z → Prop} {G : Int → KM → Option Z} {x1 : Int} (hX : kOk X d cc n "KeyPathModel") (hdd : 1 + 1 ≤ d) (hst : k_cat st ≤ 8) (hd : decode cc pc = .ok (.invokevirtual 309, 3)) (h : ∀ r τ, kJ X (pc + 3) L (ki r :: st) τ (G r τ) Θ) : kJ X pc L (ki x1 :: kr 10 :: st) σ (kCall (fM_firstOf x1 σ) G) Θ :=
  k_callV (np := 1) (av := [ki x1]) (ret := (some .int)) hX (by decide) rfl rfl rfl (sM_firstOf _ σ) ⟨⟨hdd, by decide⟩, tw_1414, tw_11, by decide +kernel⟩ rfl tw_1411 tw_1413 ts_70 hst hd h
theorem dM_romanNow_0 : decode prog_11_method_80_code 0 = .ok (.aload_n 0, 1) := by decide +kernel
theorem dM_romanNow_1 : decode prog_11_method_80_code 1 = .ok (.iload_n 1, 1) := by decide +kernel
theorem dM_romanNow_2 : decode prog_11_method_80_code 2 = .ok (.invokevirtual 232, 3) := by decide +kernel
theorem dM_romanNow_5 : decode prog_11_method_80_code 5 = .ok (.aload_n 0, 1) := by decide +kernel
theorem dM_romanNow_6 : decode prog_11_method_80_code 6 = .ok (.getfield 223, 3) := by decide +kernel
theorem dM_romanNow_9 : decode prog_11_method_80_code 9 = .ok (.ifCond .ne 7, 3) := by decide +kernel
theorem dM_romanNow_12 : decode prog_11_method_80_code 12 = .ok (.iconst (-1), 1) := by decide +kernel
theorem dM_romanNow_13 : decode prog_11_method_80_code 13 = .ok (.goto 16, 3) := by decide +kernel
theorem dM_romanNow_16 : decode prog_11_method_80_code 16 = .ok (.aload_n 0, 1) := by decide +kernel
theorem dM_romanNow_17 : decode prog_11_method_80_code 17 = .ok (.invokevirtual 251, 3) := by decide +kernel
theorem dM_romanNow_20 : decode prog_11_method_80_code 20 = .ok (.aload_n 0, 1) := by decide +kernel
theorem dM_romanNow_21 : decode prog_11_method_80_code 21 = .ok (.getfield 90, 3) := by decide +kernel
theorem dM_romanNow_24 : decode prog_11_method_80_code 24 = .ok (.iload_n 1, 1) := by decide +kernel
theorem dM_romanNow_25 : decode prog_11_method_80_code 25 = .ok (.iaload, 1) := by decide +kernel
theorem dM_romanNow_26 : decode prog_11_method_80_code 26 = .ok (.invokestatic 317, 3) := by decide +kernel
theorem dM_romanNow_29 : decode prog_11_method_80_code 29 = .ok (.ireturn, 1) := by decide +kernel
set_option maxRecDepth 100000 in
set_option maxHeartbeats 4000000 in
theorem tM_romanNow_J29 {X : KC} {q : Int × KM} (hX : kOk X 3 prog_11_method_80_code 2 "KeyPathModel") (hR : kRet X (some .int) q) (t0 : Int) (σ : KM) {Θ : (Int × KM) → Prop} (hT : ∀ z, Θ (z) → z = q) : kJ X 29 [lq 10, none] [ki t0] σ (fM_romanNow_J29 t0 σ) Θ := by
  exact k_iret hX hR hT dM_romanNow_29
set_option maxRecDepth 100000 in
set_option maxHeartbeats 4000000 in
theorem sM_romanNow (x1 : Int) (σ : KM) : kSem 3 (⟨"KeyPathModel", "romanNow", "(I)I"⟩ : MethodName) prog_11_method_80_code 2 (some .int) [kr 10, ki x1] σ (fM_romanNow x1 σ) := by
  refine kSem.of (L0 := [lq 10, li x1]) (by decide) (Nat.le_of_ble_eq_true rfl) rfl (fun X q hX hR => ?_)
  have hT : ∀ z : Int × KM, (fun z => z = q) z → z = q := fun _ h => h
  refine k_aload_n hX dM_romanNow_0 rfl ?_
  refine k_iload_n hX dM_romanNow_1 rfl ?_
  refine cl_123 hX (by decide) (Nat.le_of_ble_eq_true rfl) dM_romanNow_2 (fun _ τ1 => ?_)
  refine k_aload_n hX dM_romanNow_5 rfl ?_
  refine gf_166 hX dM_romanNow_6 ?_
  refine k_if_ne (tgt := 16) hX dM_romanNow_9 (by decide) ?_ ?_
  · refine k_aload_n hX dM_romanNow_16 rfl ?_
    refine cl_125 hX (by decide) (Nat.le_of_ble_eq_true rfl) dM_romanNow_17 (fun r3 τ2 => ?_)
    refine k_aload_n hX dM_romanNow_20 rfl ?_
    refine gf_182 hX dM_romanNow_21 ?_
    refine k_iload_n hX dM_romanNow_24 rfl ?_
    refine k_iald hX (by decide) rfl dM_romanNow_25 rfl (fun y4 => ?_)
    refine cl_137 hX (by decide) (Nat.le_of_ble_eq_true rfl) dM_romanNow_26 (fun r6 τ5 => ?_)
    refine k_less [true, false] (L' := [lq 10, none]) rfl ?_
    exact tM_romanNow_J29 hX hR r6 τ5 hT
  · refine k_iconst hX dM_romanNow_12 ?_
    refine k_goto (tgt := 29) hX dM_romanNow_13 (by decide) ?_
    refine k_less [true, false] (L' := [lq 10, none]) rfl ?_
    exact tM_romanNow_J29 hX hR (-1) τ1 hT
theorem cl_140 {X : KC} {d n : Nat} {cc : ByteArray} {pc : Nat} {L : List (Option KV)} {st : List KV} {σ : KM} {Z : Type} {Θ : Z → Prop} {G : Int → KM → Option Z} {x1 : Int} (hX : kOk X d cc n "KeyPathModel") (hdd : 3 + 1 ≤ d) (hst : k_cat st ≤ 8) (hd : decode cc pc = .ok (.invokevirtual 320, 3)) (h : ∀ r τ, kJ X (pc + 3) L (ki r :: st) τ (G r τ) Θ) : kJ X pc L (ki x1 :: kr 10 :: st) σ (kCall (fM_romanNow x1 σ) G) Θ :=
  k_callV (np := 1) (av := [ki x1]) (ret := (some .int)) hX (by decide) rfl rfl rfl (sM_romanNow _ σ) ⟨⟨hdd, by decide⟩, tw_1441, tw_11, by decide +kernel⟩ rfl tw_1438 tw_1440 ts_71 hst hd h
theorem dM_isBehindFifth_0 : decode prog_11_method_84_code 0 = .ok (.aload_n 0, 1) := by decide +kernel
theorem dM_isBehindFifth_1 : decode prog_11_method_84_code 1 = .ok (.iload_n 2, 1) := by decide +kernel
theorem dM_isBehindFifth_2 : decode prog_11_method_84_code 2 = .ok (.invokevirtual 232, 3) := by decide +kernel
theorem dM_isBehindFifth_5 : decode prog_11_method_84_code 5 = .ok (.aload_n 0, 1) := by decide +kernel
theorem dM_isBehindFifth_6 : decode prog_11_method_84_code 6 = .ok (.invokevirtual 251, 3) := by decide +kernel
theorem dM_isBehindFifth_9 : decode prog_11_method_84_code 9 = .ok (.istore_n 3, 1) := by decide +kernel
theorem dM_isBehindFifth_10 : decode prog_11_method_84_code 10 = .ok (.iload_n 2, 1) := by decide +kernel
theorem dM_isBehindFifth_11 : decode prog_11_method_84_code 11 = .ok (.iconst 1, 1) := by decide +kernel
theorem dM_isBehindFifth_12 : decode prog_11_method_84_code 12 = .ok (.isub, 1) := by decide +kernel
theorem dM_isBehindFifth_13 : decode prog_11_method_84_code 13 = .ok (.istore 4, 2) := by decide +kernel
theorem dM_isBehindFifth_15 : decode prog_11_method_84_code 15 = .ok (.iload 4, 2) := by decide +kernel
theorem dM_isBehindFifth_17 : decode prog_11_method_84_code 17 = .ok (.iload_n 1, 1) := by decide +kernel
theorem dM_isBehindFifth_18 : decode prog_11_method_84_code 18 = .ok (.if_icmp .lt 54, 3) := by decide +kernel
theorem dM_isBehindFifth_21 : decode prog_11_method_84_code 21 = .ok (.aload_n 0, 1) := by decide +kernel
theorem dM_isBehindFifth_22 : decode prog_11_method_84_code 22 = .ok (.iload 4, 2) := by decide +kernel
theorem dM_isBehindFifth_24 : decode prog_11_method_84_code 24 = .ok (.invokevirtual 232, 3) := by decide +kernel
theorem dM_isBehindFifth_27 : decode prog_11_method_84_code 27 = .ok (.aload_n 0, 1) := by decide +kernel
theorem dM_isBehindFifth_28 : decode prog_11_method_84_code 28 = .ok (.getfield 223, 3) := by decide +kernel
theorem dM_isBehindFifth_31 : decode prog_11_method_84_code 31 = .ok (.ifCond .le 35, 3) := by decide +kernel
theorem dM_isBehindFifth_34 : decode prog_11_method_84_code 34 = .ok (.aload_n 0, 1) := by decide +kernel
theorem dM_isBehindFifth_35 : decode prog_11_method_84_code 35 = .ok (.invokevirtual 251, 3) := by decide +kernel
theorem dM_isBehindFifth_38 : decode prog_11_method_84_code 38 = .ok (.iload_n 3, 1) := by decide +kernel
theorem dM_isBehindFifth_39 : decode prog_11_method_84_code 39 = .ok (.if_icmp .eq 27, 3) := by decide +kernel
theorem dM_isBehindFifth_42 : decode prog_11_method_84_code 42 = .ok (.aload_n 0, 1) := by decide +kernel
theorem dM_isBehindFifth_43 : decode prog_11_method_84_code 43 = .ok (.invokevirtual 251, 3) := by decide +kernel
theorem dM_isBehindFifth_46 : decode prog_11_method_84_code 46 = .ok (.aload_n 0, 1) := by decide +kernel
theorem dM_isBehindFifth_47 : decode prog_11_method_84_code 47 = .ok (.getfield 90, 3) := by decide +kernel
theorem dM_isBehindFifth_50 : decode prog_11_method_84_code 50 = .ok (.iload 4, 2) := by decide +kernel
theorem dM_isBehindFifth_52 : decode prog_11_method_84_code 52 = .ok (.iaload, 1) := by decide +kernel
theorem dM_isBehindFifth_53 : decode prog_11_method_84_code 53 = .ok (.invokestatic 317, 3) := by decide +kernel
theorem dM_isBehindFifth_56 : decode prog_11_method_84_code 56 = .ok (.iconst 5, 1) := by decide +kernel
theorem dM_isBehindFifth_57 : decode prog_11_method_84_code 57 = .ok (.if_icmp .ne 7, 3) := by decide +kernel
theorem dM_isBehindFifth_60 : decode prog_11_method_84_code 60 = .ok (.iconst 1, 1) := by decide +kernel
theorem dM_isBehindFifth_61 : decode prog_11_method_84_code 61 = .ok (.goto 4, 3) := by decide +kernel
theorem dM_isBehindFifth_64 : decode prog_11_method_84_code 64 = .ok (.iconst 0, 1) := by decide +kernel
theorem dM_isBehindFifth_65 : decode prog_11_method_84_code 65 = .ok (.ireturn, 1) := by decide +kernel
theorem dM_isBehindFifth_66 : decode prog_11_method_84_code 66 = .ok (.iinc 4 (-1), 3) := by decide +kernel
theorem dM_isBehindFifth_69 : decode prog_11_method_84_code 69 = .ok (.goto (-54), 3) := by decide +kernel
theorem dM_isBehindFifth_72 : decode prog_11_method_84_code 72 = .ok (.iconst 0, 1) := by decide +kernel
theorem dM_isBehindFifth_73 : decode prog_11_method_84_code 73 = .ok (.ireturn, 1) := by decide +kernel
set_option maxRecDepth 100000 in
set_option maxHeartbeats 4000000 in
theorem tM_isBehindFifth_J72 {X : KC} {q : Int × KM} (hX : kOk X 3 prog_11_method_84_code 5 "KeyPathModel") (hR : kRet X (some .boolean) q) (σ : KM) {Θ : (Int × KM) → Prop} (hT : ∀ z, Θ (z) → z = q) : kJ X 72 [lq 10, none, none, none, none] [] σ (fM_isBehindFifth_J72 σ) Θ := by
  refine k_iconst hX dM_isBehindFifth_72 ?_
  exact k_zret hX hR hT dM_isBehindFifth_73
set_option maxRecDepth 100000 in
set_option maxHeartbeats 4000000 in
theorem tM_isBehindFifth_J66 {X : KC} {q : Int × KM} (hX : kOk X 3 prog_11_method_84_code 5 "KeyPathModel") (hR : kRet X (some .boolean) q) (x1 x3 x4 : Int) (σ : KM) {Θ : ((Int × KM) ⊕ (Int × KM)) → Prop} (hT : ∀ z, Θ (.inr (z)) → z = q) (hb0 : ∀ s : Int × KM, Θ (.inl s) → kW X 15 [lq 10, li x1, none, li x3, li s.1] [] s.2) : kJ X 66 [lq 10, li x1, none, li x3, li x4] [] σ (fM_isBehindFifth_J66 x1 x3 x4 σ) Θ := by
  refine k_iincL (Lf := fun y1 => [lq 10, li x1, none, li x3, li y1]) hX dM_isBehindFifth_66 rfl (by decide) rfl (fun _ => rfl) (fun y1 => ?_)
  refine k_goto (tgt := 15) hX dM_isBehindFifth_69 (by decide) ?_
  exact k_back (hb0 (y1, σ))
set_option maxRecDepth 100000 in
set_option maxHeartbeats 4000000 in
theorem tM_isBehindFifth_J65 {X : KC} {q : Int × KM} (hX : kOk X 3 prog_11_method_84_code 5 "KeyPathModel") (hR : kRet X (some .boolean) q) (t0 : Int) (σ : KM) {Θ : (Int × KM) → Prop} (hT : ∀ z, Θ (z) → z = q) : kJ X 65 [lq 10, none, none, none, none] [ki t0] σ (fM_isBehindFifth_J65 t0 σ) Θ := by
  exact k_zret hX hR hT dM_isBehindFifth_65
set_option maxRecDepth 100000 in
set_option maxHeartbeats 4000000 in
theorem tM_isBehindFifth_J42 {X : KC} {q : Int × KM} (hX : kOk X 3 prog_11_method_84_code 5 "KeyPathModel") (hR : kRet X (some .boolean) q) (x4 : Int) (σ : KM) {Θ : (Int × KM) → Prop} (hT : ∀ z, Θ (z) → z = q) : kJ X 42 [lq 10, none, none, none, li x4] [] σ (fM_isBehindFifth_J42 x4 σ) Θ := by
  refine k_aload_n hX dM_isBehindFifth_42 rfl ?_
  refine cl_125 hX (by decide) (Nat.le_of_ble_eq_true rfl) dM_isBehindFifth_43 (fun r2 τ1 => ?_)
  refine k_aload_n hX dM_isBehindFifth_46 rfl ?_
  refine gf_182 hX dM_isBehindFifth_47 ?_
  refine k_iload hX dM_isBehindFifth_50 rfl ?_
  refine k_iald hX (by decide) rfl dM_isBehindFifth_52 rfl (fun y3 => ?_)
  refine cl_137 hX (by decide) (Nat.le_of_ble_eq_true rfl) dM_isBehindFifth_53 (fun r5 τ4 => ?_)
  refine k_iconst hX dM_isBehindFifth_56 ?_
  refine k_icmp_ne (tgt := 64) hX dM_isBehindFifth_57 (by decide) ?_ ?_
  · refine k_iconst hX dM_isBehindFifth_64 ?_
    refine k_less [true, true, true, true, false] (L' := [lq 10, none, none, none, none]) rfl ?_
    exact tM_isBehindFifth_J65 hX hR 0 τ4 hT
  · refine k_iconst hX dM_isBehindFifth_60 ?_
    refine k_goto (tgt := 65) hX dM_isBehindFifth_61 (by decide) ?_
    refine k_less [true, true, true, true, false] (L' := [lq 10, none, none, none, none]) rfl ?_
    exact tM_isBehindFifth_J65 hX hR 1 τ4 hT
set_option maxRecDepth 100000 in
set_option maxHeartbeats 4000000 in
theorem tM_isBehindFifth_B15 {X : KC} {q : Int × KM} (hX : kOk X 3 prog_11_method_84_code 5 "KeyPathModel") (hR : kRet X (some .boolean) q) (x1 x3 x4 : Int) (σ : KM) {Θ : ((Int × KM) ⊕ (Int × KM)) → Prop} (hT : ∀ z, Θ (.inr (z)) → z = q) (hb0 : ∀ s : Int × KM, Θ (.inl s) → kW X 15 [lq 10, li x1, none, li x3, li s.1] [] s.2) : kJ X 15 [lq 10, li x1, none, li x3, li x4] [] σ (fM_isBehindFifth_B15 x1 x3 x4 σ) Θ := by
  refine k_iload hX dM_isBehindFifth_15 rfl ?_
  refine k_iload_n hX dM_isBehindFifth_17 rfl ?_
  refine k_icmp_lt (tgt := 72) hX dM_isBehindFifth_18 (by decide) ?_ ?_
  · refine k_exit ?_
    refine k_less [true, false, true, false, false] (L' := [lq 10, none, none, none, none]) rfl ?_
    exact tM_isBehindFifth_J72 hX hR σ hT
  · refine k_aload_n hX dM_isBehindFifth_21 rfl ?_
    refine k_iload hX dM_isBehindFifth_22 rfl ?_
    refine cl_123 hX (by decide) (Nat.le_of_ble_eq_true rfl) dM_isBehindFifth_24 (fun _ τ1 => ?_)
    refine k_aload_n hX dM_isBehindFifth_27 rfl ?_
    refine gf_166 hX dM_isBehindFifth_28 ?_
    refine k_if_le (tgt := 66) hX dM_isBehindFifth_31 (by decide) ?_ ?_
    · exact tM_isBehindFifth_J66 hX hR x1 x3 x4 τ1 hT hb0
    · refine k_aload_n hX dM_isBehindFifth_34 rfl ?_
      refine cl_125 hX (by decide) (Nat.le_of_ble_eq_true rfl) dM_isBehindFifth_35 (fun r3 τ2 => ?_)
      refine k_iload_n hX dM_isBehindFifth_38 rfl ?_
      refine k_icmp_eq (tgt := 66) hX dM_isBehindFifth_39 (by decide) ?_ ?_
      · exact tM_isBehindFifth_J66 hX hR x1 x3 x4 τ2 hT hb0
      · refine k_exit ?_
        refine k_less [true, false, true, false, true] (L' := [lq 10, none, none, none, li x4]) rfl ?_
        exact tM_isBehindFifth_J42 hX hR x4 τ2 hT
set_option maxRecDepth 100000 in
set_option maxHeartbeats 4000000 in
theorem tM_isBehindFifth_L15 {X : KC} {q : Int × KM} (hX : kOk X 3 prog_11_method_84_code 5 "KeyPathModel") (hR : kRet X (some .boolean) q) (x1 x3 x4 : Int) (σ : KM) {Θ : (Int × KM) → Prop} (hT : ∀ z, Θ (z) → z = q) : kJ X 15 [lq 10, li x1, none, li x3, li x4] [] σ (fM_isBehindFifth_L15 x1 x3 x4 σ) Θ :=
  k_iter (f := fun s => fM_isBehindFifth_B15 x1 x3 s.1 s.2) (Lf := fun s => [lq 10, li x1, none, li x3, li s.1]) (mf := fun s => s.2) (Θ := Θ) (fun s => tM_isBehindFifth_B15 hX hR x1 x3 s.1 s.2 hT (fun _ h9 => h9)) kF (x4, σ)
set_option maxRecDepth 100000 in
set_option maxHeartbeats 4000000 in
theorem sM_isBehindFifth (x1 x2 : Int) (σ : KM) : kSem 3 (⟨"KeyPathModel", "isBehindFifth", "(II)Z"⟩ : MethodName) prog_11_method_84_code 5 (some .boolean) [kr 10, ki x1, ki x2] σ (fM_isBehindFifth x1 x2 σ) := by
  refine kSem.of (L0 := [lq 10, li x1, li x2, none, none]) (by decide) (Nat.le_of_ble_eq_true rfl) rfl (fun X q hX hR => ?_)
  have hT : ∀ z : Int × KM, (fun z => z = q) z → z = q := fun _ h => h
  refine k_aload_n hX dM_isBehindFifth_0 rfl ?_
  refine k_iload_n hX dM_isBehindFifth_1 rfl ?_
  refine cl_123 hX (by decide) (Nat.le_of_ble_eq_true rfl) dM_isBehindFifth_2 (fun _ τ1 => ?_)
  refine k_aload_n hX dM_isBehindFifth_5 rfl ?_
  refine cl_125 hX (by decide) (Nat.le_of_ble_eq_true rfl) dM_isBehindFifth_6 (fun r3 τ2 => ?_)
  refine k_istore_n (L' := [lq 10, li x1, li x2, li r3, none]) hX dM_isBehindFifth_9 rfl (by decide) rfl ?_
  refine k_iload_n hX dM_isBehindFifth_10 rfl ?_
  refine k_iconst hX dM_isBehindFifth_11 ?_
  refine k_isub hX dM_isBehindFifth_12 ?_
  refine k_istoreL (Lf := fun y4 => [lq 10, li x1, li x2, li r3, li y4]) hX dM_isBehindFifth_13 rfl (by decide) (fun _ => rfl) (fun y4 => ?_)
  refine k_less [true, true, false, true, true] (L' := [lq 10, li x1, none, li r3, li y4]) rfl ?_
  exact tM_isBehindFifth_L15 hX hR x1 r3 y4 τ2 hT
theorem cl_141 {X : KC} {d n : Nat} {cc : ByteArray} {pc : Nat} {L : List (Option KV)} {st : List KV} {σ : KM} {Z : Type} {Θ : Z → Prop} {G : Int → KM → Option Z} {x1 x2 : Int} (hX : kOk X d cc n "KeyPathModel") (hdd : 3 + 1 ≤ d) (hst : k_cat st ≤ 8) (hd : decode cc pc = .ok (.invokevirtual 323, 3)) (h : ∀ r τ, kJ X (pc + 3) L (ki r :: st) τ (G r τ) Θ) : kJ X pc L (ki x2 :: ki x1 :: kr 10 :: st) σ (kCall (fM_isBehindFifth x1 x2 σ) G) Θ :=
  k_callV (np := 2) (av := [ki x1, ki x2]) (ret := (some .boolean)) hX (by decide) rfl rfl rfl (sM_isBehindFifth _ _ σ) ⟨⟨hdd, by decide⟩, tw_1457, tw_11, by decide +kernel⟩ rfl tw_1454 tw_1456 ts_72 hst hd h
theorem dM_confirmed_0 : decode prog_11_method_85_code 0 = .ok (.aload_n 0, 1) := by decide +kernel
theorem dM_confirmed_1 : decode prog_11_method_85_code 1 = .ok (.iconst 0, 1) := by decide +kernel
theorem dM_confirmed_2 : decode prog_11_method_85_code 2 = .ok (.putfield 1, 3) := by decide +kernel
theorem dM_confirmed_5 : decode prog_11_method_85_code 5 = .ok (.aload_n 0, 1) := by decide +kernel
theorem dM_confirmed_6 : decode prog_11_method_85_code 6 = .ok (.invokevirtual 287, 3) := by decide +kernel
theorem dM_confirmed_9 : decode prog_11_method_85_code 9 = .ok (.ifCond .ne 6, 3) := by decide +kernel
theorem dM_confirmed_12 : decode prog_11_method_85_code 12 = .ok (.bipush (-5), 2) := by decide +kernel
theorem dM_confirmed_14 : decode prog_11_method_85_code 14 = .ok (.ireturn, 1) := by decide +kernel
theorem dM_confirmed_15 : decode prog_11_method_85_code 15 = .ok (.iload_n 1, 1) := by decide +kernel
theorem dM_confirmed_16 : decode prog_11_method_85_code 16 = .ok (.i2l, 1) := by decide +kernel
theorem dM_confirmed_17 : decode prog_11_method_85_code 17 = .ok (.lconst 0, 1) := by decide +kernel
theorem dM_confirmed_18 : decode prog_11_method_85_code 18 = .ok (.aload_n 0, 1) := by decide +kernel
theorem dM_confirmed_19 : decode prog_11_method_85_code 19 = .ok (.invokevirtual 306, 3) := by decide +kernel
theorem dM_confirmed_22 : decode prog_11_method_85_code 22 = .ok (.iconst 1, 1) := by decide +kernel
theorem dM_confirmed_23 : decode prog_11_method_85_code 23 = .ok (.isub, 1) := by decide +kernel
theorem dM_confirmed_24 : decode prog_11_method_85_code 24 = .ok (.i2l, 1) := by decide +kernel
theorem dM_confirmed_25 : decode prog_11_method_85_code 25 = .ok (.invokestatic 134, 3) := by decide +kernel
theorem dM_confirmed_28 : decode prog_11_method_85_code 28 = .ok (.ifCond .ne 6, 3) := by decide +kernel
theorem dM_confirmed_31 : decode prog_11_method_85_code 31 = .ok (.bipush (-2), 2) := by decide +kernel
theorem dM_confirmed_33 : decode prog_11_method_85_code 33 = .ok (.ireturn, 1) := by decide +kernel
theorem dM_confirmed_34 : decode prog_11_method_85_code 34 = .ok (.aload_n 0, 1) := by decide +kernel
theorem dM_confirmed_35 : decode prog_11_method_85_code 35 = .ok (.iload_n 1, 1) := by decide +kernel
theorem dM_confirmed_36 : decode prog_11_method_85_code 36 = .ok (.invokevirtual 309, 3) := by decide +kernel
theorem dM_confirmed_39 : decode prog_11_method_85_code 39 = .ok (.istore_n 2, 1) := by decide +kernel
theorem dM_confirmed_40 : decode prog_11_method_85_code 40 = .ok (.aload_n 0, 1) := by decide +kernel
theorem dM_confirmed_41 : decode prog_11_method_85_code 41 = .ok (.iload_n 1, 1) := by decide +kernel
theorem dM_confirmed_42 : decode prog_11_method_85_code 42 = .ok (.iconst 1, 1) := by decide +kernel
theorem dM_confirmed_43 : decode prog_11_method_85_code 43 = .ok (.iadd, 1) := by decide +kernel
theorem dM_confirmed_44 : decode prog_11_method_85_code 44 = .ok (.invokevirtual 309, 3) := by decide +kernel
theorem dM_confirmed_47 : decode prog_11_method_85_code 47 = .ok (.istore_n 3, 1) := by decide +kernel
theorem dM_confirmed_48 : decode prog_11_method_85_code 48 = .ok (.iload_n 2, 1) := by decide +kernel
theorem dM_confirmed_49 : decode prog_11_method_85_code 49 = .ok (.istore 4, 2) := by decide +kernel
theorem dM_confirmed_51 : decode prog_11_method_85_code 51 = .ok (.iload 4, 2) := by decide +kernel
theorem dM_confirmed_53 : decode prog_11_method_85_code 53 = .ok (.iload_n 3, 1) := by decide +kernel
theorem dM_confirmed_54 : decode prog_11_method_85_code 54 = .ok (.if_icmp .ge 32, 3) := by decide +kernel
theorem dM_confirmed_57 : decode prog_11_method_85_code 57 = .ok (.aload_n 0, 1) := by decide +kernel
theorem dM_confirmed_58 : decode prog_11_method_85_code 58 = .ok (.iload 4, 2) := by decide +kernel
theorem dM_confirmed_60 : decode prog_11_method_85_code 60 = .ok (.invokevirtual 320, 3) := by decide +kernel
theorem dM_confirmed_63 : decode prog_11_method_85_code 63 = .ok (.iconst 1, 1) := by decide +kernel
theorem dM_confirmed_64 : decode prog_11_method_85_code 64 = .ok (.if_icmp .ne 16, 3) := by decide +kernel
theorem dM_confirmed_67 : decode prog_11_method_85_code 67 = .ok (.aload_n 0, 1) := by decide +kernel
theorem dM_confirmed_68 : decode prog_11_method_85_code 68 = .ok (.iload_n 2, 1) := by decide +kernel
theorem dM_confirmed_69 : decode prog_11_method_85_code 69 = .ok (.iload 4, 2) := by decide +kernel
theorem dM_confirmed_71 : decode prog_11_method_85_code 71 = .ok (.invokevirtual 323, 3) := by decide +kernel
theorem dM_confirmed_74 : decode prog_11_method_85_code 74 = .ok (.ifCond .eq 6, 3) := by decide +kernel
theorem dM_confirmed_77 : decode prog_11_method_85_code 77 = .ok (.iload 4, 2) := by decide +kernel
theorem dM_confirmed_79 : decode prog_11_method_85_code 79 = .ok (.ireturn, 1) := by decide +kernel
theorem dM_confirmed_80 : decode prog_11_method_85_code 80 = .ok (.iinc 4 1, 3) := by decide +kernel
theorem dM_confirmed_83 : decode prog_11_method_85_code 83 = .ok (.goto (-32), 3) := by decide +kernel
theorem dM_confirmed_86 : decode prog_11_method_85_code 86 = .ok (.iconst (-1), 1) := by decide +kernel
theorem dM_confirmed_87 : decode prog_11_method_85_code 87 = .ok (.ireturn, 1) := by decide +kernel
set_option maxRecDepth 100000 in
set_option maxHeartbeats 4000000 in
theorem tM_confirmed_J86 {X : KC} {q : Int × KM} (hX : kOk X 6 prog_11_method_85_code 5 "KeyPathModel") (hR : kRet X (some .int) q) (σ : KM) {Θ : (Int × KM) → Prop} (hT : ∀ z, Θ (z) → z = q) : kJ X 86 [lq 10, none, none, none, none] [] σ (fM_confirmed_J86 σ) Θ := by
  refine k_iconst hX dM_confirmed_86 ?_
  exact k_iret hX hR hT dM_confirmed_87
set_option maxRecDepth 100000 in
set_option maxHeartbeats 4000000 in
theorem tM_confirmed_J80 {X : KC} {q : Int × KM} (hX : kOk X 6 prog_11_method_85_code 5 "KeyPathModel") (hR : kRet X (some .int) q) (x2 x3 x4 : Int) (σ : KM) {Θ : ((Int × KM) ⊕ (Int × KM)) → Prop} (hT : ∀ z, Θ (.inr (z)) → z = q) (hb0 : ∀ s : Int × KM, Θ (.inl s) → kW X 51 [lq 10, none, li x2, li x3, li s.1] [] s.2) : kJ X 80 [lq 10, none, li x2, li x3, li x4] [] σ (fM_confirmed_J80 x2 x3 x4 σ) Θ := by
  refine k_iincL (Lf := fun y1 => [lq 10, none, li x2, li x3, li y1]) hX dM_confirmed_80 rfl (by decide) rfl (fun _ => rfl) (fun y1 => ?_)
  refine k_goto (tgt := 51) hX dM_confirmed_83 (by decide) ?_
  exact k_back (hb0 (y1, σ))
set_option maxRecDepth 100000 in
set_option maxHeartbeats 4000000 in
theorem tM_confirmed_J77 {X : KC} {q : Int × KM} (hX : kOk X 6 prog_11_method_85_code 5 "KeyPathModel") (hR : kRet X (some .int) q) (x4 : Int) (σ : KM) {Θ : (Int × KM) → Prop} (hT : ∀ z, Θ (z) → z = q) : kJ X 77 [lq 10, none, none, none, li x4] [] σ (fM_confirmed_J77 x4 σ) Θ := by
  refine k_iload hX dM_confirmed_77 rfl ?_
  exact k_iret hX hR hT dM_confirmed_79
set_option maxRecDepth 100000 in
set_option maxHeartbeats 4000000 in
theorem tM_confirmed_B51 {X : KC} {q : Int × KM} (hX : kOk X 6 prog_11_method_85_code 5 "KeyPathModel") (hR : kRet X (some .int) q) (x2 x3 x4 : Int) (σ : KM) {Θ : ((Int × KM) ⊕ (Int × KM)) → Prop} (hT : ∀ z, Θ (.inr (z)) → z = q) (hb0 : ∀ s : Int × KM, Θ (.inl s) → kW X 51 [lq 10, none, li x2, li x3, li s.1] [] s.2) : kJ X 51 [lq 10, none, li x2, li x3, li x4] [] σ (fM_confirmed_B51 x2 x3 x4 σ) Θ := by
  refine k_iload hX dM_confirmed_51 rfl ?_
  refine k_iload_n hX dM_confirmed_53 rfl ?_
  refine k_icmp_ge (tgt := 86) hX dM_confirmed_54 (by decide) ?_ ?_
  · refine k_exit ?_
    refine k_less [true, true, false, false, false] (L' := [lq 10, none, none, none, none]) rfl ?_
    exact tM_confirmed_J86 hX hR σ hT
  · refine k_aload_n hX dM_confirmed_57 rfl ?_
    refine k_iload hX dM_confirmed_58 rfl ?_
    refine cl_140 hX (by decide) (Nat.le_of_ble_eq_true rfl) dM_confirmed_60 (fun r2 τ1 => ?_)
    refine k_iconst hX dM_confirmed_63 ?_
    refine k_icmp_ne (tgt := 80) hX dM_confirmed_64 (by decide) ?_ ?_
    · exact tM_confirmed_J80 hX hR x2 x3 x4 τ1 hT hb0
    · refine k_aload_n hX dM_confirmed_67 rfl ?_
      refine k_iload_n hX dM_confirmed_68 rfl ?_
      refine k_iload hX dM_confirmed_69 rfl ?_
      refine cl_141 hX (by decide) (Nat.le_of_ble_eq_true rfl) dM_confirmed_71 (fun r4 τ3 => ?_)
      refine k_if_eq (tgt := 80) hX dM_confirmed_74 (by decide) ?_ ?_
      · exact tM_confirmed_J80 hX hR x2 x3 x4 τ3 hT hb0
      · refine k_exit ?_
        refine k_less [true, true, false, false, true] (L' := [lq 10, none, none, none, li x4]) rfl ?_
        exact tM_confirmed_J77 hX hR x4 τ3 hT
set_option maxRecDepth 100000 in
set_option maxHeartbeats 4000000 in
theorem tM_confirmed_L51 {X : KC} {q : Int × KM} (hX : kOk X 6 prog_11_method_85_code 5 "KeyPathModel") (hR : kRet X (some .int) q) (x2 x3 x4 : Int) (σ : KM) {Θ : (Int × KM) → Prop} (hT : ∀ z, Θ (z) → z = q) : kJ X 51 [lq 10, none, li x2, li x3, li x4] [] σ (fM_confirmed_L51 x2 x3 x4 σ) Θ :=
  k_iter (f := fun s => fM_confirmed_B51 x2 x3 s.1 s.2) (Lf := fun s => [lq 10, none, li x2, li x3, li s.1]) (mf := fun s => s.2) (Θ := Θ) (fun s => tM_confirmed_B51 hX hR x2 x3 s.1 s.2 hT (fun _ h9 => h9)) kF (x4, σ)
set_option maxRecDepth 100000 in
set_option maxHeartbeats 4000000 in
theorem sM_confirmed (x1 : Int) (σ : KM) : kSem 6 (⟨"KeyPathModel", "confirmed", "(I)I"⟩ : MethodName) prog_11_method_85_code 5 (some .int) [kr 10, ki x1] σ (fM_confirmed x1 σ) := by
  refine kSem.of (L0 := [lq 10, li x1, none, none, none]) (by decide) (Nat.le_of_ble_eq_true rfl) rfl (fun X q hX hR => ?_)
  have hT : ∀ z : Int × KM, (fun z => z = q) z → z = q := fun _ h => h
  refine k_aload_n hX dM_confirmed_0 rfl ?_
  refine k_iconst hX dM_confirmed_1 ?_
  refine gp_157 hX dM_confirmed_2 (fun τ1 => ?_)
  refine k_aload_n hX dM_confirmed_5 rfl ?_
  refine cl_136 hX (by decide) (Nat.le_of_ble_eq_true rfl) dM_confirmed_6 (fun r3 τ2 => ?_)
  refine k_if_ne (tgt := 15) hX dM_confirmed_9 (by decide) ?_ ?_
  · refine k_iload_n hX dM_confirmed_15 rfl ?_
    refine k_i2l hX dM_confirmed_16 ?_
    refine k_lconst0 hX dM_confirmed_17 ?_
    refine k_aload_n hX dM_confirmed_18 rfl ?_
    refine cl_138 hX (by decide) (Nat.le_of_ble_eq_true rfl) dM_confirmed_19 (fun r5 τ4 => ?_)
    refine k_iconst hX dM_confirmed_22 ?_
    refine k_isub hX dM_confirmed_23 ?_
    refine k_i2l hX dM_confirmed_24 ?_
    refine cl_120 hX (by decide) (Nat.le_of_ble_eq_true rfl) dM_confirmed_25 (fun r7 τ6 => ?_)
    refine k_if_ne (tgt := 34) hX dM_confirmed_28 (by decide) ?_ ?_
    · refine k_aload_n hX dM_confirmed_34 rfl ?_
      refine k_iload_n hX dM_confirmed_35 rfl ?_
      refine cl_139 hX (by decide) (Nat.le_of_ble_eq_true rfl) dM_confirmed_36 (fun r9 τ8 => ?_)
      refine k_istore_n (L' := [lq 10, li x1, li r9, none, none]) hX dM_confirmed_39 rfl (by decide) rfl ?_
      refine k_aload_n hX dM_confirmed_40 rfl ?_
      refine k_iload_n hX dM_confirmed_41 rfl ?_
      refine k_iconst hX dM_confirmed_42 ?_
      refine k_iadd hX dM_confirmed_43 ?_
      refine cl_139 hX (by decide) (Nat.le_of_ble_eq_true rfl) dM_confirmed_44 (fun r11 τ10 => ?_)
      refine k_istore_n (L' := [lq 10, li x1, li r9, li r11, none]) hX dM_confirmed_47 rfl (by decide) rfl ?_
      refine k_iload_n hX dM_confirmed_48 rfl ?_
      refine k_istore (L' := [lq 10, li x1, li r9, li r11, li r9]) hX dM_confirmed_49 rfl (by decide) rfl ?_
      refine k_less [true, false, true, true, true] (L' := [lq 10, none, li r9, li r11, li r9]) rfl ?_
      exact tM_confirmed_L51 hX hR r9 r11 r9 τ10 hT
    · refine k_bipush hX dM_confirmed_31 (by decide) ?_
      exact k_iret hX hR hT dM_confirmed_33
  · refine k_bipush hX dM_confirmed_12 (by decide) ?_
    exact k_iret hX hR hT dM_confirmed_14
theorem dM_cost_0 : decode prog_11_method_58_code 0 = .ok (.aload_n 0, 1) := by decide +kernel
theorem dM_cost_1 : decode prog_11_method_58_code 1 = .ok (.iconst 0, 1) := by decide +kernel
theorem dM_cost_2 : decode prog_11_method_58_code 2 = .ok (.putfield 1, 3) := by decide +kernel
theorem dM_cost_5 : decode prog_11_method_58_code 5 = .ok (.aload_n 0, 1) := by decide +kernel
theorem dM_cost_6 : decode prog_11_method_58_code 6 = .ok (.invokevirtual 287, 3) := by decide +kernel
theorem dM_cost_9 : decode prog_11_method_58_code 9 = .ok (.ifCond .eq 10, 3) := by decide +kernel
theorem dM_cost_12 : decode prog_11_method_58_code 12 = .ok (.aload_n 0, 1) := by decide +kernel
theorem dM_cost_13 : decode prog_11_method_58_code 13 = .ok (.getfield 278, 3) := by decide +kernel
theorem dM_cost_16 : decode prog_11_method_58_code 16 = .ok (.goto 5, 3) := by decide +kernel
theorem dM_cost_19 : decode prog_11_method_58_code 19 = .ok (.bipush (-5), 2) := by decide +kernel
theorem dM_cost_21 : decode prog_11_method_58_code 21 = .ok (.ireturn, 1) := by decide +kernel
set_option maxRecDepth 100000 in
set_option maxHeartbeats 4000000 in
theorem tM_cost_J21 {X : KC} {q : Int × KM} (hX : kOk X 6 prog_11_method_58_code 1 "KeyPathModel") (hR : kRet X (some .int) q) (t0 : Int) (σ : KM) {Θ : (Int × KM) → Prop} (hT : ∀ z, Θ (z) → z = q) : kJ X 21 [lq 10] [ki t0] σ (fM_cost_J21 t0 σ) Θ := by
  exact k_iret hX hR hT dM_cost_21
set_option maxRecDepth 100000 in
set_option maxHeartbeats 4000000 in
theorem sM_cost (σ : KM) : kSem 6 (⟨"KeyPathModel", "cost", "()I"⟩ : MethodName) prog_11_method_58_code 1 (some .int) [kr 10] σ (fM_cost σ) := by
  refine kSem.of (L0 := [lq 10]) (by decide) (Nat.le_of_ble_eq_true rfl) rfl (fun X q hX hR => ?_)
  have hT : ∀ z : Int × KM, (fun z => z = q) z → z = q := fun _ h => h
  refine k_aload_n hX dM_cost_0 rfl ?_
  refine k_iconst hX dM_cost_1 ?_
  refine gp_157 hX dM_cost_2 (fun τ1 => ?_)
  refine k_aload_n hX dM_cost_5 rfl ?_
  refine cl_136 hX (by decide) (Nat.le_of_ble_eq_true rfl) dM_cost_6 (fun r3 τ2 => ?_)
  refine k_if_eq (tgt := 19) hX dM_cost_9 (by decide) ?_ ?_
  · refine k_bipush hX dM_cost_19 (by decide) ?_
    exact tM_cost_J21 hX hR (-5) τ2 hT
  · refine k_aload_n hX dM_cost_12 rfl ?_
    refine gf_181 hX dM_cost_13 ?_
    refine k_goto (tgt := 21) hX dM_cost_16 (by decide) ?_
    exact tM_cost_J21 hX hR (τ2 10 38) τ2 hT
theorem dM_count_0 : decode prog_11_method_91_code 0 = .ok (.aload_n 0, 1) := by decide +kernel
theorem dM_count_1 : decode prog_11_method_91_code 1 = .ok (.iconst 0, 1) := by decide +kernel
theorem dM_count_2 : decode prog_11_method_91_code 2 = .ok (.putfield 1, 3) := by decide +kernel
theorem dM_count_5 : decode prog_11_method_91_code 5 = .ok (.iload_n 1, 1) := by decide +kernel
theorem dM_count_6 : decode prog_11_method_91_code 6 = .ok (.tableswitch 157 0 11 #[62, 67, 72, 77, 82, 87, 92, 97, 137, 142, 147, 152], 62) := by decide +kernel
theorem dM_count_68 : decode prog_11_method_91_code 68 = .ok (.aload_n 0, 1) := by decide +kernel
theorem dM_count_69 : decode prog_11_method_91_code 69 = .ok (.getfield 169, 3) := by decide +kernel
theorem dM_count_72 : decode prog_11_method_91_code 72 = .ok (.ireturn, 1) := by decide +kernel
theorem dM_count_73 : decode prog_11_method_91_code 73 = .ok (.aload_n 0, 1) := by decide +kernel
theorem dM_count_74 : decode prog_11_method_91_code 74 = .ok (.invokevirtual 202, 3) := by decide +kernel
theorem dM_count_77 : decode prog_11_method_91_code 77 = .ok (.ireturn, 1) := by decide +kernel
theorem dM_count_78 : decode prog_11_method_91_code 78 = .ok (.aload_n 0, 1) := by decide +kernel
theorem dM_count_79 : decode prog_11_method_91_code 79 = .ok (.invokevirtual 192, 3) := by decide +kernel
theorem dM_count_82 : decode prog_11_method_91_code 82 = .ok (.ireturn, 1) := by decide +kernel
theorem dM_count_83 : decode prog_11_method_91_code 83 = .ok (.aload_n 0, 1) := by decide +kernel
theorem dM_count_84 : decode prog_11_method_91_code 84 = .ok (.getfield 176, 3) := by decide +kernel
theorem dM_count_87 : decode prog_11_method_91_code 87 = .ok (.ireturn, 1) := by decide +kernel
theorem dM_count_88 : decode prog_11_method_91_code 88 = .ok (.aload_n 0, 1) := by decide +kernel
theorem dM_count_89 : decode prog_11_method_91_code 89 = .ok (.getfield 106, 3) := by decide +kernel
theorem dM_count_92 : decode prog_11_method_91_code 92 = .ok (.ireturn, 1) := by decide +kernel
theorem dM_count_93 : decode prog_11_method_91_code 93 = .ok (.aload_n 0, 1) := by decide +kernel
theorem dM_count_94 : decode prog_11_method_91_code 94 = .ok (.getfield 35, 3) := by decide +kernel
theorem dM_count_97 : decode prog_11_method_91_code 97 = .ok (.ireturn, 1) := by decide +kernel
theorem dM_count_98 : decode prog_11_method_91_code 98 = .ok (.aload_n 0, 1) := by decide +kernel
theorem dM_count_99 : decode prog_11_method_91_code 99 = .ok (.getfield 38, 3) := by decide +kernel
theorem dM_count_102 : decode prog_11_method_91_code 102 = .ok (.ireturn, 1) := by decide +kernel
theorem dM_count_103 : decode prog_11_method_91_code 103 = .ok (.iconst 0, 1) := by decide +kernel
theorem dM_count_104 : decode prog_11_method_91_code 104 = .ok (.istore_n 2, 1) := by decide +kernel
theorem dM_count_105 : decode prog_11_method_91_code 105 = .ok (.iconst 0, 1) := by decide +kernel
theorem dM_count_106 : decode prog_11_method_91_code 106 = .ok (.istore_n 3, 1) := by decide +kernel
theorem dM_count_107 : decode prog_11_method_91_code 107 = .ok (.iload_n 3, 1) := by decide +kernel
theorem dM_count_108 : decode prog_11_method_91_code 108 = .ok (.aload_n 0, 1) := by decide +kernel
theorem dM_count_109 : decode prog_11_method_91_code 109 = .ok (.invokevirtual 202, 3) := by decide +kernel
theorem dM_count_112 : decode prog_11_method_91_code 112 = .ok (.if_icmp .ge 29, 3) := by decide +kernel
theorem dM_count_115 : decode prog_11_method_91_code 115 = .ok (.aload_n 0, 1) := by decide +kernel
theorem dM_count_116 : decode prog_11_method_91_code 116 = .ok (.iload_n 3, 1) := by decide +kernel
theorem dM_count_117 : decode prog_11_method_91_code 117 = .ok (.invokevirtual 232, 3) := by decide +kernel
theorem dM_count_120 : decode prog_11_method_91_code 120 = .ok (.iload_n 2, 1) := by decide +kernel
theorem dM_count_121 : decode prog_11_method_91_code 121 = .ok (.aload_n 0, 1) := by decide +kernel
theorem dM_count_122 : decode prog_11_method_91_code 122 = .ok (.getfield 223, 3) := by decide +kernel
theorem dM_count_125 : decode prog_11_method_91_code 125 = .ok (.ifCond .ne 7, 3) := by decide +kernel
theorem dM_count_128 : decode prog_11_method_91_code 128 = .ok (.iconst 1, 1) := by decide +kernel
theorem dM_count_129 : decode prog_11_method_91_code 129 = .ok (.goto 4, 3) := by decide +kernel
theorem dM_count_132 : decode prog_11_method_91_code 132 = .ok (.iconst 0, 1) := by decide +kernel
theorem dM_count_133 : decode prog_11_method_91_code 133 = .ok (.iadd, 1) := by decide +kernel
theorem dM_count_134 : decode prog_11_method_91_code 134 = .ok (.istore_n 2, 1) := by decide +kernel
theorem dM_count_135 : decode prog_11_method_91_code 135 = .ok (.iinc 3 1, 3) := by decide +kernel
theorem dM_count_138 : decode prog_11_method_91_code 138 = .ok (.goto (-31), 3) := by decide +kernel
theorem dM_count_141 : decode prog_11_method_91_code 141 = .ok (.iload_n 2, 1) := by decide +kernel
theorem dM_count_142 : decode prog_11_method_91_code 142 = .ok (.ireturn, 1) := by decide +kernel
theorem dM_count_143 : decode prog_11_method_91_code 143 = .ok (.aload_n 0, 1) := by decide +kernel
theorem dM_count_144 : decode prog_11_method_91_code 144 = .ok (.getfield 41, 3) := by decide +kernel
theorem dM_count_147 : decode prog_11_method_91_code 147 = .ok (.ireturn, 1) := by decide +kernel
theorem dM_count_148 : decode prog_11_method_91_code 148 = .ok (.aload_n 0, 1) := by decide +kernel
theorem dM_count_149 : decode prog_11_method_91_code 149 = .ok (.getfield 44, 3) := by decide +kernel
theorem dM_count_152 : decode prog_11_method_91_code 152 = .ok (.ireturn, 1) := by decide +kernel
theorem dM_count_153 : decode prog_11_method_91_code 153 = .ok (.aload_n 0, 1) := by decide +kernel
theorem dM_count_154 : decode prog_11_method_91_code 154 = .ok (.getfield 47, 3) := by decide +kernel
theorem dM_count_157 : decode prog_11_method_91_code 157 = .ok (.ireturn, 1) := by decide +kernel
theorem dM_count_158 : decode prog_11_method_91_code 158 = .ok (.aload_n 0, 1) := by decide +kernel
theorem dM_count_159 : decode prog_11_method_91_code 159 = .ok (.getfield 50, 3) := by decide +kernel
theorem dM_count_162 : decode prog_11_method_91_code 162 = .ok (.ireturn, 1) := by decide +kernel
theorem dM_count_163 : decode prog_11_method_91_code 163 = .ok (.iconst (-1), 1) := by decide +kernel
theorem dM_count_164 : decode prog_11_method_91_code 164 = .ok (.ireturn, 1) := by decide +kernel
set_option maxRecDepth 100000 in
set_option maxHeartbeats 4000000 in
theorem tM_count_J141 {X : KC} {q : Int × KM} (hX : kOk X 4 prog_11_method_91_code 4 "KeyPathModel") (hR : kRet X (some .int) q) (x2 : Int) (σ : KM) {Θ : (Int × KM) → Prop} (hT : ∀ z, Θ (z) → z = q) : kJ X 141 [lq 10, none, li x2, none] [] σ (fM_count_J141 x2 σ) Θ := by
  refine k_iload_n hX dM_count_141 rfl ?_
  exact k_iret hX hR hT dM_count_142
set_option maxRecDepth 100000 in
set_option maxHeartbeats 4000000 in
theorem tM_count_J133 {X : KC} {q : Int × KM} (hX : kOk X 4 prog_11_method_91_code 4 "KeyPathModel") (hR : kRet X (some .int) q) (x3 t0 t1 : Int) (σ : KM) {Θ : ((Int × Int × KM) ⊕ (Int × KM)) → Prop} (hT : ∀ z, Θ (.inr (z)) → z = q) (hb0 : ∀ s : Int × Int × KM, Θ (.inl s) → kW X 107 [lq 10, none, li s.1, li s.2.1] [] s.2.2) : kJ X 133 [lq 10, none, none, li x3] [ki t0, ki t1] σ (fM_count_J133 x3 t0 t1 σ) Θ := by
  refine k_iadd hX dM_count_133 ?_
  refine k_istoreL_n (Lf := fun y1 => [lq 10, none, li y1, li x3]) hX dM_count_134 rfl (by decide) (fun _ => rfl) (fun y1 => ?_)
  refine k_iincL (Lf := fun y2 => [lq 10, none, li y1, li y2]) hX dM_count_135 rfl (by decide) rfl (fun _ => rfl) (fun y2 => ?_)
  refine k_goto (tgt := 107) hX dM_count_138 (by decide) ?_
  exact k_back (hb0 (y1, y2, σ))
set_option maxRecDepth 100000 in
set_option maxHeartbeats 4000000 in
theorem tM_count_B107 {X : KC} {q : Int × KM} (hX : kOk X 4 prog_11_method_91_code 4 "KeyPathModel") (hR : kRet X (some .int) q) (x2 x3 : Int) (σ : KM) {Θ : ((Int × Int × KM) ⊕ (Int × KM)) → Prop} (hT : ∀ z, Θ (.inr (z)) → z = q) (hb0 : ∀ s : Int × Int × KM, Θ (.inl s) → kW X 107 [lq 10, none, li s.1, li s.2.1] [] s.2.2) : kJ X 107 [lq 10, none, li x2, li x3] [] σ (fM_count_B107 x2 x3 σ) Θ := by
  refine k_iload_n hX dM_count_107 rfl ?_
  refine k_aload_n hX dM_count_108 rfl ?_
  refine cl_119 hX (by decide) (Nat.le_of_ble_eq_true rfl) dM_count_109 (fun r2 τ1 => ?_)
  refine k_icmp_ge (tgt := 141) hX dM_count_112 (by decide) ?_ ?_
  · refine k_exit ?_
    refine k_less [true, true, true, false] (L' := [lq 10, none, li x2, none]) rfl ?_
    exact tM_count_J141 hX hR x2 τ1 hT
  · refine k_aload_n hX dM_count_115 rfl ?_
    refine k_iload_n hX dM_count_116 rfl ?_
    refine cl_123 hX (by decide) (Nat.le_of_ble_eq_true rfl) dM_count_117 (fun _ τ3 => ?_)
    refine k_iload_n hX dM_count_120 rfl ?_
    refine k_aload_n hX dM_count_121 rfl ?_
    refine gf_166 hX dM_count_122 ?_
    refine k_if_ne (tgt := 132) hX dM_count_125 (by decide) ?_ ?_
    · refine k_iconst hX dM_count_132 ?_
      refine k_less [true, true, false, true] (L' := [lq 10, none, none, li x3]) rfl ?_
      exact tM_count_J133 hX hR x3 0 x2 τ3 hT hb0
    · refine k_iconst hX dM_count_128 ?_
      refine k_goto (tgt := 133) hX dM_count_129 (by decide) ?_
      refine k_less [true, true, false, true] (L' := [lq 10, none, none, li x3]) rfl ?_
      exact tM_count_J133 hX hR x3 1 x2 τ3 hT hb0
set_option maxRecDepth 100000 in
set_option maxHeartbeats 4000000 in
theorem tM_count_L107 {X : KC} {q : Int × KM} (hX : kOk X 4 prog_11_method_91_code 4 "KeyPathModel") (hR : kRet X (some .int) q) (x2 x3 : Int) (σ : KM) {Θ : (Int × KM) → Prop} (hT : ∀ z, Θ (z) → z = q) : kJ X 107 [lq 10, none, li x2, li x3] [] σ (fM_count_L107 x2 x3 σ) Θ :=
  k_iter (f := fun s => fM_count_B107 s.1 s.2.1 s.2.2) (Lf := fun s => [lq 10, none, li s.1, li s.2.1]) (mf := fun s => s.2.2) (Θ := Θ) (fun s => tM_count_B107 hX hR s.1 s.2.1 s.2.2 hT (fun _ h9 => h9)) kF (x2, x3, σ)
set_option maxRecDepth 100000 in
set_option maxHeartbeats 4000000 in
theorem sM_count (x1 : Int) (σ : KM) : kSem 4 (⟨"KeyPathModel", "count", "(I)I"⟩ : MethodName) prog_11_method_91_code 4 (some .int) [kr 10, ki x1] σ (fM_count x1 σ) := by
  refine kSem.of (L0 := [lq 10, li x1, none, none]) (by decide) (Nat.le_of_ble_eq_true rfl) rfl (fun X q hX hR => ?_)
  have hT : ∀ z : Int × KM, (fun z => z = q) z → z = q := fun _ h => h
  refine k_aload_n hX dM_count_0 rfl ?_
  refine k_iconst hX dM_count_1 ?_
  refine gp_157 hX dM_count_2 (fun τ1 => ?_)
  refine k_iload_n hX dM_count_5 rfl ?_
  refine k_tsw (ts := [68, 73, 78, 83, 88, 93, 98, 103, 143, 148, 153, 158]) (te := 163) hX dM_count_6 (by decide) (by decide) rfl (by decide) (k_ts_c ?_ (k_ts_c ?_ (k_ts_c ?_ (k_ts_c ?_ (k_ts_c ?_ (k_ts_c ?_ (k_ts_c ?_ (k_ts_c ?_ (k_ts_c ?_ (k_ts_c ?_ (k_ts_c ?_ (k_ts_c ?_ (k_ts_n))))))))))))) ?_
  · refine k_aload_n hX dM_count_68 rfl ?_
    refine gf_159 hX dM_count_69 ?_
    exact k_iret hX hR hT dM_count_72
  · refine k_aload_n hX dM_count_73 rfl ?_
    refine cl_119 hX (by decide) (Nat.le_of_ble_eq_true rfl) dM_count_74 (fun r3 τ2 => ?_)
    exact k_iret hX hR hT dM_count_77
  · refine k_aload_n hX dM_count_78 rfl ?_
    refine cl_117 hX (by decide) (Nat.le_of_ble_eq_true rfl) dM_count_79 (fun r5 τ4 => ?_)
    exact k_iret hX hR hT dM_count_82
  · refine k_aload_n hX dM_count_83 rfl ?_
    refine gf_185 hX dM_count_84 ?_
    exact k_iret hX hR hT dM_count_87
  · refine k_aload_n hX dM_count_88 rfl ?_
    refine gf_186 hX dM_count_89 ?_
    exact k_iret hX hR hT dM_count_92
  · refine k_aload_n hX dM_count_93 rfl ?_
    refine gf_162 hX dM_count_94 ?_
    exact k_iret hX hR hT dM_count_97
  · refine k_aload_n hX dM_count_98 rfl ?_
    refine gf_158 hX dM_count_99 ?_
    exact k_iret hX hR hT dM_count_102
  · refine k_iconst hX dM_count_103 ?_
    refine k_istore_n (L' := [lq 10, li x1, li 0, none]) hX dM_count_104 rfl (by decide) rfl ?_
    refine k_iconst hX dM_count_105 ?_
    refine k_istore_n (L' := [lq 10, li x1, li 0, li 0]) hX dM_count_106 rfl (by decide) rfl ?_
    refine k_less [true, false, true, true] (L' := [lq 10, none, li 0, li 0]) rfl ?_
    exact tM_count_L107 hX hR 0 0 τ1 hT
  · refine k_aload_n hX dM_count_143 rfl ?_
    refine gf_171 hX dM_count_144 ?_
    exact k_iret hX hR hT dM_count_147
  · refine k_aload_n hX dM_count_148 rfl ?_
    refine gf_170 hX dM_count_149 ?_
    exact k_iret hX hR hT dM_count_152
  · refine k_aload_n hX dM_count_153 rfl ?_
    refine gf_169 hX dM_count_154 ?_
    exact k_iret hX hR hT dM_count_157
  · refine k_aload_n hX dM_count_158 rfl ?_
    refine gf_179 hX dM_count_159 ?_
    exact k_iret hX hR hT dM_count_162
  · refine k_iconst hX dM_count_163 ?_
    exact k_iret hX hR hT dM_count_164
theorem dM_isTriad_0 : decode prog_11_method_76_code 0 = .ok (.iload_n 0, 1) := by decide +kernel
theorem dM_isTriad_1 : decode prog_11_method_76_code 1 = .ok (.i2l, 1) := by decide +kernel
theorem dM_isTriad_2 : decode prog_11_method_76_code 2 = .ok (.lconst 0, 1) := by decide +kernel
theorem dM_isTriad_3 : decode prog_11_method_76_code 3 = .ok (.ldc2_w 312, 3) := by decide +kernel
theorem dM_isTriad_6 : decode prog_11_method_76_code 6 = .ok (.invokestatic 134, 3) := by decide +kernel
theorem dM_isTriad_9 : decode prog_11_method_76_code 9 = .ok (.ireturn, 1) := by decide +kernel
set_option maxRecDepth 100000 in
set_option maxHeartbeats 4000000 in
theorem sM_isTriad (x0 : Int) (σ : KM) : kSem 2 (⟨"KeyPathModel", "isTriad", "(I)Z"⟩ : MethodName) prog_11_method_76_code 1 (some .boolean) [ki x0] σ (fM_isTriad x0 σ) := by
  refine kSem.of (L0 := [li x0]) (by decide) (Nat.le_of_ble_eq_true rfl) rfl (fun X q hX hR => ?_)
  have hT : ∀ z : Int × KM, (fun z => z = q) z → z = q := fun _ h => h
  refine k_iload_n hX dM_isTriad_0 rfl ?_
  refine k_i2l hX dM_isTriad_1 ?_
  refine k_lconst0 hX dM_isTriad_2 ?_
  refine k_ldc2 (v := 35) hX dM_isTriad_3 tw_1422 ?_
  refine cl_120 hX (by decide) (Nat.le_of_ble_eq_true rfl) dM_isTriad_6 (fun r2 τ1 => ?_)
  exact k_zret hX hR hT dM_isTriad_9
theorem cl_142 {X : KC} {d n : Nat} {cc : ByteArray} {pc : Nat} {L : List (Option KV)} {st : List KV} {σ : KM} {Z : Type} {Θ : Z → Prop} {G : Int → KM → Option Z} {x0 : Int} (hX : kOk X d cc n "KeyPathModel") (hdd : 2 + 1 ≤ d) (hst : k_cat st ≤ 8) (hd : decode cc pc = .ok (.invokestatic 314, 3)) (h : ∀ r τ, kJ X (pc + 3) L (ki r :: st) τ (G r τ) Θ) : kJ X pc L (ki x0 :: st) σ (kCall (fM_isTriad x0 σ) G) Θ :=
  k_callS (np := 1) (av := [ki x0]) (ret := (some .boolean)) hX (sM_isTriad _ σ) ⟨⟨hdd, by decide⟩, tw_1421, tw_11, by decide +kernel⟩ rfl tw_1419 tw_1420 hst hd h
theorem dM_isKey_0 : decode prog_11_method_30_code 0 = .ok (.iload_n 0, 1) := by decide +kernel
theorem dM_isKey_1 : decode prog_11_method_30_code 1 = .ok (.i2l, 1) := by decide +kernel
theorem dM_isKey_2 : decode prog_11_method_30_code 2 = .ok (.lconst 0, 1) := by decide +kernel
theorem dM_isKey_3 : decode prog_11_method_30_code 3 = .ok (.ldc2_w 216, 3) := by decide +kernel
theorem dM_isKey_6 : decode prog_11_method_30_code 6 = .ok (.invokestatic 134, 3) := by decide +kernel
theorem dM_isKey_9 : decode prog_11_method_30_code 9 = .ok (.ireturn, 1) := by decide +kernel
set_option maxRecDepth 100000 in
set_option maxHeartbeats 4000000 in
theorem sM_isKey (x0 : Int) (σ : KM) : kSem 2 (⟨"KeyPathModel", "isKey", "(I)Z"⟩ : MethodName) prog_11_method_30_code 1 (some .boolean) [ki x0] σ (fM_isKey x0 σ) := by
  refine kSem.of (L0 := [li x0]) (by decide) (Nat.le_of_ble_eq_true rfl) rfl (fun X q hX hR => ?_)
  have hT : ∀ z : Int × KM, (fun z => z = q) z → z = q := fun _ h => h
  refine k_iload_n hX dM_isKey_0 rfl ?_
  refine k_i2l hX dM_isKey_1 ?_
  refine k_lconst0 hX dM_isKey_2 ?_
  refine k_ldc2 (v := 23) hX dM_isKey_3 tw_1242 ?_
  refine cl_120 hX (by decide) (Nat.le_of_ble_eq_true rfl) dM_isKey_6 (fun r2 τ1 => ?_)
  exact k_zret hX hR hT dM_isKey_9
theorem cl_143 {X : KC} {d n : Nat} {cc : ByteArray} {pc : Nat} {L : List (Option KV)} {st : List KV} {σ : KM} {Z : Type} {Θ : Z → Prop} {G : Int → KM → Option Z} {x0 : Int} (hX : kOk X d cc n "KeyPathModel") (hdd : 2 + 1 ≤ d) (hst : k_cat st ≤ 8) (hd : decode cc pc = .ok (.invokestatic 220, 3)) (h : ∀ r τ, kJ X (pc + 3) L (ki r :: st) τ (G r τ) Θ) : kJ X pc L (ki x0 :: st) σ (kCall (fM_isKey x0 σ) G) Θ :=
  k_callS (np := 1) (av := [ki x0]) (ret := (some .boolean)) hX (sM_isKey _ σ) ⟨⟨hdd, by decide⟩, tw_1241, tw_11, by decide +kernel⟩ rfl tw_1239 tw_1240 hst hd h
theorem dM_degree_0 : decode prog_11_method_77_code 0 = .ok (.aload_n 0, 1) := by decide +kernel
theorem dM_degree_1 : decode prog_11_method_77_code 1 = .ok (.iconst 0, 1) := by decide +kernel
theorem dM_degree_2 : decode prog_11_method_77_code 2 = .ok (.putfield 1, 3) := by decide +kernel
theorem dM_degree_5 : decode prog_11_method_77_code 5 = .ok (.iload_n 1, 1) := by decide +kernel
theorem dM_degree_6 : decode prog_11_method_77_code 6 = .ok (.invokestatic 314, 3) := by decide +kernel
theorem dM_degree_9 : decode prog_11_method_77_code 9 = .ok (.ifCond .eq 18, 3) := by decide +kernel
theorem dM_degree_12 : decode prog_11_method_77_code 12 = .ok (.iload_n 2, 1) := by decide +kernel
theorem dM_degree_13 : decode prog_11_method_77_code 13 = .ok (.invokestatic 220, 3) := by decide +kernel
theorem dM_degree_16 : decode prog_11_method_77_code 16 = .ok (.ifCond .eq 11, 3) := by decide +kernel
theorem dM_degree_19 : decode prog_11_method_77_code 19 = .ok (.iload_n 1, 1) := by decide +kernel
theorem dM_degree_20 : decode prog_11_method_77_code 20 = .ok (.iload_n 2, 1) := by decide +kernel
theorem dM_degree_21 : decode prog_11_method_77_code 21 = .ok (.invokestatic 317, 3) := by decide +kernel
theorem dM_degree_24 : decode prog_11_method_77_code 24 = .ok (.goto 5, 3) := by decide +kernel
theorem dM_degree_27 : decode prog_11_method_77_code 27 = .ok (.bipush (-2), 2) := by decide +kernel
theorem dM_degree_29 : decode prog_11_method_77_code 29 = .ok (.ireturn, 1) := by decide +kernel
set_option maxRecDepth 100000 in
set_option maxHeartbeats 4000000 in
theorem tM_degree_J29 {X : KC} {q : Int × KM} (hX : kOk X 3 prog_11_method_77_code 3 "KeyPathModel") (hR : kRet X (some .int) q) (t0 : Int) (σ : KM) {Θ : (Int × KM) → Prop} (hT : ∀ z, Θ (z) → z = q) : kJ X 29 [lq 10, none, none] [ki t0] σ (fM_degree_J29 t0 σ) Θ := by
  exact k_iret hX hR hT dM_degree_29
set_option maxRecDepth 100000 in
set_option maxHeartbeats 4000000 in
theorem tM_degree_J27 {X : KC} {q : Int × KM} (hX : kOk X 3 prog_11_method_77_code 3 "KeyPathModel") (hR : kRet X (some .int) q) (σ : KM) {Θ : (Int × KM) → Prop} (hT : ∀ z, Θ (z) → z = q) : kJ X 27 [lq 10, none, none] [] σ (fM_degree_J27 σ) Θ := by
  refine k_bipush hX dM_degree_27 (by decide) ?_
  exact tM_degree_J29 hX hR (-2) σ hT
set_option maxRecDepth 100000 in
set_option maxHeartbeats 4000000 in
theorem sM_degree (x1 x2 : Int) (σ : KM) : kSem 3 (⟨"KeyPathModel", "degree", "(II)I"⟩ : MethodName) prog_11_method_77_code 3 (some .int) [kr 10, ki x1, ki x2] σ (fM_degree x1 x2 σ) := by
  refine kSem.of (L0 := [lq 10, li x1, li x2]) (by decide) (Nat.le_of_ble_eq_true rfl) rfl (fun X q hX hR => ?_)
  have hT : ∀ z : Int × KM, (fun z => z = q) z → z = q := fun _ h => h
  refine k_aload_n hX dM_degree_0 rfl ?_
  refine k_iconst hX dM_degree_1 ?_
  refine gp_157 hX dM_degree_2 (fun τ1 => ?_)
  refine k_iload_n hX dM_degree_5 rfl ?_
  refine cl_142 hX (by decide) (Nat.le_of_ble_eq_true rfl) dM_degree_6 (fun r3 τ2 => ?_)
  refine k_if_eq (tgt := 27) hX dM_degree_9 (by decide) ?_ ?_
  · refine k_less [true, false, false] (L' := [lq 10, none, none]) rfl ?_
    exact tM_degree_J27 hX hR τ2 hT
  · refine k_iload_n hX dM_degree_12 rfl ?_
    refine cl_143 hX (by decide) (Nat.le_of_ble_eq_true rfl) dM_degree_13 (fun r5 τ4 => ?_)
    refine k_if_eq (tgt := 27) hX dM_degree_16 (by decide) ?_ ?_
    · refine k_less [true, false, false] (L' := [lq 10, none, none]) rfl ?_
      exact tM_degree_J27 hX hR τ4 hT
    · refine k_iload_n hX dM_degree_19 rfl ?_
      refine k_iload_n hX dM_degree_20 rfl ?_
      refine cl_137 hX (by decide) (Nat.le_of_ble_eq_true rfl) dM_degree_21 (fun r7 τ6 => ?_)
      refine k_goto (tgt := 29) hX dM_degree_24 (by decide) ?_
      refine k_less [true, false, false] (L' := [lq 10, none, none]) rfl ?_
      exact tM_degree_J29 hX hR r7 τ6 hT
theorem dM_distance_0 : decode prog_11_method_51_code 0 = .ok (.aload_n 0, 1) := by decide +kernel
theorem dM_distance_1 : decode prog_11_method_51_code 1 = .ok (.iconst 0, 1) := by decide +kernel
theorem dM_distance_2 : decode prog_11_method_51_code 2 = .ok (.putfield 1, 3) := by decide +kernel
theorem dM_distance_5 : decode prog_11_method_51_code 5 = .ok (.iload_n 1, 1) := by decide +kernel
theorem dM_distance_6 : decode prog_11_method_51_code 6 = .ok (.invokestatic 220, 3) := by decide +kernel
theorem dM_distance_9 : decode prog_11_method_51_code 9 = .ok (.ifCond .eq 10, 3) := by decide +kernel
theorem dM_distance_12 : decode prog_11_method_51_code 12 = .ok (.iload_n 2, 1) := by decide +kernel
theorem dM_distance_13 : decode prog_11_method_51_code 13 = .ok (.invokestatic 220, 3) := by decide +kernel
theorem dM_distance_16 : decode prog_11_method_51_code 16 = .ok (.ifCond .ne 6, 3) := by decide +kernel
theorem dM_distance_19 : decode prog_11_method_51_code 19 = .ok (.bipush (-2), 2) := by decide +kernel
theorem dM_distance_21 : decode prog_11_method_51_code 21 = .ok (.ireturn, 1) := by decide +kernel
theorem dM_distance_22 : decode prog_11_method_51_code 22 = .ok (.aload_n 0, 1) := by decide +kernel
theorem dM_distance_23 : decode prog_11_method_51_code 23 = .ok (.iload_n 2, 1) := by decide +kernel
theorem dM_distance_24 : decode prog_11_method_51_code 24 = .ok (.invokevirtual 261, 3) := by decide +kernel
theorem dM_distance_27 : decode prog_11_method_51_code 27 = .ok (.aload_n 0, 1) := by decide +kernel
theorem dM_distance_28 : decode prog_11_method_51_code 28 = .ok (.getfield 69, 3) := by decide +kernel
theorem dM_distance_31 : decode prog_11_method_51_code 31 = .ok (.iload_n 1, 1) := by decide +kernel
theorem dM_distance_32 : decode prog_11_method_51_code 32 = .ok (.iaload, 1) := by decide +kernel
theorem dM_distance_33 : decode prog_11_method_51_code 33 = .ok (.aload_n 0, 1) := by decide +kernel
theorem dM_distance_34 : decode prog_11_method_51_code 34 = .ok (.getfield 50, 3) := by decide +kernel
theorem dM_distance_37 : decode prog_11_method_51_code 37 = .ok (.imul, 1) := by decide +kernel
theorem dM_distance_38 : decode prog_11_method_51_code 38 = .ok (.ireturn, 1) := by decide +kernel
set_option maxRecDepth 100000 in
set_option maxHeartbeats 4000000 in
theorem tM_distance_J19 {X : KC} {q : Int × KM} (hX : kOk X 3 prog_11_method_51_code 3 "KeyPathModel") (hR : kRet X (some .int) q) (σ : KM) {Θ : (Int × KM) → Prop} (hT : ∀ z, Θ (z) → z = q) : kJ X 19 [lq 10, none, none] [] σ (fM_distance_J19 σ) Θ := by
  refine k_bipush hX dM_distance_19 (by decide) ?_
  exact k_iret hX hR hT dM_distance_21
set_option maxRecDepth 100000 in
set_option maxHeartbeats 4000000 in
theorem sM_distance (x1 x2 : Int) (σ : KM) : kSem 3 (⟨"KeyPathModel", "distance", "(II)I"⟩ : MethodName) prog_11_method_51_code 3 (some .int) [kr 10, ki x1, ki x2] σ (fM_distance x1 x2 σ) := by
  refine kSem.of (L0 := [lq 10, li x1, li x2]) (by decide) (Nat.le_of_ble_eq_true rfl) rfl (fun X q hX hR => ?_)
  have hT : ∀ z : Int × KM, (fun z => z = q) z → z = q := fun _ h => h
  refine k_aload_n hX dM_distance_0 rfl ?_
  refine k_iconst hX dM_distance_1 ?_
  refine gp_157 hX dM_distance_2 (fun τ1 => ?_)
  refine k_iload_n hX dM_distance_5 rfl ?_
  refine cl_143 hX (by decide) (Nat.le_of_ble_eq_true rfl) dM_distance_6 (fun r3 τ2 => ?_)
  refine k_if_eq (tgt := 19) hX dM_distance_9 (by decide) ?_ ?_
  · refine k_less [true, false, false] (L' := [lq 10, none, none]) rfl ?_
    exact tM_distance_J19 hX hR τ2 hT
  · refine k_iload_n hX dM_distance_12 rfl ?_
    refine cl_143 hX (by decide) (Nat.le_of_ble_eq_true rfl) dM_distance_13 (fun r5 τ4 => ?_)
    refine k_if_ne (tgt := 22) hX dM_distance_16 (by decide) ?_ ?_
    · refine k_aload_n hX dM_distance_22 rfl ?_
      refine k_iload_n hX dM_distance_23 rfl ?_
      refine cl_128 hX (by decide) (Nat.le_of_ble_eq_true rfl) dM_distance_24 (fun _ τ6 => ?_)
      refine k_aload_n hX dM_distance_27 rfl ?_
      refine gf_167 hX dM_distance_28 ?_
      refine k_iload_n hX dM_distance_31 rfl ?_
      refine k_iald hX (by decide) rfl dM_distance_32 rfl (fun y7 => ?_)
      refine k_aload_n hX dM_distance_33 rfl ?_
      refine gf_179 hX dM_distance_34 ?_
      refine k_imul hX dM_distance_37 ?_
      exact k_iret hX hR hT dM_distance_38
    · refine k_less [true, false, false] (L' := [lq 10, none, none]) rfl ?_
      exact tM_distance_J19 hX hR τ4 hT
theorem dM_isNote_0 : decode prog_11_method_18_code 0 = .ok (.iload_n 1, 1) := by decide +kernel
theorem dM_isNote_1 : decode prog_11_method_18_code 1 = .ok (.i2l, 1) := by decide +kernel
theorem dM_isNote_2 : decode prog_11_method_18_code 2 = .ok (.lconst 0, 1) := by decide +kernel
theorem dM_isNote_3 : decode prog_11_method_18_code 3 = .ok (.aload_n 0, 1) := by decide +kernel
theorem dM_isNote_4 : decode prog_11_method_18_code 4 = .ok (.getfield 169, 3) := by decide +kernel
theorem dM_isNote_7 : decode prog_11_method_18_code 7 = .ok (.iconst 1, 1) := by decide +kernel
theorem dM_isNote_8 : decode prog_11_method_18_code 8 = .ok (.isub, 1) := by decide +kernel
theorem dM_isNote_9 : decode prog_11_method_18_code 9 = .ok (.i2l, 1) := by decide +kernel
theorem dM_isNote_10 : decode prog_11_method_18_code 10 = .ok (.invokestatic 134, 3) := by decide +kernel
theorem dM_isNote_13 : decode prog_11_method_18_code 13 = .ok (.ireturn, 1) := by decide +kernel
set_option maxRecDepth 100000 in
set_option maxHeartbeats 4000000 in
theorem sM_isNote (x1 : Int) (σ : KM) : kSem 2 (⟨"KeyPathModel", "isNote", "(I)Z"⟩ : MethodName) prog_11_method_18_code 2 (some .boolean) [kr 10, ki x1] σ (fM_isNote x1 σ) := by
  refine kSem.of (L0 := [lq 10, li x1]) (by decide) (Nat.le_of_ble_eq_true rfl) rfl (fun X q hX hR => ?_)
  have hT : ∀ z : Int × KM, (fun z => z = q) z → z = q := fun _ h => h
  refine k_iload_n hX dM_isNote_0 rfl ?_
  refine k_i2l hX dM_isNote_1 ?_
  refine k_lconst0 hX dM_isNote_2 ?_
  refine k_aload_n hX dM_isNote_3 rfl ?_
  refine gf_159 hX dM_isNote_4 ?_
  refine k_iconst hX dM_isNote_7 ?_
  refine k_isub hX dM_isNote_8 ?_
  refine k_i2l hX dM_isNote_9 ?_
  refine cl_120 hX (by decide) (Nat.le_of_ble_eq_true rfl) dM_isNote_10 (fun r2 τ1 => ?_)
  exact k_zret hX hR hT dM_isNote_13
theorem cl_144 {X : KC} {d n : Nat} {cc : ByteArray} {pc : Nat} {L : List (Option KV)} {st : List KV} {σ : KM} {Z : Type} {Θ : Z → Prop} {G : Int → KM → Option Z} {x1 : Int} (hX : kOk X d cc n "KeyPathModel") (hdd : 2 + 1 ≤ d) (hst : k_cat st ≤ 8) (hd : decode cc pc = .ok (.invokevirtual 184, 3)) (h : ∀ r τ, kJ X (pc + 3) L (ki r :: st) τ (G r τ) Θ) : kJ X pc L (ki x1 :: kr 10 :: st) σ (kCall (fM_isNote x1 σ) G) Θ :=
  k_callV (np := 1) (av := [ki x1]) (ret := (some .boolean)) hX (by decide) rfl rfl rfl (sM_isNote _ σ) ⟨⟨hdd, by decide⟩, tw_1186, tw_11, by decide +kernel⟩ rfl tw_1183 tw_1185 ts_47 hst hd h
theorem dM_notesAct_0 : decode prog_11_method_16_code 0 = .ok (.aload_n 0, 1) := by decide +kernel
theorem dM_notesAct_1 : decode prog_11_method_16_code 1 = .ok (.getfield 176, 3) := by decide +kernel
theorem dM_notesAct_4 : decode prog_11_method_16_code 4 = .ok (.bipush 10, 2) := by decide +kernel
theorem dM_notesAct_6 : decode prog_11_method_16_code 6 = .ok (.if_icmp .ne 44, 3) := by decide +kernel
theorem dM_notesAct_9 : decode prog_11_method_16_code 9 = .ok (.iconst 0, 1) := by decide +kernel
theorem dM_notesAct_10 : decode prog_11_method_16_code 10 = .ok (.istore_n 1, 1) := by decide +kernel
theorem dM_notesAct_11 : decode prog_11_method_16_code 11 = .ok (.iload_n 1, 1) := by decide +kernel
theorem dM_notesAct_12 : decode prog_11_method_16_code 12 = .ok (.sipush 2709, 3) := by decide +kernel
theorem dM_notesAct_15 : decode prog_11_method_16_code 15 = .ok (.if_icmp .ge 25, 3) := by decide +kernel
theorem dM_notesAct_18 : decode prog_11_method_16_code 18 = .ok (.aload_n 0, 1) := by decide +kernel
theorem dM_notesAct_19 : decode prog_11_method_16_code 19 = .ok (.getfield 32, 3) := by decide +kernel
theorem dM_notesAct_22 : decode prog_11_method_16_code 22 = .ok (.iload_n 1, 1) := by decide +kernel
theorem dM_notesAct_23 : decode prog_11_method_16_code 23 = .ok (.aload_n 0, 1) := by decide +kernel
theorem dM_notesAct_24 : decode prog_11_method_16_code 24 = .ok (.getfield 32, 3) := by decide +kernel
theorem dM_notesAct_27 : decode prog_11_method_16_code 27 = .ok (.iload_n 1, 1) := by decide +kernel
theorem dM_notesAct_28 : decode prog_11_method_16_code 28 = .ok (.sipush 301, 3) := by decide +kernel
theorem dM_notesAct_31 : decode prog_11_method_16_code 31 = .ok (.iadd, 1) := by decide +kernel
theorem dM_notesAct_32 : decode prog_11_method_16_code 32 = .ok (.iaload, 1) := by decide +kernel
theorem dM_notesAct_33 : decode prog_11_method_16_code 33 = .ok (.iastore, 1) := by decide +kernel
theorem dM_notesAct_34 : decode prog_11_method_16_code 34 = .ok (.iinc 1 1, 3) := by decide +kernel
theorem dM_notesAct_37 : decode prog_11_method_16_code 37 = .ok (.goto (-26), 3) := by decide +kernel
theorem dM_notesAct_40 : decode prog_11_method_16_code 40 = .ok (.aload_n 0, 1) := by decide +kernel
theorem dM_notesAct_41 : decode prog_11_method_16_code 41 = .ok (.dup, 1) := by decide +kernel
theorem dM_notesAct_42 : decode prog_11_method_16_code 42 = .ok (.getfield 176, 3) := by decide +kernel
theorem dM_notesAct_45 : decode prog_11_method_16_code 45 = .ok (.iconst 1, 1) := by decide +kernel
theorem dM_notesAct_46 : decode prog_11_method_16_code 46 = .ok (.isub, 1) := by decide +kernel
theorem dM_notesAct_47 : decode prog_11_method_16_code 47 = .ok (.putfield 176, 3) := by decide +kernel
theorem dM_notesAct_50 : decode prog_11_method_16_code 50 = .ok (.sipush 301, 3) := by decide +kernel
theorem dM_notesAct_53 : decode prog_11_method_16_code 53 = .ok (.aload_n 0, 1) := by decide +kernel
theorem dM_notesAct_54 : decode prog_11_method_16_code 54 = .ok (.getfield 176, 3) := by decide +kernel
theorem dM_notesAct_57 : decode prog_11_method_16_code 57 = .ok (.imul, 1) := by decide +kernel
theorem dM_notesAct_58 : decode prog_11_method_16_code 58 = .ok (.istore_n 1, 1) := by decide +kernel
theorem dM_notesAct_59 : decode prog_11_method_16_code 59 = .ok (.aload_n 0, 1) := by decide +kernel
theorem dM_notesAct_60 : decode prog_11_method_16_code 60 = .ok (.getfield 32, 3) := by decide +kernel
theorem dM_notesAct_63 : decode prog_11_method_16_code 63 = .ok (.iload_n 1, 1) := by decide +kernel
theorem dM_notesAct_64 : decode prog_11_method_16_code 64 = .ok (.aload_n 0, 1) := by decide +kernel
theorem dM_notesAct_65 : decode prog_11_method_16_code 65 = .ok (.getfield 169, 3) := by decide +kernel
theorem dM_notesAct_68 : decode prog_11_method_16_code 68 = .ok (.iastore, 1) := by decide +kernel
theorem dM_notesAct_69 : decode prog_11_method_16_code 69 = .ok (.iconst 0, 1) := by decide +kernel
theorem dM_notesAct_70 : decode prog_11_method_16_code 70 = .ok (.istore_n 2, 1) := by decide +kernel
theorem dM_notesAct_71 : decode prog_11_method_16_code 71 = .ok (.iload_n 2, 1) := by decide +kernel
theorem dM_notesAct_72 : decode prog_11_method_16_code 72 = .ok (.bipush 100, 2) := by decide +kernel
theorem dM_notesAct_74 : decode prog_11_method_16_code 74 = .ok (.if_icmp .ge 60, 3) := by decide +kernel
theorem dM_notesAct_77 : decode prog_11_method_16_code 77 = .ok (.aload_n 0, 1) := by decide +kernel
theorem dM_notesAct_78 : decode prog_11_method_16_code 78 = .ok (.getfield 32, 3) := by decide +kernel
theorem dM_notesAct_81 : decode prog_11_method_16_code 81 = .ok (.iload_n 1, 1) := by decide +kernel
theorem dM_notesAct_82 : decode prog_11_method_16_code 82 = .ok (.iconst 1, 1) := by decide +kernel
theorem dM_notesAct_83 : decode prog_11_method_16_code 83 = .ok (.iadd, 1) := by decide +kernel
theorem dM_notesAct_84 : decode prog_11_method_16_code 84 = .ok (.iload_n 2, 1) := by decide +kernel
theorem dM_notesAct_85 : decode prog_11_method_16_code 85 = .ok (.iadd, 1) := by decide +kernel
theorem dM_notesAct_86 : decode prog_11_method_16_code 86 = .ok (.aload_n 0, 1) := by decide +kernel
theorem dM_notesAct_87 : decode prog_11_method_16_code 87 = .ok (.getfield 13, 3) := by decide +kernel
theorem dM_notesAct_90 : decode prog_11_method_16_code 90 = .ok (.iload_n 2, 1) := by decide +kernel
theorem dM_notesAct_91 : decode prog_11_method_16_code 91 = .ok (.iaload, 1) := by decide +kernel
theorem dM_notesAct_92 : decode prog_11_method_16_code 92 = .ok (.iastore, 1) := by decide +kernel
theorem dM_notesAct_93 : decode prog_11_method_16_code 93 = .ok (.aload_n 0, 1) := by decide +kernel
theorem dM_notesAct_94 : decode prog_11_method_16_code 94 = .ok (.getfield 32, 3) := by decide +kernel
theorem dM_notesAct_97 : decode prog_11_method_16_code 97 = .ok (.iload_n 1, 1) := by decide +kernel
theorem dM_notesAct_98 : decode prog_11_method_16_code 98 = .ok (.bipush 101, 2) := by decide +kernel
theorem dM_notesAct_100 : decode prog_11_method_16_code 100 = .ok (.iadd, 1) := by decide +kernel
theorem dM_notesAct_101 : decode prog_11_method_16_code 101 = .ok (.iload_n 2, 1) := by decide +kernel
theorem dM_notesAct_102 : decode prog_11_method_16_code 102 = .ok (.iadd, 1) := by decide +kernel
theorem dM_notesAct_103 : decode prog_11_method_16_code 103 = .ok (.aload_n 0, 1) := by decide +kernel
theorem dM_notesAct_104 : decode prog_11_method_16_code 104 = .ok (.getfield 17, 3) := by decide +kernel
theorem dM_notesAct_107 : decode prog_11_method_16_code 107 = .ok (.iload_n 2, 1) := by decide +kernel
theorem dM_notesAct_108 : decode prog_11_method_16_code 108 = .ok (.iaload, 1) := by decide +kernel
theorem dM_notesAct_109 : decode prog_11_method_16_code 109 = .ok (.iastore, 1) := by decide +kernel
theorem dM_notesAct_110 : decode prog_11_method_16_code 110 = .ok (.aload_n 0, 1) := by decide +kernel
theorem dM_notesAct_111 : decode prog_11_method_16_code 111 = .ok (.getfield 32, 3) := by decide +kernel
theorem dM_notesAct_114 : decode prog_11_method_16_code 114 = .ok (.iload_n 1, 1) := by decide +kernel
theorem dM_notesAct_115 : decode prog_11_method_16_code 115 = .ok (.sipush 201, 3) := by decide +kernel
theorem dM_notesAct_118 : decode prog_11_method_16_code 118 = .ok (.iadd, 1) := by decide +kernel
theorem dM_notesAct_119 : decode prog_11_method_16_code 119 = .ok (.iload_n 2, 1) := by decide +kernel
theorem dM_notesAct_120 : decode prog_11_method_16_code 120 = .ok (.iadd, 1) := by decide +kernel
theorem dM_notesAct_121 : decode prog_11_method_16_code 121 = .ok (.aload_n 0, 1) := by decide +kernel
theorem dM_notesAct_122 : decode prog_11_method_16_code 122 = .ok (.getfield 20, 3) := by decide +kernel
theorem dM_notesAct_125 : decode prog_11_method_16_code 125 = .ok (.iload_n 2, 1) := by decide +kernel
theorem dM_notesAct_126 : decode prog_11_method_16_code 126 = .ok (.iaload, 1) := by decide +kernel
theorem dM_notesAct_127 : decode prog_11_method_16_code 127 = .ok (.iastore, 1) := by decide +kernel
theorem dM_notesAct_128 : decode prog_11_method_16_code 128 = .ok (.iinc 2 1, 3) := by decide +kernel
theorem dM_notesAct_131 : decode prog_11_method_16_code 131 = .ok (.goto (-60), 3) := by decide +kernel
theorem dM_notesAct_134 : decode prog_11_method_16_code 134 = .ok (.aload_n 0, 1) := by decide +kernel
theorem dM_notesAct_135 : decode prog_11_method_16_code 135 = .ok (.dup, 1) := by decide +kernel
theorem dM_notesAct_136 : decode prog_11_method_16_code 136 = .ok (.getfield 176, 3) := by decide +kernel
theorem dM_notesAct_139 : decode prog_11_method_16_code 139 = .ok (.iconst 1, 1) := by decide +kernel
theorem dM_notesAct_140 : decode prog_11_method_16_code 140 = .ok (.iadd, 1) := by decide +kernel
theorem dM_notesAct_141 : decode prog_11_method_16_code 141 = .ok (.putfield 176, 3) := by decide +kernel
theorem dM_notesAct_144 : decode prog_11_method_16_code 144 = .ok (.return_, 1) := by decide +kernel
set_option maxRecDepth 100000 in
set_option maxHeartbeats 4000000 in
theorem tM_notesAct_J134 {X : KC} {q : Int × KM} (hX : kOk X 1 prog_11_method_16_code 3 "KeyPathModel") (hR : kRet X none q) (σ : KM) {Θ : (Int × KM) → Prop} (hT : ∀ z, Θ (z) → z = q) : kJ X 134 [lq 10, none, none] [] σ (fM_notesAct_J134 σ) Θ := by
  refine k_aload_n hX dM_notesAct_134 rfl ?_
  refine k_dupr hX dM_notesAct_135 ?_
  refine gf_185 hX dM_notesAct_136 ?_
  refine k_iconst hX dM_notesAct_139 ?_
  refine k_iadd hX dM_notesAct_140 ?_
  refine gp_188 hX dM_notesAct_141 (fun τ1 => ?_)
  exact k_vret hX hR hT dM_notesAct_144
set_option maxRecDepth 100000 in
set_option maxHeartbeats 4000000 in
theorem tM_notesAct_B71 {X : KC} {q : Int × KM} (hX : kOk X 1 prog_11_method_16_code 3 "KeyPathModel") (hR : kRet X none q) (x1 x2 : Int) (σ : KM) {Θ : ((Int × KM) ⊕ (Int × KM)) → Prop} (hT : ∀ z, Θ (.inr (z)) → z = q) (hb0 : ∀ s : Int × KM, Θ (.inl s) → kW X 71 [lq 10, li x1, li s.1] [] s.2) : kJ X 71 [lq 10, li x1, li x2] [] σ (fM_notesAct_B71 x1 x2 σ) Θ := by
  refine k_iload_n hX dM_notesAct_71 rfl ?_
  refine k_bipush hX dM_notesAct_72 (by decide) ?_
  refine k_icmp_ge (tgt := 134) hX dM_notesAct_74 (by decide) ?_ ?_
  · refine k_exit ?_
    refine k_less [true, false, false] (L' := [lq 10, none, none]) rfl ?_
    exact tM_notesAct_J134 hX hR σ hT
  · refine k_aload_n hX dM_notesAct_77 rfl ?_
    refine gf_187 hX dM_notesAct_78 ?_
    refine k_iload_n hX dM_notesAct_81 rfl ?_
    refine k_iconst hX dM_notesAct_82 ?_
    refine k_iadd hX dM_notesAct_83 ?_
    refine k_iload_n hX dM_notesAct_84 rfl ?_
    refine k_iadd hX dM_notesAct_85 ?_
    refine k_aload_n hX dM_notesAct_86 rfl ?_
    refine gf_160 hX dM_notesAct_87 ?_
    refine k_iload_n hX dM_notesAct_90 rfl ?_
    refine k_iald hX (by decide) rfl dM_notesAct_91 rfl (fun y1 => ?_)
    refine k_iast hX (by decide) rfl dM_notesAct_92 rfl (fun τ2 => ?_)
    refine k_aload_n hX dM_notesAct_93 rfl ?_
    refine gf_187 hX dM_notesAct_94 ?_
    refine k_iload_n hX dM_notesAct_97 rfl ?_
    refine k_bipush hX dM_notesAct_98 (by decide) ?_
    refine k_iadd hX dM_notesAct_100 ?_
    refine k_iload_n hX dM_notesAct_101 rfl ?_
    refine k_iadd hX dM_notesAct_102 ?_
    refine k_aload_n hX dM_notesAct_103 rfl ?_
    refine gf_161 hX dM_notesAct_104 ?_
    refine k_iload_n hX dM_notesAct_107 rfl ?_
    refine k_iald hX (by decide) rfl dM_notesAct_108 rfl (fun y3 => ?_)
    refine k_iast hX (by decide) rfl dM_notesAct_109 rfl (fun τ4 => ?_)
    refine k_aload_n hX dM_notesAct_110 rfl ?_
    refine gf_187 hX dM_notesAct_111 ?_
    refine k_iload_n hX dM_notesAct_114 rfl ?_
    refine k_sipush hX dM_notesAct_115 (by decide) ?_
    refine k_iadd hX dM_notesAct_118 ?_
    refine k_iload_n hX dM_notesAct_119 rfl ?_
    refine k_iadd hX dM_notesAct_120 ?_
    refine k_aload_n hX dM_notesAct_121 rfl ?_
    refine gf_165 hX dM_notesAct_122 ?_
    refine k_iload_n hX dM_notesAct_125 rfl ?_
    refine k_iald hX (by decide) rfl dM_notesAct_126 rfl (fun y5 => ?_)
    refine k_iast hX (by decide) rfl dM_notesAct_127 rfl (fun τ6 => ?_)
    refine k_iincL (Lf := fun y7 => [lq 10, li x1, li y7]) hX dM_notesAct_128 rfl (by decide) rfl (fun _ => rfl) (fun y7 => ?_)
    refine k_goto (tgt := 71) hX dM_notesAct_131 (by decide) ?_
    exact k_back (hb0 (y7, τ6))
set_option maxRecDepth 100000 in
set_option maxHeartbeats 4000000 in
theorem tM_notesAct_L71 {X : KC} {q : Int × KM} (hX : kOk X 1 prog_11_method_16_code 3 "KeyPathModel") (hR : kRet X none q) (x1 x2 : Int) (σ : KM) {Θ : (Int × KM) → Prop} (hT : ∀ z, Θ (z) → z = q) : kJ X 71 [lq 10, li x1, li x2] [] σ (fM_notesAct_L71 x1 x2 σ) Θ :=
  k_iter (f := fun s => fM_notesAct_B71 x1 s.1 s.2) (Lf := fun s => [lq 10, li x1, li s.1]) (mf := fun s => s.2) (Θ := Θ) (fun s => tM_notesAct_B71 hX hR x1 s.1 s.2 hT (fun _ h9 => h9)) kF (x2, σ)
set_option maxRecDepth 100000 in
set_option maxHeartbeats 4000000 in
theorem tM_notesAct_J50 {X : KC} {q : Int × KM} (hX : kOk X 1 prog_11_method_16_code 3 "KeyPathModel") (hR : kRet X none q) (σ : KM) {Θ : (Int × KM) → Prop} (hT : ∀ z, Θ (z) → z = q) : kJ X 50 [lq 10, none, none] [] σ (fM_notesAct_J50 σ) Θ := by
  refine k_sipush hX dM_notesAct_50 (by decide) ?_
  refine k_aload_n hX dM_notesAct_53 rfl ?_
  refine gf_185 hX dM_notesAct_54 ?_
  refine k_imul hX dM_notesAct_57 ?_
  refine k_istoreL_n (Lf := fun y1 => [lq 10, li y1, none]) hX dM_notesAct_58 rfl (by decide) (fun _ => rfl) (fun y1 => ?_)
  refine k_aload_n hX dM_notesAct_59 rfl ?_
  refine gf_187 hX dM_notesAct_60 ?_
  refine k_iload_n hX dM_notesAct_63 rfl ?_
  refine k_aload_n hX dM_notesAct_64 rfl ?_
  refine gf_159 hX dM_notesAct_65 ?_
  refine k_iast hX (by decide) rfl dM_notesAct_68 rfl (fun τ2 => ?_)
  refine k_iconst hX dM_notesAct_69 ?_
  refine k_istore_n (L' := [lq 10, li y1, li 0]) hX dM_notesAct_70 rfl (by decide) rfl ?_
  exact tM_notesAct_L71 hX hR y1 0 τ2 hT
set_option maxRecDepth 100000 in
set_option maxHeartbeats 4000000 in
theorem tM_notesAct_J40 {X : KC} {q : Int × KM} (hX : kOk X 1 prog_11_method_16_code 3 "KeyPathModel") (hR : kRet X none q) (σ : KM) {Θ : (Int × KM) → Prop} (hT : ∀ z, Θ (z) → z = q) : kJ X 40 [lq 10, none, none] [] σ (fM_notesAct_J40 σ) Θ := by
  refine k_aload_n hX dM_notesAct_40 rfl ?_
  refine k_dupr hX dM_notesAct_41 ?_
  refine gf_185 hX dM_notesAct_42 ?_
  refine k_iconst hX dM_notesAct_45 ?_
  refine k_isub hX dM_notesAct_46 ?_
  refine gp_188 hX dM_notesAct_47 (fun τ1 => ?_)
  exact tM_notesAct_J50 hX hR τ1 hT
set_option maxRecDepth 100000 in
set_option maxHeartbeats 4000000 in
theorem tM_notesAct_B11 {X : KC} {q : Int × KM} (hX : kOk X 1 prog_11_method_16_code 3 "KeyPathModel") (hR : kRet X none q) (x1 : Int) (σ : KM) {Θ : ((Int × KM) ⊕ (Int × KM)) → Prop} (hT : ∀ z, Θ (.inr (z)) → z = q) (hb0 : ∀ s : Int × KM, Θ (.inl s) → kW X 11 [lq 10, li s.1, none] [] s.2) : kJ X 11 [lq 10, li x1, none] [] σ (fM_notesAct_B11 x1 σ) Θ := by
  refine k_iload_n hX dM_notesAct_11 rfl ?_
  refine k_sipush hX dM_notesAct_12 (by decide) ?_
  refine k_icmp_ge (tgt := 40) hX dM_notesAct_15 (by decide) ?_ ?_
  · refine k_exit ?_
    refine k_less [true, false, true] (L' := [lq 10, none, none]) rfl ?_
    exact tM_notesAct_J40 hX hR σ hT
  · refine k_aload_n hX dM_notesAct_18 rfl ?_
    refine gf_187 hX dM_notesAct_19 ?_
    refine k_iload_n hX dM_notesAct_22 rfl ?_
    refine k_aload_n hX dM_notesAct_23 rfl ?_
    refine gf_187 hX dM_notesAct_24 ?_
    refine k_iload_n hX dM_notesAct_27 rfl ?_
    refine k_sipush hX dM_notesAct_28 (by decide) ?_
    refine k_iadd hX dM_notesAct_31 ?_
    refine k_iald hX (by decide) rfl dM_notesAct_32 rfl (fun y1 => ?_)
    refine k_iast hX (by decide) rfl dM_notesAct_33 rfl (fun τ2 => ?_)
    refine k_iincL (Lf := fun y3 => [lq 10, li y3, none]) hX dM_notesAct_34 rfl (by decide) rfl (fun _ => rfl) (fun y3 => ?_)
    refine k_goto (tgt := 11) hX dM_notesAct_37 (by decide) ?_
    exact k_back (hb0 (y3, τ2))
set_option maxRecDepth 100000 in
set_option maxHeartbeats 4000000 in
theorem tM_notesAct_L11 {X : KC} {q : Int × KM} (hX : kOk X 1 prog_11_method_16_code 3 "KeyPathModel") (hR : kRet X none q) (x1 : Int) (σ : KM) {Θ : (Int × KM) → Prop} (hT : ∀ z, Θ (z) → z = q) : kJ X 11 [lq 10, li x1, none] [] σ (fM_notesAct_L11 x1 σ) Θ :=
  k_iter (f := fun s => fM_notesAct_B11 s.1 s.2) (Lf := fun s => [lq 10, li s.1, none]) (mf := fun s => s.2) (Θ := Θ) (fun s => tM_notesAct_B11 hX hR s.1 s.2 hT (fun _ h9 => h9)) kF (x1, σ)
set_option maxRecDepth 100000 in
set_option maxHeartbeats 4000000 in
theorem sM_notesAct (σ : KM) : kSem 1 (⟨"KeyPathModel", "notesAct", "()V"⟩ : MethodName) prog_11_method_16_code 3 none [kr 10] σ (fM_notesAct σ) := by
  refine kSem.of (L0 := [lq 10, none, none]) (by decide) (Nat.le_of_ble_eq_true rfl) rfl (fun X q hX hR => ?_)
  have hT : ∀ z : Int × KM, (fun z => z = q) z → z = q := fun _ h => h
  refine k_aload_n hX dM_notesAct_0 rfl ?_
  refine gf_185 hX dM_notesAct_1 ?_
  refine k_bipush hX dM_notesAct_4 (by decide) ?_
  refine k_icmp_ne (tgt := 50) hX dM_notesAct_6 (by decide) ?_ ?_
  · exact tM_notesAct_J50 hX hR σ hT
  · refine k_iconst hX dM_notesAct_9 ?_
    refine k_istore_n (L' := [lq 10, li 0, none]) hX dM_notesAct_10 rfl (by decide) rfl ?_
    exact tM_notesAct_L11 hX hR 0 σ hT
theorem cl_145 {X : KC} {d n : Nat} {cc : ByteArray} {pc : Nat} {L : List (Option KV)} {st : List KV} {σ : KM} {Z : Type} {Θ : Z → Prop} {G : Int → KM → Option Z} (hX : kOk X d cc n "KeyPathModel") (hdd : 1 + 1 ≤ d) (hst : k_cat st ≤ 8) (hd : decode cc pc = .ok (.invokevirtual 181, 3)) (h : ∀ r τ, kJ X (pc + 3) L (st) τ (G r τ) Θ) : kJ X pc L (kr 10 :: st) σ (kCall (fM_notesAct σ) G) Θ :=
  k_callV (np := 0) (av := []) (ret := none) hX (by decide) rfl rfl rfl (sM_notesAct σ) ⟨⟨hdd, by decide⟩, tw_1178, tw_11, by decide +kernel⟩ rfl tw_1175 tw_1177 ts_46 hst hd h
theorem dM_drop_0 : decode prog_11_method_19_code 0 = .ok (.aload_n 0, 1) := by decide +kernel
theorem dM_drop_1 : decode prog_11_method_19_code 1 = .ok (.iconst 0, 1) := by decide +kernel
theorem dM_drop_2 : decode prog_11_method_19_code 2 = .ok (.putfield 1, 3) := by decide +kernel
theorem dM_drop_5 : decode prog_11_method_19_code 5 = .ok (.aload_n 0, 1) := by decide +kernel
theorem dM_drop_6 : decode prog_11_method_19_code 6 = .ok (.iload_n 1, 1) := by decide +kernel
theorem dM_drop_7 : decode prog_11_method_19_code 7 = .ok (.invokevirtual 184, 3) := by decide +kernel
theorem dM_drop_10 : decode prog_11_method_19_code 10 = .ok (.ifCond .ne 6, 3) := by decide +kernel
theorem dM_drop_13 : decode prog_11_method_19_code 13 = .ok (.bipush (-2), 2) := by decide +kernel
theorem dM_drop_15 : decode prog_11_method_19_code 15 = .ok (.ireturn, 1) := by decide +kernel
theorem dM_drop_16 : decode prog_11_method_19_code 16 = .ok (.aload_n 0, 1) := by decide +kernel
theorem dM_drop_17 : decode prog_11_method_19_code 17 = .ok (.invokevirtual 181, 3) := by decide +kernel
theorem dM_drop_20 : decode prog_11_method_19_code 20 = .ok (.aload_n 0, 1) := by decide +kernel
theorem dM_drop_21 : decode prog_11_method_19_code 21 = .ok (.dup, 1) := by decide +kernel
theorem dM_drop_22 : decode prog_11_method_19_code 22 = .ok (.getfield 169, 3) := by decide +kernel
theorem dM_drop_25 : decode prog_11_method_19_code 25 = .ok (.iconst 1, 1) := by decide +kernel
theorem dM_drop_26 : decode prog_11_method_19_code 26 = .ok (.isub, 1) := by decide +kernel
theorem dM_drop_27 : decode prog_11_method_19_code 27 = .ok (.putfield 169, 3) := by decide +kernel
theorem dM_drop_30 : decode prog_11_method_19_code 30 = .ok (.iload_n 1, 1) := by decide +kernel
theorem dM_drop_31 : decode prog_11_method_19_code 31 = .ok (.istore_n 2, 1) := by decide +kernel
theorem dM_drop_32 : decode prog_11_method_19_code 32 = .ok (.iload_n 2, 1) := by decide +kernel
theorem dM_drop_33 : decode prog_11_method_19_code 33 = .ok (.aload_n 0, 1) := by decide +kernel
theorem dM_drop_34 : decode prog_11_method_19_code 34 = .ok (.getfield 169, 3) := by decide +kernel
theorem dM_drop_37 : decode prog_11_method_19_code 37 = .ok (.if_icmp .ge 51, 3) := by decide +kernel
theorem dM_drop_40 : decode prog_11_method_19_code 40 = .ok (.aload_n 0, 1) := by decide +kernel
theorem dM_drop_41 : decode prog_11_method_19_code 41 = .ok (.getfield 13, 3) := by decide +kernel
theorem dM_drop_44 : decode prog_11_method_19_code 44 = .ok (.iload_n 2, 1) := by decide +kernel
theorem dM_drop_45 : decode prog_11_method_19_code 45 = .ok (.aload_n 0, 1) := by decide +kernel
theorem dM_drop_46 : decode prog_11_method_19_code 46 = .ok (.getfield 13, 3) := by decide +kernel
theorem dM_drop_49 : decode prog_11_method_19_code 49 = .ok (.iload_n 2, 1) := by decide +kernel
theorem dM_drop_50 : decode prog_11_method_19_code 50 = .ok (.iconst 1, 1) := by decide +kernel
theorem dM_drop_51 : decode prog_11_method_19_code 51 = .ok (.iadd, 1) := by decide +kernel
theorem dM_drop_52 : decode prog_11_method_19_code 52 = .ok (.iaload, 1) := by decide +kernel
theorem dM_drop_53 : decode prog_11_method_19_code 53 = .ok (.iastore, 1) := by decide +kernel
theorem dM_drop_54 : decode prog_11_method_19_code 54 = .ok (.aload_n 0, 1) := by decide +kernel
theorem dM_drop_55 : decode prog_11_method_19_code 55 = .ok (.getfield 17, 3) := by decide +kernel
theorem dM_drop_58 : decode prog_11_method_19_code 58 = .ok (.iload_n 2, 1) := by decide +kernel
theorem dM_drop_59 : decode prog_11_method_19_code 59 = .ok (.aload_n 0, 1) := by decide +kernel
theorem dM_drop_60 : decode prog_11_method_19_code 60 = .ok (.getfield 17, 3) := by decide +kernel
theorem dM_drop_63 : decode prog_11_method_19_code 63 = .ok (.iload_n 2, 1) := by decide +kernel
theorem dM_drop_64 : decode prog_11_method_19_code 64 = .ok (.iconst 1, 1) := by decide +kernel
theorem dM_drop_65 : decode prog_11_method_19_code 65 = .ok (.iadd, 1) := by decide +kernel
theorem dM_drop_66 : decode prog_11_method_19_code 66 = .ok (.iaload, 1) := by decide +kernel
theorem dM_drop_67 : decode prog_11_method_19_code 67 = .ok (.iastore, 1) := by decide +kernel
theorem dM_drop_68 : decode prog_11_method_19_code 68 = .ok (.aload_n 0, 1) := by decide +kernel
theorem dM_drop_69 : decode prog_11_method_19_code 69 = .ok (.getfield 20, 3) := by decide +kernel
theorem dM_drop_72 : decode prog_11_method_19_code 72 = .ok (.iload_n 2, 1) := by decide +kernel
theorem dM_drop_73 : decode prog_11_method_19_code 73 = .ok (.aload_n 0, 1) := by decide +kernel
theorem dM_drop_74 : decode prog_11_method_19_code 74 = .ok (.getfield 20, 3) := by decide +kernel
theorem dM_drop_77 : decode prog_11_method_19_code 77 = .ok (.iload_n 2, 1) := by decide +kernel
theorem dM_drop_78 : decode prog_11_method_19_code 78 = .ok (.iconst 1, 1) := by decide +kernel
theorem dM_drop_79 : decode prog_11_method_19_code 79 = .ok (.iadd, 1) := by decide +kernel
theorem dM_drop_80 : decode prog_11_method_19_code 80 = .ok (.iaload, 1) := by decide +kernel
theorem dM_drop_81 : decode prog_11_method_19_code 81 = .ok (.iastore, 1) := by decide +kernel
theorem dM_drop_82 : decode prog_11_method_19_code 82 = .ok (.iinc 2 1, 3) := by decide +kernel
theorem dM_drop_85 : decode prog_11_method_19_code 85 = .ok (.goto (-53), 3) := by decide +kernel
theorem dM_drop_88 : decode prog_11_method_19_code 88 = .ok (.aload_n 0, 1) := by decide +kernel
theorem dM_drop_89 : decode prog_11_method_19_code 89 = .ok (.getfield 169, 3) := by decide +kernel
theorem dM_drop_92 : decode prog_11_method_19_code 92 = .ok (.ireturn, 1) := by decide +kernel
set_option maxRecDepth 100000 in
set_option maxHeartbeats 4000000 in
theorem tM_drop_J88 {X : KC} {q : Int × KM} (hX : kOk X 3 prog_11_method_19_code 3 "KeyPathModel") (hR : kRet X (some .int) q) (σ : KM) {Θ : (Int × KM) → Prop} (hT : ∀ z, Θ (z) → z = q) : kJ X 88 [lq 10, none, none] [] σ (fM_drop_J88 σ) Θ := by
  refine k_aload_n hX dM_drop_88 rfl ?_
  refine gf_159 hX dM_drop_89 ?_
  exact k_iret hX hR hT dM_drop_92
set_option maxRecDepth 100000 in
set_option maxHeartbeats 4000000 in
theorem tM_drop_B32 {X : KC} {q : Int × KM} (hX : kOk X 3 prog_11_method_19_code 3 "KeyPathModel") (hR : kRet X (some .int) q) (x2 : Int) (σ : KM) {Θ : ((Int × KM) ⊕ (Int × KM)) → Prop} (hT : ∀ z, Θ (.inr (z)) → z = q) (hb0 : ∀ s : Int × KM, Θ (.inl s) → kW X 32 [lq 10, none, li s.1] [] s.2) : kJ X 32 [lq 10, none, li x2] [] σ (fM_drop_B32 x2 σ) Θ := by
  refine k_iload_n hX dM_drop_32 rfl ?_
  refine k_aload_n hX dM_drop_33 rfl ?_
  refine gf_159 hX dM_drop_34 ?_
  refine k_icmp_ge (tgt := 88) hX dM_drop_37 (by decide) ?_ ?_
  · refine k_exit ?_
    refine k_less [true, true, false] (L' := [lq 10, none, none]) rfl ?_
    exact tM_drop_J88 hX hR σ hT
  · refine k_aload_n hX dM_drop_40 rfl ?_
    refine gf_160 hX dM_drop_41 ?_
    refine k_iload_n hX dM_drop_44 rfl ?_
    refine k_aload_n hX dM_drop_45 rfl ?_
    refine gf_160 hX dM_drop_46 ?_
    refine k_iload_n hX dM_drop_49 rfl ?_
    refine k_iconst hX dM_drop_50 ?_
    refine k_iadd hX dM_drop_51 ?_
    refine k_iald hX (by decide) rfl dM_drop_52 rfl (fun y1 => ?_)
    refine k_iast hX (by decide) rfl dM_drop_53 rfl (fun τ2 => ?_)
    refine k_aload_n hX dM_drop_54 rfl ?_
    refine gf_161 hX dM_drop_55 ?_
    refine k_iload_n hX dM_drop_58 rfl ?_
    refine k_aload_n hX dM_drop_59 rfl ?_
    refine gf_161 hX dM_drop_60 ?_
    refine k_iload_n hX dM_drop_63 rfl ?_
    refine k_iconst hX dM_drop_64 ?_
    refine k_iadd hX dM_drop_65 ?_
    refine k_iald hX (by decide) rfl dM_drop_66 rfl (fun y3 => ?_)
    refine k_iast hX (by decide) rfl dM_drop_67 rfl (fun τ4 => ?_)
    refine k_aload_n hX dM_drop_68 rfl ?_
    refine gf_165 hX dM_drop_69 ?_
    refine k_iload_n hX dM_drop_72 rfl ?_
    refine k_aload_n hX dM_drop_73 rfl ?_
    refine gf_165 hX dM_drop_74 ?_
    refine k_iload_n hX dM_drop_77 rfl ?_
    refine k_iconst hX dM_drop_78 ?_
    refine k_iadd hX dM_drop_79 ?_
    refine k_iald hX (by decide) rfl dM_drop_80 rfl (fun y5 => ?_)
    refine k_iast hX (by decide) rfl dM_drop_81 rfl (fun τ6 => ?_)
    refine k_iincL (Lf := fun y7 => [lq 10, none, li y7]) hX dM_drop_82 rfl (by decide) rfl (fun _ => rfl) (fun y7 => ?_)
    refine k_goto (tgt := 32) hX dM_drop_85 (by decide) ?_
    exact k_back (hb0 (y7, τ6))
set_option maxRecDepth 100000 in
set_option maxHeartbeats 4000000 in
theorem tM_drop_L32 {X : KC} {q : Int × KM} (hX : kOk X 3 prog_11_method_19_code 3 "KeyPathModel") (hR : kRet X (some .int) q) (x2 : Int) (σ : KM) {Θ : (Int × KM) → Prop} (hT : ∀ z, Θ (z) → z = q) : kJ X 32 [lq 10, none, li x2] [] σ (fM_drop_L32 x2 σ) Θ :=
  k_iter (f := fun s => fM_drop_B32 s.1 s.2) (Lf := fun s => [lq 10, none, li s.1]) (mf := fun s => s.2) (Θ := Θ) (fun s => tM_drop_B32 hX hR s.1 s.2 hT (fun _ h9 => h9)) kF (x2, σ)
set_option maxRecDepth 100000 in
set_option maxHeartbeats 4000000 in
theorem sM_drop (x1 : Int) (σ : KM) : kSem 3 (⟨"KeyPathModel", "drop", "(I)I"⟩ : MethodName) prog_11_method_19_code 3 (some .int) [kr 10, ki x1] σ (fM_drop x1 σ) := by
  refine kSem.of (L0 := [lq 10, li x1, none]) (by decide) (Nat.le_of_ble_eq_true rfl) rfl (fun X q hX hR => ?_)
  have hT : ∀ z : Int × KM, (fun z => z = q) z → z = q := fun _ h => h
  refine k_aload_n hX dM_drop_0 rfl ?_
  refine k_iconst hX dM_drop_1 ?_
  refine gp_157 hX dM_drop_2 (fun τ1 => ?_)
  refine k_aload_n hX dM_drop_5 rfl ?_
  refine k_iload_n hX dM_drop_6 rfl ?_
  refine cl_144 hX (by decide) (Nat.le_of_ble_eq_true rfl) dM_drop_7 (fun r3 τ2 => ?_)
  refine k_if_ne (tgt := 16) hX dM_drop_10 (by decide) ?_ ?_
  · refine k_aload_n hX dM_drop_16 rfl ?_
    refine cl_145 hX (by decide) (Nat.le_of_ble_eq_true rfl) dM_drop_17 (fun _ τ4 => ?_)
    refine k_aload_n hX dM_drop_20 rfl ?_
    refine k_dupr hX dM_drop_21 ?_
    refine gf_159 hX dM_drop_22 ?_
    refine k_iconst hX dM_drop_25 ?_
    refine k_isub hX dM_drop_26 ?_
    refine gp_189 hX dM_drop_27 (fun τ5 => ?_)
    refine k_iload_n hX dM_drop_30 rfl ?_
    refine k_istore_n (L' := [lq 10, li x1, li x1]) hX dM_drop_31 rfl (by decide) rfl ?_
    refine k_less [true, false, true] (L' := [lq 10, none, li x1]) rfl ?_
    exact tM_drop_L32 hX hR x1 τ5 hT
  · refine k_bipush hX dM_drop_13 (by decide) ?_
    exact k_iret hX hR hT dM_drop_15
theorem dM_fault_0 : decode prog_11_method_14_code 0 = .ok (.aload_n 0, 1) := by decide +kernel
theorem dM_fault_1 : decode prog_11_method_14_code 1 = .ok (.iconst 0, 1) := by decide +kernel
theorem dM_fault_2 : decode prog_11_method_14_code 2 = .ok (.putfield 1, 3) := by decide +kernel
theorem dM_fault_5 : decode prog_11_method_14_code 5 = .ok (.iload_n 1, 1) := by decide +kernel
theorem dM_fault_6 : decode prog_11_method_14_code 6 = .ok (.ifCond .ne 10, 3) := by decide +kernel
theorem dM_fault_9 : decode prog_11_method_14_code 9 = .ok (.aload_n 0, 1) := by decide +kernel
theorem dM_fault_10 : decode prog_11_method_14_code 10 = .ok (.getfield 115, 3) := by decide +kernel
theorem dM_fault_13 : decode prog_11_method_14_code 13 = .ok (.goto 16, 3) := by decide +kernel
theorem dM_fault_16 : decode prog_11_method_14_code 16 = .ok (.iload_n 1, 1) := by decide +kernel
theorem dM_fault_17 : decode prog_11_method_14_code 17 = .ok (.iconst 1, 1) := by decide +kernel
theorem dM_fault_18 : decode prog_11_method_14_code 18 = .ok (.if_icmp .ne 10, 3) := by decide +kernel
theorem dM_fault_21 : decode prog_11_method_14_code 21 = .ok (.aload_n 0, 1) := by decide +kernel
theorem dM_fault_22 : decode prog_11_method_14_code 22 = .ok (.getfield 63, 3) := by decide +kernel
theorem dM_fault_25 : decode prog_11_method_14_code 25 = .ok (.goto 4, 3) := by decide +kernel
theorem dM_fault_28 : decode prog_11_method_14_code 28 = .ok (.iconst (-1), 1) := by decide +kernel
theorem dM_fault_29 : decode prog_11_method_14_code 29 = .ok (.ireturn, 1) := by decide +kernel
set_option maxRecDepth 100000 in
set_option maxHeartbeats 4000000 in
theorem tM_fault_J29 {X : KC} {q : Int × KM} (hX : kOk X 1 prog_11_method_14_code 2 "KeyPathModel") (hR : kRet X (some .int) q) (t0 : Int) (σ : KM) {Θ : (Int × KM) → Prop} (hT : ∀ z, Θ (z) → z = q) : kJ X 29 [lq 10, none] [ki t0] σ (fM_fault_J29 t0 σ) Θ := by
  exact k_iret hX hR hT dM_fault_29
set_option maxRecDepth 100000 in
set_option maxHeartbeats 4000000 in
theorem sM_fault (x1 : Int) (σ : KM) : kSem 1 (⟨"KeyPathModel", "fault", "(I)I"⟩ : MethodName) prog_11_method_14_code 2 (some .int) [kr 10, ki x1] σ (fM_fault x1 σ) := by
  refine kSem.of (L0 := [lq 10, li x1]) (by decide) (Nat.le_of_ble_eq_true rfl) rfl (fun X q hX hR => ?_)
  have hT : ∀ z : Int × KM, (fun z => z = q) z → z = q := fun _ h => h
  refine k_aload_n hX dM_fault_0 rfl ?_
  refine k_iconst hX dM_fault_1 ?_
  refine gp_157 hX dM_fault_2 (fun τ1 => ?_)
  refine k_iload_n hX dM_fault_5 rfl ?_
  refine k_if_ne (tgt := 16) hX dM_fault_6 (by decide) ?_ ?_
  · refine k_iload_n hX dM_fault_16 rfl ?_
    refine k_iconst hX dM_fault_17 ?_
    refine k_icmp_ne (tgt := 28) hX dM_fault_18 (by decide) ?_ ?_
    · refine k_iconst hX dM_fault_28 ?_
      refine k_less [true, false] (L' := [lq 10, none]) rfl ?_
      exact tM_fault_J29 hX hR (-1) τ1 hT
    · refine k_aload_n hX dM_fault_21 rfl ?_
      refine gf_190 hX dM_fault_22 ?_
      refine k_goto (tgt := 29) hX dM_fault_25 (by decide) ?_
      refine k_less [true, false] (L' := [lq 10, none]) rfl ?_
      exact tM_fault_J29 hX hR (τ1 10 24) τ1 hT
  · refine k_aload_n hX dM_fault_9 rfl ?_
    refine gf_191 hX dM_fault_10 ?_
    refine k_goto (tgt := 29) hX dM_fault_13 (by decide) ?_
    refine k_less [true, false] (L' := [lq 10, none]) rfl ?_
    exact tM_fault_J29 hX hR (τ1 10 23) τ1 hT
theorem dM_feed_0 : decode prog_11_method_4_code 0 = .ok (.aload_n 0, 1) := by decide +kernel
theorem dM_feed_1 : decode prog_11_method_4_code 1 = .ok (.iconst 0, 1) := by decide +kernel
theorem dM_feed_2 : decode prog_11_method_4_code 2 = .ok (.putfield 1, 3) := by decide +kernel
theorem dM_feed_5 : decode prog_11_method_4_code 5 = .ok (.aload_n 0, 1) := by decide +kernel
theorem dM_feed_6 : decode prog_11_method_4_code 6 = .ok (.getfield 106, 3) := by decide +kernel
theorem dM_feed_9 : decode prog_11_method_4_code 9 = .ok (.bipush 20, 2) := by decide +kernel
theorem dM_feed_11 : decode prog_11_method_4_code 11 = .ok (.iadd, 1) := by decide +kernel
theorem dM_feed_12 : decode prog_11_method_4_code 12 = .ok (.sipush 700, 3) := by decide +kernel
theorem dM_feed_15 : decode prog_11_method_4_code 15 = .ok (.if_icmp .le 6, 3) := by decide +kernel
theorem dM_feed_18 : decode prog_11_method_4_code 18 = .ok (.bipush (-4), 2) := by decide +kernel
theorem dM_feed_20 : decode prog_11_method_4_code 20 = .ok (.ireturn, 1) := by decide +kernel
theorem dM_feed_21 : decode prog_11_method_4_code 21 = .ok (.iconst 0, 1) := by decide +kernel
theorem dM_feed_22 : decode prog_11_method_4_code 22 = .ok (.istore 6, 2) := by decide +kernel
theorem dM_feed_24 : decode prog_11_method_4_code 24 = .ok (.iload 6, 2) := by decide +kernel
theorem dM_feed_26 : decode prog_11_method_4_code 26 = .ok (.bipush 20, 2) := by decide +kernel
theorem dM_feed_28 : decode prog_11_method_4_code 28 = .ok (.if_icmp .ge 90, 3) := by decide +kernel
theorem dM_feed_31 : decode prog_11_method_4_code 31 = .ok (.iload 6, 2) := by decide +kernel
theorem dM_feed_33 : decode prog_11_method_4_code 33 = .ok (.iconst 4, 1) := by decide +kernel
theorem dM_feed_34 : decode prog_11_method_4_code 34 = .ok (.if_icmp .ge 7, 3) := by decide +kernel
theorem dM_feed_37 : decode prog_11_method_4_code 37 = .ok (.iload_n 1, 1) := by decide +kernel
theorem dM_feed_38 : decode prog_11_method_4_code 38 = .ok (.goto 39, 3) := by decide +kernel
theorem dM_feed_41 : decode prog_11_method_4_code 41 = .ok (.iload 6, 2) := by decide +kernel
theorem dM_feed_43 : decode prog_11_method_4_code 43 = .ok (.bipush 8, 2) := by decide +kernel
theorem dM_feed_45 : decode prog_11_method_4_code 45 = .ok (.if_icmp .ge 7, 3) := by decide +kernel
theorem dM_feed_48 : decode prog_11_method_4_code 48 = .ok (.iload_n 2, 1) := by decide +kernel
theorem dM_feed_49 : decode prog_11_method_4_code 49 = .ok (.goto 28, 3) := by decide +kernel
theorem dM_feed_52 : decode prog_11_method_4_code 52 = .ok (.iload 6, 2) := by decide +kernel
theorem dM_feed_54 : decode prog_11_method_4_code 54 = .ok (.bipush 12, 2) := by decide +kernel
theorem dM_feed_56 : decode prog_11_method_4_code 56 = .ok (.if_icmp .ge 7, 3) := by decide +kernel
theorem dM_feed_59 : decode prog_11_method_4_code 59 = .ok (.iload_n 3, 1) := by decide +kernel
theorem dM_feed_60 : decode prog_11_method_4_code 60 = .ok (.goto 17, 3) := by decide +kernel
theorem dM_feed_63 : decode prog_11_method_4_code 63 = .ok (.iload 6, 2) := by decide +kernel
theorem dM_feed_65 : decode prog_11_method_4_code 65 = .ok (.bipush 16, 2) := by decide +kernel
theorem dM_feed_67 : decode prog_11_method_4_code 67 = .ok (.if_icmp .ge 8, 3) := by decide +kernel
theorem dM_feed_70 : decode prog_11_method_4_code 70 = .ok (.iload 4, 2) := by decide +kernel
theorem dM_feed_72 : decode prog_11_method_4_code 72 = .ok (.goto 5, 3) := by decide +kernel
theorem dM_feed_75 : decode prog_11_method_4_code 75 = .ok (.iload 5, 2) := by decide +kernel
theorem dM_feed_77 : decode prog_11_method_4_code 77 = .ok (.istore 7, 2) := by decide +kernel
theorem dM_feed_79 : decode prog_11_method_4_code 79 = .ok (.aload_n 0, 1) := by decide +kernel
theorem dM_feed_80 : decode prog_11_method_4_code 80 = .ok (.getfield 59, 3) := by decide +kernel
theorem dM_feed_83 : decode prog_11_method_4_code 83 = .ok (.aload_n 0, 1) := by decide +kernel
theorem dM_feed_84 : decode prog_11_method_4_code 84 = .ok (.getfield 106, 3) := by decide +kernel
theorem dM_feed_87 : decode prog_11_method_4_code 87 = .ok (.iload 7, 2) := by decide +kernel
theorem dM_feed_89 : decode prog_11_method_4_code 89 = .ok (.bipush 24, 2) := by decide +kernel
theorem dM_feed_91 : decode prog_11_method_4_code 91 = .ok (.bipush 8, 2) := by decide +kernel
theorem dM_feed_93 : decode prog_11_method_4_code 93 = .ok (.iload 6, 2) := by decide +kernel
theorem dM_feed_95 : decode prog_11_method_4_code 95 = .ok (.iconst 4, 1) := by decide +kernel
theorem dM_feed_96 : decode prog_11_method_4_code 96 = .ok (.irem, 1) := by decide +kernel
theorem dM_feed_97 : decode prog_11_method_4_code 97 = .ok (.imul, 1) := by decide +kernel
theorem dM_feed_98 : decode prog_11_method_4_code 98 = .ok (.isub, 1) := by decide +kernel
theorem dM_feed_99 : decode prog_11_method_4_code 99 = .ok (.ishr, 1) := by decide +kernel
theorem dM_feed_100 : decode prog_11_method_4_code 100 = .ok (.i2b, 1) := by decide +kernel
theorem dM_feed_101 : decode prog_11_method_4_code 101 = .ok (.bastore, 1) := by decide +kernel
theorem dM_feed_102 : decode prog_11_method_4_code 102 = .ok (.aload_n 0, 1) := by decide +kernel
theorem dM_feed_103 : decode prog_11_method_4_code 103 = .ok (.dup, 1) := by decide +kernel
theorem dM_feed_104 : decode prog_11_method_4_code 104 = .ok (.getfield 106, 3) := by decide +kernel
theorem dM_feed_107 : decode prog_11_method_4_code 107 = .ok (.iconst 1, 1) := by decide +kernel
theorem dM_feed_108 : decode prog_11_method_4_code 108 = .ok (.iadd, 1) := by decide +kernel
theorem dM_feed_109 : decode prog_11_method_4_code 109 = .ok (.putfield 106, 3) := by decide +kernel
theorem dM_feed_112 : decode prog_11_method_4_code 112 = .ok (.iinc 6 1, 3) := by decide +kernel
theorem dM_feed_115 : decode prog_11_method_4_code 115 = .ok (.goto (-91), 3) := by decide +kernel
theorem dM_feed_118 : decode prog_11_method_4_code 118 = .ok (.aload_n 0, 1) := by decide +kernel
theorem dM_feed_119 : decode prog_11_method_4_code 119 = .ok (.getfield 106, 3) := by decide +kernel
theorem dM_feed_122 : decode prog_11_method_4_code 122 = .ok (.ireturn, 1) := by decide +kernel
set_option maxRecDepth 100000 in
set_option maxHeartbeats 4000000 in
theorem tM_feed_J118 {X : KC} {q : Int × KM} (hX : kOk X 1 prog_11_method_4_code 8 "KeyPathModel") (hR : kRet X (some .int) q) (σ : KM) {Θ : (Int × KM) → Prop} (hT : ∀ z, Θ (z) → z = q) : kJ X 118 [lq 10, none, none, none, none, none, none, none] [] σ (fM_feed_J118 σ) Θ := by
  refine k_aload_n hX dM_feed_118 rfl ?_
  refine gf_186 hX dM_feed_119 ?_
  exact k_iret hX hR hT dM_feed_122
set_option maxRecDepth 100000 in
set_option maxHeartbeats 4000000 in
theorem tM_feed_J77 {X : KC} {q : Int × KM} (hX : kOk X 1 prog_11_method_4_code 8 "KeyPathModel") (hR : kRet X (some .int) q) (x1 x2 x3 x4 x5 x6 t0 : Int) (σ : KM) {Θ : ((Int × KM) ⊕ (Int × KM)) → Prop} (hT : ∀ z, Θ (.inr (z)) → z = q) (hb0 : ∀ s : Int × KM, Θ (.inl s) → kW X 24 [lq 10, li x1, li x2, li x3, li x4, li x5, li s.1, none] [] s.2) : kJ X 77 [lq 10, li x1, li x2, li x3, li x4, li x5, li x6, none] [ki t0] σ (fM_feed_J77 x1 x2 x3 x4 x5 x6 t0 σ) Θ := by
  refine k_istore (L' := [lq 10, li x1, li x2, li x3, li x4, li x5, li x6, li t0]) hX dM_feed_77 rfl (by decide) rfl ?_
  refine k_aload_n hX dM_feed_79 rfl ?_
  refine gf_192 hX dM_feed_80 ?_
  refine k_aload_n hX dM_feed_83 rfl ?_
  refine gf_186 hX dM_feed_84 ?_
  refine k_iload hX dM_feed_87 rfl ?_
  refine k_bipush hX dM_feed_89 (by decide) ?_
  refine k_bipush hX dM_feed_91 (by decide) ?_
  refine k_iload hX dM_feed_93 rfl ?_
  refine k_iconst hX dM_feed_95 ?_
  refine k_irem hX dM_feed_96 (fun y1 => ?_)
  refine k_imul hX dM_feed_97 ?_
  refine k_isub hX dM_feed_98 ?_
  refine k_ishr hX dM_feed_99 (fun y2 => ?_)
  refine k_i2b hX dM_feed_100 ?_
  refine k_bast hX (by decide) rfl dM_feed_101 rfl (fun τ3 => ?_)
  refine k_aload_n hX dM_feed_102 rfl ?_
  refine k_dupr hX dM_feed_103 ?_
  refine gf_186 hX dM_feed_104 ?_
  refine k_iconst hX dM_feed_107 ?_
  refine k_iadd hX dM_feed_108 ?_
  refine gp_193 hX dM_feed_109 (fun τ4 => ?_)
  refine k_iincL (Lf := fun y5 => [lq 10, li x1, li x2, li x3, li x4, li x5, li y5, li t0]) hX dM_feed_112 rfl (by decide) rfl (fun _ => rfl) (fun y5 => ?_)
  refine k_goto (tgt := 24) hX dM_feed_115 (by decide) ?_
  refine k_less [true, true, true, true, true, true, true, false] (L' := [lq 10, li x1, li x2, li x3, li x4, li x5, li y5, none]) rfl ?_
  exact k_back (hb0 (y5, τ4))
set_option maxRecDepth 100000 in
set_option maxHeartbeats 4000000 in
theorem tM_feed_B24 {X : KC} {q : Int × KM} (hX : kOk X 1 prog_11_method_4_code 8 "KeyPathModel") (hR : kRet X (some .int) q) (x1 x2 x3 x4 x5 x6 : Int) (σ : KM) {Θ : ((Int × KM) ⊕ (Int × KM)) → Prop} (hT : ∀ z, Θ (.inr (z)) → z = q) (hb0 : ∀ s : Int × KM, Θ (.inl s) → kW X 24 [lq 10, li x1, li x2, li x3, li x4, li x5, li s.1, none] [] s.2) : kJ X 24 [lq 10, li x1, li x2, li x3, li x4, li x5, li x6, none] [] σ (fM_feed_B24 x1 x2 x3 x4 x5 x6 σ) Θ := by
  refine k_iload hX dM_feed_24 rfl ?_
  refine k_bipush hX dM_feed_26 (by decide) ?_
  refine k_icmp_ge (tgt := 118) hX dM_feed_28 (by decide) ?_ ?_
  · refine k_exit ?_
    refine k_less [true, false, false, false, false, false, false, true] (L' := [lq 10, none, none, none, none, none, none, none]) rfl ?_
    exact tM_feed_J118 hX hR σ hT
  · refine k_iload hX dM_feed_31 rfl ?_
    refine k_iconst hX dM_feed_33 ?_
    refine k_icmp_ge (tgt := 41) hX dM_feed_34 (by decide) ?_ ?_
    · refine k_iload hX dM_feed_41 rfl ?_
      refine k_bipush hX dM_feed_43 (by decide) ?_
      refine k_icmp_ge (tgt := 52) hX dM_feed_45 (by decide) ?_ ?_
      · refine k_iload hX dM_feed_52 rfl ?_
        refine k_bipush hX dM_feed_54 (by decide) ?_
        refine k_icmp_ge (tgt := 63) hX dM_feed_56 (by decide) ?_ ?_
        · refine k_iload hX dM_feed_63 rfl ?_
          refine k_bipush hX dM_feed_65 (by decide) ?_
          refine k_icmp_ge (tgt := 75) hX dM_feed_67 (by decide) ?_ ?_
          · refine k_iload hX dM_feed_75 rfl ?_
            exact tM_feed_J77 hX hR x1 x2 x3 x4 x5 x6 x5 σ hT hb0
          · refine k_iload hX dM_feed_70 rfl ?_
            refine k_goto (tgt := 77) hX dM_feed_72 (by decide) ?_
            exact tM_feed_J77 hX hR x1 x2 x3 x4 x5 x6 x4 σ hT hb0
        · refine k_iload_n hX dM_feed_59 rfl ?_
          refine k_goto (tgt := 77) hX dM_feed_60 (by decide) ?_
          exact tM_feed_J77 hX hR x1 x2 x3 x4 x5 x6 x3 σ hT hb0
      · refine k_iload_n hX dM_feed_48 rfl ?_
        refine k_goto (tgt := 77) hX dM_feed_49 (by decide) ?_
        exact tM_feed_J77 hX hR x1 x2 x3 x4 x5 x6 x2 σ hT hb0
    · refine k_iload_n hX dM_feed_37 rfl ?_
      refine k_goto (tgt := 77) hX dM_feed_38 (by decide) ?_
      exact tM_feed_J77 hX hR x1 x2 x3 x4 x5 x6 x1 σ hT hb0
set_option maxRecDepth 100000 in
set_option maxHeartbeats 4000000 in
theorem tM_feed_L24 {X : KC} {q : Int × KM} (hX : kOk X 1 prog_11_method_4_code 8 "KeyPathModel") (hR : kRet X (some .int) q) (x1 x2 x3 x4 x5 x6 : Int) (σ : KM) {Θ : (Int × KM) → Prop} (hT : ∀ z, Θ (z) → z = q) : kJ X 24 [lq 10, li x1, li x2, li x3, li x4, li x5, li x6, none] [] σ (fM_feed_L24 x1 x2 x3 x4 x5 x6 σ) Θ :=
  k_iter (f := fun s => fM_feed_B24 x1 x2 x3 x4 x5 s.1 s.2) (Lf := fun s => [lq 10, li x1, li x2, li x3, li x4, li x5, li s.1, none]) (mf := fun s => s.2) (Θ := Θ) (fun s => tM_feed_B24 hX hR x1 x2 x3 x4 x5 s.1 s.2 hT (fun _ h9 => h9)) kF (x6, σ)
set_option maxRecDepth 100000 in
set_option maxHeartbeats 4000000 in
theorem sM_feed (x1 x2 x3 x4 x5 : Int) (σ : KM) : kSem 1 (⟨"KeyPathModel", "feed", "(IIIII)I"⟩ : MethodName) prog_11_method_4_code 8 (some .int) [kr 10, ki x1, ki x2, ki x3, ki x4, ki x5] σ (fM_feed x1 x2 x3 x4 x5 σ) := by
  refine kSem.of (L0 := [lq 10, li x1, li x2, li x3, li x4, li x5, none, none]) (by decide) (Nat.le_of_ble_eq_true rfl) rfl (fun X q hX hR => ?_)
  have hT : ∀ z : Int × KM, (fun z => z = q) z → z = q := fun _ h => h
  refine k_aload_n hX dM_feed_0 rfl ?_
  refine k_iconst hX dM_feed_1 ?_
  refine gp_157 hX dM_feed_2 (fun τ1 => ?_)
  refine k_aload_n hX dM_feed_5 rfl ?_
  refine gf_186 hX dM_feed_6 ?_
  refine k_bipush hX dM_feed_9 (by decide) ?_
  refine k_iadd hX dM_feed_11 ?_
  refine k_sipush hX dM_feed_12 (by decide) ?_
  refine k_icmp_le (tgt := 21) hX dM_feed_15 (by decide) ?_ ?_
  · refine k_iconst hX dM_feed_21 ?_
    refine k_istore (L' := [lq 10, li x1, li x2, li x3, li x4, li x5, li 0, none]) hX dM_feed_22 rfl (by decide) rfl ?_
    exact tM_feed_L24 hX hR x1 x2 x3 x4 x5 0 τ1 hT
  · refine k_bipush hX dM_feed_18 (by decide) ?_
    exact k_iret hX hR hT dM_feed_20
theorem dM_firm_0 : decode prog_11_method_71_code 0 = .ok (.aload_n 0, 1) := by decide +kernel
theorem dM_firm_1 : decode prog_11_method_71_code 1 = .ok (.iconst 0, 1) := by decide +kernel
theorem dM_firm_2 : decode prog_11_method_71_code 2 = .ok (.putfield 1, 3) := by decide +kernel
theorem dM_firm_5 : decode prog_11_method_71_code 5 = .ok (.aload_n 0, 1) := by decide +kernel
theorem dM_firm_6 : decode prog_11_method_71_code 6 = .ok (.invokevirtual 281, 3) := by decide +kernel
theorem dM_firm_9 : decode prog_11_method_71_code 9 = .ok (.aload_n 0, 1) := by decide +kernel
theorem dM_firm_10 : decode prog_11_method_71_code 10 = .ok (.aload_n 0, 1) := by decide +kernel
theorem dM_firm_11 : decode prog_11_method_71_code 11 = .ok (.getfield 50, 3) := by decide +kernel
theorem dM_firm_14 : decode prog_11_method_71_code 14 = .ok (.invokevirtual 284, 3) := by decide +kernel
theorem dM_firm_17 : decode prog_11_method_71_code 17 = .ok (.ifCond .ne 6, 3) := by decide +kernel
theorem dM_firm_20 : decode prog_11_method_71_code 20 = .ok (.bipush (-5), 2) := by decide +kernel
theorem dM_firm_22 : decode prog_11_method_71_code 22 = .ok (.ireturn, 1) := by decide +kernel
theorem dM_firm_23 : decode prog_11_method_71_code 23 = .ok (.iconst 0, 1) := by decide +kernel
theorem dM_firm_24 : decode prog_11_method_71_code 24 = .ok (.istore_n 1, 1) := by decide +kernel
theorem dM_firm_25 : decode prog_11_method_71_code 25 = .ok (.iload_n 1, 1) := by decide +kernel
theorem dM_firm_26 : decode prog_11_method_71_code 26 = .ok (.bipush 100, 2) := by decide +kernel
theorem dM_firm_28 : decode prog_11_method_71_code 28 = .ok (.if_icmp .gt 25, 3) := by decide +kernel
theorem dM_firm_31 : decode prog_11_method_71_code 31 = .ok (.aload_n 0, 1) := by decide +kernel
theorem dM_firm_32 : decode prog_11_method_71_code 32 = .ok (.iload_n 1, 1) := by decide +kernel
theorem dM_firm_33 : decode prog_11_method_71_code 33 = .ok (.invokevirtual 284, 3) := by decide +kernel
theorem dM_firm_36 : decode prog_11_method_71_code 36 = .ok (.istore_n 2, 1) := by decide +kernel
theorem dM_firm_37 : decode prog_11_method_71_code 37 = .ok (.aload_n 0, 1) := by decide +kernel
theorem dM_firm_38 : decode prog_11_method_71_code 38 = .ok (.invokevirtual 306, 3) := by decide +kernel
theorem dM_firm_41 : decode prog_11_method_71_code 41 = .ok (.iconst 1, 1) := by decide +kernel
theorem dM_firm_42 : decode prog_11_method_71_code 42 = .ok (.if_icmp .gt 5, 3) := by decide +kernel
theorem dM_firm_45 : decode prog_11_method_71_code 45 = .ok (.iload_n 1, 1) := by decide +kernel
theorem dM_firm_46 : decode prog_11_method_71_code 46 = .ok (.ireturn, 1) := by decide +kernel
theorem dM_firm_47 : decode prog_11_method_71_code 47 = .ok (.iinc 1 1, 3) := by decide +kernel
theorem dM_firm_50 : decode prog_11_method_71_code 50 = .ok (.goto (-25), 3) := by decide +kernel
theorem dM_firm_53 : decode prog_11_method_71_code 53 = .ok (.iconst (-1), 1) := by decide +kernel
theorem dM_firm_54 : decode prog_11_method_71_code 54 = .ok (.ireturn, 1) := by decide +kernel
set_option maxRecDepth 100000 in
set_option maxHeartbeats 4000000 in
theorem tM_firm_J53 {X : KC} {q : Int × KM} (hX : kOk X 5 prog_11_method_71_code 3 "KeyPathModel") (hR : kRet X (some .int) q) (σ : KM) {Θ : (Int × KM) → Prop} (hT : ∀ z, Θ (z) → z = q) : kJ X 53 [lq 10, none, none] [] σ (fM_firm_J53 σ) Θ := by
  refine k_iconst hX dM_firm_53 ?_
  exact k_iret hX hR hT dM_firm_54
set_option maxRecDepth 100000 in
set_option maxHeartbeats 4000000 in
theorem tM_firm_J45 {X : KC} {q : Int × KM} (hX : kOk X 5 prog_11_method_71_code 3 "KeyPathModel") (hR : kRet X (some .int) q) (x1 : Int) (σ : KM) {Θ : (Int × KM) → Prop} (hT : ∀ z, Θ (z) → z = q) : kJ X 45 [lq 10, li x1, none] [] σ (fM_firm_J45 x1 σ) Θ := by
  refine k_iload_n hX dM_firm_45 rfl ?_
  exact k_iret hX hR hT dM_firm_46
set_option maxRecDepth 100000 in
set_option maxHeartbeats 4000000 in
theorem tM_firm_B25 {X : KC} {q : Int × KM} (hX : kOk X 5 prog_11_method_71_code 3 "KeyPathModel") (hR : kRet X (some .int) q) (x1 : Int) (σ : KM) {Θ : ((Int × KM) ⊕ (Int × KM)) → Prop} (hT : ∀ z, Θ (.inr (z)) → z = q) (hb0 : ∀ s : Int × KM, Θ (.inl s) → kW X 25 [lq 10, li s.1, none] [] s.2) : kJ X 25 [lq 10, li x1, none] [] σ (fM_firm_B25 x1 σ) Θ := by
  refine k_iload_n hX dM_firm_25 rfl ?_
  refine k_bipush hX dM_firm_26 (by decide) ?_
  refine k_icmp_gt (tgt := 53) hX dM_firm_28 (by decide) ?_ ?_
  · refine k_exit ?_
    refine k_less [true, false, true] (L' := [lq 10, none, none]) rfl ?_
    exact tM_firm_J53 hX hR σ hT
  · refine k_aload_n hX dM_firm_31 rfl ?_
    refine k_iload_n hX dM_firm_32 rfl ?_
    refine cl_135 hX (by decide) (Nat.le_of_ble_eq_true rfl) dM_firm_33 (fun r2 τ1 => ?_)
    refine k_istore_n (L' := [lq 10, li x1, li r2]) hX dM_firm_36 rfl (by decide) rfl ?_
    refine k_aload_n hX dM_firm_37 rfl ?_
    refine cl_138 hX (by decide) (Nat.le_of_ble_eq_true rfl) dM_firm_38 (fun r4 τ3 => ?_)
    refine k_iconst hX dM_firm_41 ?_
    refine k_icmp_gt (tgt := 47) hX dM_firm_42 (by decide) ?_ ?_
    · refine k_iincL (Lf := fun y5 => [lq 10, li y5, li r2]) hX dM_firm_47 rfl (by decide) rfl (fun _ => rfl) (fun y5 => ?_)
      refine k_goto (tgt := 25) hX dM_firm_50 (by decide) ?_
      refine k_less [true, true, false] (L' := [lq 10, li y5, none]) rfl ?_
      exact k_back (hb0 (y5, τ3))
    · refine k_exit ?_
      refine k_less [true, true, false] (L' := [lq 10, li x1, none]) rfl ?_
      exact tM_firm_J45 hX hR x1 τ3 hT
set_option maxRecDepth 100000 in
set_option maxHeartbeats 4000000 in
theorem tM_firm_L25 {X : KC} {q : Int × KM} (hX : kOk X 5 prog_11_method_71_code 3 "KeyPathModel") (hR : kRet X (some .int) q) (x1 : Int) (σ : KM) {Θ : (Int × KM) → Prop} (hT : ∀ z, Θ (z) → z = q) : kJ X 25 [lq 10, li x1, none] [] σ (fM_firm_L25 x1 σ) Θ :=
  k_iter (f := fun s => fM_firm_B25 s.1 s.2) (Lf := fun s => [lq 10, li s.1, none]) (mf := fun s => s.2) (Θ := Θ) (fun s => tM_firm_B25 hX hR s.1 s.2 hT (fun _ h9 => h9)) kF (x1, σ)
set_option maxRecDepth 100000 in
set_option maxHeartbeats 4000000 in
theorem sM_firm (σ : KM) : kSem 5 (⟨"KeyPathModel", "firm", "()I"⟩ : MethodName) prog_11_method_71_code 3 (some .int) [kr 10] σ (fM_firm σ) := by
  refine kSem.of (L0 := [lq 10, none, none]) (by decide) (Nat.le_of_ble_eq_true rfl) rfl (fun X q hX hR => ?_)
  have hT : ∀ z : Int × KM, (fun z => z = q) z → z = q := fun _ h => h
  refine k_aload_n hX dM_firm_0 rfl ?_
  refine k_iconst hX dM_firm_1 ?_
  refine gp_157 hX dM_firm_2 (fun τ1 => ?_)
  refine k_aload_n hX dM_firm_5 rfl ?_
  refine cl_132 hX (by decide) (Nat.le_of_ble_eq_true rfl) dM_firm_6 (fun _ τ2 => ?_)
  refine k_aload_n hX dM_firm_9 rfl ?_
  refine k_aload_n hX dM_firm_10 rfl ?_
  refine gf_179 hX dM_firm_11 ?_
  refine cl_135 hX (by decide) (Nat.le_of_ble_eq_true rfl) dM_firm_14 (fun r4 τ3 => ?_)
  refine k_if_ne (tgt := 23) hX dM_firm_17 (by decide) ?_ ?_
  · refine k_iconst hX dM_firm_23 ?_
    refine k_istore_n (L' := [lq 10, li 0, none]) hX dM_firm_24 rfl (by decide) rfl ?_
    exact tM_firm_L25 hX hR 0 τ3 hT
  · refine k_bipush hX dM_firm_20 (by decide) ?_
    exact k_iret hX hR hT dM_firm_22
theorem dM_fit_0 : decode prog_11_method_40_code 0 = .ok (.aload_n 0, 1) := by decide +kernel
theorem dM_fit_1 : decode prog_11_method_40_code 1 = .ok (.iconst 0, 1) := by decide +kernel
theorem dM_fit_2 : decode prog_11_method_40_code 2 = .ok (.putfield 1, 3) := by decide +kernel
theorem dM_fit_5 : decode prog_11_method_40_code 5 = .ok (.aload_n 0, 1) := by decide +kernel
theorem dM_fit_6 : decode prog_11_method_40_code 6 = .ok (.iload_n 1, 1) := by decide +kernel
theorem dM_fit_7 : decode prog_11_method_40_code 7 = .ok (.invokevirtual 229, 3) := by decide +kernel
theorem dM_fit_10 : decode prog_11_method_40_code 10 = .ok (.ifCond .eq 10, 3) := by decide +kernel
theorem dM_fit_13 : decode prog_11_method_40_code 13 = .ok (.iload_n 2, 1) := by decide +kernel
theorem dM_fit_14 : decode prog_11_method_40_code 14 = .ok (.invokestatic 220, 3) := by decide +kernel
theorem dM_fit_17 : decode prog_11_method_40_code 17 = .ok (.ifCond .ne 6, 3) := by decide +kernel
theorem dM_fit_20 : decode prog_11_method_40_code 20 = .ok (.bipush (-2), 2) := by decide +kernel
theorem dM_fit_22 : decode prog_11_method_40_code 22 = .ok (.ireturn, 1) := by decide +kernel
theorem dM_fit_23 : decode prog_11_method_40_code 23 = .ok (.aload_n 0, 1) := by decide +kernel
theorem dM_fit_24 : decode prog_11_method_40_code 24 = .ok (.iload_n 1, 1) := by decide +kernel
theorem dM_fit_25 : decode prog_11_method_40_code 25 = .ok (.invokevirtual 232, 3) := by decide +kernel
theorem dM_fit_28 : decode prog_11_method_40_code 28 = .ok (.aload_n 0, 1) := by decide +kernel
theorem dM_fit_29 : decode prog_11_method_40_code 29 = .ok (.iload_n 2, 1) := by decide +kernel
theorem dM_fit_30 : decode prog_11_method_40_code 30 = .ok (.invokevirtual 242, 3) := by decide +kernel
theorem dM_fit_33 : decode prog_11_method_40_code 33 = .ok (.ireturn, 1) := by decide +kernel
set_option maxRecDepth 100000 in
set_option maxHeartbeats 4000000 in
theorem tM_fit_J20 {X : KC} {q : Int × KM} (hX : kOk X 5 prog_11_method_40_code 3 "KeyPathModel") (hR : kRet X (some .int) q) (σ : KM) {Θ : (Int × KM) → Prop} (hT : ∀ z, Θ (z) → z = q) : kJ X 20 [lq 10, none, none] [] σ (fM_fit_J20 σ) Θ := by
  refine k_bipush hX dM_fit_20 (by decide) ?_
  exact k_iret hX hR hT dM_fit_22
set_option maxRecDepth 100000 in
set_option maxHeartbeats 4000000 in
theorem sM_fit (x1 x2 : Int) (σ : KM) : kSem 5 (⟨"KeyPathModel", "fit", "(II)I"⟩ : MethodName) prog_11_method_40_code 3 (some .int) [kr 10, ki x1, ki x2] σ (fM_fit x1 x2 σ) := by
  refine kSem.of (L0 := [lq 10, li x1, li x2]) (by decide) (Nat.le_of_ble_eq_true rfl) rfl (fun X q hX hR => ?_)
  have hT : ∀ z : Int × KM, (fun z => z = q) z → z = q := fun _ h => h
  refine k_aload_n hX dM_fit_0 rfl ?_
  refine k_iconst hX dM_fit_1 ?_
  refine gp_157 hX dM_fit_2 (fun τ1 => ?_)
  refine k_aload_n hX dM_fit_5 rfl ?_
  refine k_iload_n hX dM_fit_6 rfl ?_
  refine cl_121 hX (by decide) (Nat.le_of_ble_eq_true rfl) dM_fit_7 (fun r3 τ2 => ?_)
  refine k_if_eq (tgt := 20) hX dM_fit_10 (by decide) ?_ ?_
  · refine k_less [true, false, false] (L' := [lq 10, none, none]) rfl ?_
    exact tM_fit_J20 hX hR τ2 hT
  · refine k_iload_n hX dM_fit_13 rfl ?_
    refine cl_143 hX (by decide) (Nat.le_of_ble_eq_true rfl) dM_fit_14 (fun r5 τ4 => ?_)
    refine k_if_ne (tgt := 23) hX dM_fit_17 (by decide) ?_ ?_
    · refine k_aload_n hX dM_fit_23 rfl ?_
      refine k_iload_n hX dM_fit_24 rfl ?_
      refine cl_123 hX (by decide) (Nat.le_of_ble_eq_true rfl) dM_fit_25 (fun _ τ6 => ?_)
      refine k_aload_n hX dM_fit_28 rfl ?_
      refine k_iload_n hX dM_fit_29 rfl ?_
      refine cl_131 hX (by decide) (Nat.le_of_ble_eq_true rfl) dM_fit_30 (fun r8 τ7 => ?_)
      exact k_iret hX hR hT dM_fit_33
    · refine k_less [true, false, false] (L' := [lq 10, none, none]) rfl ?_
      exact tM_fit_J20 hX hR τ4 hT
theorem dM_isOn_0 : decode prog_11_method_87_code 0 = .ok (.iload_n 1, 1) := by decide +kernel
theorem dM_isOn_1 : decode prog_11_method_87_code 1 = .ok (.ifCond .eq 9, 3) := by decide +kernel
theorem dM_isOn_4 : decode prog_11_method_87_code 4 = .ok (.sipush 1453, 3) := by decide +kernel
theorem dM_isOn_7 : decode prog_11_method_87_code 7 = .ok (.goto 6, 3) := by decide +kernel
theorem dM_isOn_10 : decode prog_11_method_87_code 10 = .ok (.sipush 2741, 3) := by decide +kernel
theorem dM_isOn_13 : decode prog_11_method_87_code 13 = .ok (.istore_n 2, 1) := by decide +kernel
theorem dM_isOn_14 : decode prog_11_method_87_code 14 = .ok (.iload_n 2, 1) := by decide +kernel
theorem dM_isOn_15 : decode prog_11_method_87_code 15 = .ok (.iload_n 0, 1) := by decide +kernel
theorem dM_isOn_16 : decode prog_11_method_87_code 16 = .ok (.ishr, 1) := by decide +kernel
theorem dM_isOn_17 : decode prog_11_method_87_code 17 = .ok (.iconst 1, 1) := by decide +kernel
theorem dM_isOn_18 : decode prog_11_method_87_code 18 = .ok (.iand, 1) := by decide +kernel
theorem dM_isOn_19 : decode prog_11_method_87_code 19 = .ok (.iconst 1, 1) := by decide +kernel
theorem dM_isOn_20 : decode prog_11_method_87_code 20 = .ok (.if_icmp .ne 7, 3) := by decide +kernel
theorem dM_isOn_23 : decode prog_11_method_87_code 23 = .ok (.iconst 1, 1) := by decide +kernel
theorem dM_isOn_24 : decode prog_11_method_87_code 24 = .ok (.goto 4, 3) := by decide +kernel
theorem dM_isOn_27 : decode prog_11_method_87_code 27 = .ok (.iconst 0, 1) := by decide +kernel
theorem dM_isOn_28 : decode prog_11_method_87_code 28 = .ok (.ireturn, 1) := by decide +kernel
set_option maxRecDepth 100000 in
set_option maxHeartbeats 4000000 in
theorem tM_isOn_J28 {X : KC} {q : Int × KM} (hX : kOk X 1 prog_11_method_87_code 3 "KeyPathModel") (hR : kRet X (some .boolean) q) (t0 : Int) (σ : KM) {Θ : (Int × KM) → Prop} (hT : ∀ z, Θ (z) → z = q) : kJ X 28 [none, none, none] [ki t0] σ (fM_isOn_J28 t0 σ) Θ := by
  exact k_zret hX hR hT dM_isOn_28
set_option maxRecDepth 100000 in
set_option maxHeartbeats 4000000 in
theorem tM_isOn_J13 {X : KC} {q : Int × KM} (hX : kOk X 1 prog_11_method_87_code 3 "KeyPathModel") (hR : kRet X (some .boolean) q) (x0 t0 : Int) (σ : KM) {Θ : (Int × KM) → Prop} (hT : ∀ z, Θ (z) → z = q) : kJ X 13 [li x0, none, none] [ki t0] σ (fM_isOn_J13 x0 t0 σ) Θ := by
  refine k_istore_n (L' := [li x0, none, li t0]) hX dM_isOn_13 rfl (by decide) rfl ?_
  refine k_iload_n hX dM_isOn_14 rfl ?_
  refine k_iload_n hX dM_isOn_15 rfl ?_
  refine k_ishr hX dM_isOn_16 (fun y1 => ?_)
  refine k_iconst hX dM_isOn_17 ?_
  refine k_iand hX dM_isOn_18 (fun y2 => ?_)
  refine k_iconst hX dM_isOn_19 ?_
  refine k_icmp_ne (tgt := 27) hX dM_isOn_20 (by decide) ?_ ?_
  · refine k_iconst hX dM_isOn_27 ?_
    refine k_less [false, true, false] (L' := [none, none, none]) rfl ?_
    exact tM_isOn_J28 hX hR 0 σ hT
  · refine k_iconst hX dM_isOn_23 ?_
    refine k_goto (tgt := 28) hX dM_isOn_24 (by decide) ?_
    refine k_less [false, true, false] (L' := [none, none, none]) rfl ?_
    exact tM_isOn_J28 hX hR 1 σ hT
set_option maxRecDepth 100000 in
set_option maxHeartbeats 4000000 in
theorem sM_isOn (x0 x1 : Int) (σ : KM) : kSem 1 (⟨"KeyPathModel", "isOn", "(IZ)Z"⟩ : MethodName) prog_11_method_87_code 3 (some .boolean) [ki x0, ki x1] σ (fM_isOn x0 x1 σ) := by
  refine kSem.of (L0 := [li x0, li x1, none]) (by decide) (Nat.le_of_ble_eq_true rfl) rfl (fun X q hX hR => ?_)
  have hT : ∀ z : Int × KM, (fun z => z = q) z → z = q := fun _ h => h
  refine k_iload_n hX dM_isOn_0 rfl ?_
  refine k_if_eq (tgt := 10) hX dM_isOn_1 (by decide) ?_ ?_
  · refine k_sipush hX dM_isOn_10 (by decide) ?_
    refine k_less [true, false, true] (L' := [li x0, none, none]) rfl ?_
    exact tM_isOn_J13 hX hR x0 2741 σ hT
  · refine k_sipush hX dM_isOn_4 (by decide) ?_
    refine k_goto (tgt := 13) hX dM_isOn_7 (by decide) ?_
    refine k_less [true, false, true] (L' := [li x0, none, none]) rfl ?_
    exact tM_isOn_J13 hX hR x0 1453 σ hT
theorem cl_146 {X : KC} {d n : Nat} {cc : ByteArray} {pc : Nat} {L : List (Option KV)} {st : List KV} {σ : KM} {Z : Type} {Θ : Z → Prop} {G : Int → KM → Option Z} {x0 x1 : Int} (hX : kOk X d cc n "KeyPathModel") (hdd : 1 + 1 ≤ d) (hst : k_cat st ≤ 8) (hd : decode cc pc = .ok (.invokestatic 327, 3)) (h : ∀ r τ, kJ X (pc + 3) L (ki r :: st) τ (G r τ) Θ) : kJ X pc L (ki x1 :: ki x0 :: st) σ (kCall (fM_isOn x0 x1 σ) G) Θ :=
  k_callS (np := 2) (av := [ki x0, ki x1]) (ret := (some .boolean)) hX (sM_isOn _ _ σ) ⟨⟨hdd, by decide⟩, tw_1468, tw_11, by decide +kernel⟩ rfl tw_1466 tw_1467 hst hd h
theorem dM_foreign_0 : decode prog_11_method_88_code 0 = .ok (.aload_n 0, 1) := by decide +kernel
theorem dM_foreign_1 : decode prog_11_method_88_code 1 = .ok (.iconst 0, 1) := by decide +kernel
theorem dM_foreign_2 : decode prog_11_method_88_code 2 = .ok (.putfield 1, 3) := by decide +kernel
theorem dM_foreign_5 : decode prog_11_method_88_code 5 = .ok (.aload_n 0, 1) := by decide +kernel
theorem dM_foreign_6 : decode prog_11_method_88_code 6 = .ok (.iload_n 1, 1) := by decide +kernel
theorem dM_foreign_7 : decode prog_11_method_88_code 7 = .ok (.invokevirtual 229, 3) := by decide +kernel
theorem dM_foreign_10 : decode prog_11_method_88_code 10 = .ok (.ifCond .eq 10, 3) := by decide +kernel
theorem dM_foreign_13 : decode prog_11_method_88_code 13 = .ok (.iload_n 2, 1) := by decide +kernel
theorem dM_foreign_14 : decode prog_11_method_88_code 14 = .ok (.invokestatic 220, 3) := by decide +kernel
theorem dM_foreign_17 : decode prog_11_method_88_code 17 = .ok (.ifCond .ne 6, 3) := by decide +kernel
theorem dM_foreign_20 : decode prog_11_method_88_code 20 = .ok (.bipush (-2), 2) := by decide +kernel
theorem dM_foreign_22 : decode prog_11_method_88_code 22 = .ok (.ireturn, 1) := by decide +kernel
theorem dM_foreign_23 : decode prog_11_method_88_code 23 = .ok (.aload_n 0, 1) := by decide +kernel
theorem dM_foreign_24 : decode prog_11_method_88_code 24 = .ok (.iload_n 1, 1) := by decide +kernel
theorem dM_foreign_25 : decode prog_11_method_88_code 25 = .ok (.invokevirtual 232, 3) := by decide +kernel
theorem dM_foreign_28 : decode prog_11_method_88_code 28 = .ok (.iconst 0, 1) := by decide +kernel
theorem dM_foreign_29 : decode prog_11_method_88_code 29 = .ok (.istore_n 3, 1) := by decide +kernel
theorem dM_foreign_30 : decode prog_11_method_88_code 30 = .ok (.iconst 0, 1) := by decide +kernel
theorem dM_foreign_31 : decode prog_11_method_88_code 31 = .ok (.istore 4, 2) := by decide +kernel
theorem dM_foreign_33 : decode prog_11_method_88_code 33 = .ok (.iload 4, 2) := by decide +kernel
theorem dM_foreign_35 : decode prog_11_method_88_code 35 = .ok (.bipush 12, 2) := by decide +kernel
theorem dM_foreign_37 : decode prog_11_method_88_code 37 = .ok (.if_icmp .ge 53, 3) := by decide +kernel
theorem dM_foreign_40 : decode prog_11_method_88_code 40 = .ok (.iload_n 3, 1) := by decide +kernel
theorem dM_foreign_41 : decode prog_11_method_88_code 41 = .ok (.iload 4, 2) := by decide +kernel
theorem dM_foreign_43 : decode prog_11_method_88_code 43 = .ok (.iload_n 2, 1) := by decide +kernel
theorem dM_foreign_44 : decode prog_11_method_88_code 44 = .ok (.bipush 12, 2) := by decide +kernel
theorem dM_foreign_46 : decode prog_11_method_88_code 46 = .ok (.irem, 1) := by decide +kernel
theorem dM_foreign_47 : decode prog_11_method_88_code 47 = .ok (.isub, 1) := by decide +kernel
theorem dM_foreign_48 : decode prog_11_method_88_code 48 = .ok (.bipush 12, 2) := by decide +kernel
theorem dM_foreign_50 : decode prog_11_method_88_code 50 = .ok (.iadd, 1) := by decide +kernel
theorem dM_foreign_51 : decode prog_11_method_88_code 51 = .ok (.bipush 12, 2) := by decide +kernel
theorem dM_foreign_53 : decode prog_11_method_88_code 53 = .ok (.irem, 1) := by decide +kernel
theorem dM_foreign_54 : decode prog_11_method_88_code 54 = .ok (.iload_n 2, 1) := by decide +kernel
theorem dM_foreign_55 : decode prog_11_method_88_code 55 = .ok (.bipush 12, 2) := by decide +kernel
theorem dM_foreign_57 : decode prog_11_method_88_code 57 = .ok (.if_icmp .lt 7, 3) := by decide +kernel
theorem dM_foreign_60 : decode prog_11_method_88_code 60 = .ok (.iconst 1, 1) := by decide +kernel
theorem dM_foreign_61 : decode prog_11_method_88_code 61 = .ok (.goto 4, 3) := by decide +kernel
theorem dM_foreign_64 : decode prog_11_method_88_code 64 = .ok (.iconst 0, 1) := by decide +kernel
theorem dM_foreign_65 : decode prog_11_method_88_code 65 = .ok (.invokestatic 327, 3) := by decide +kernel
theorem dM_foreign_68 : decode prog_11_method_88_code 68 = .ok (.ifCond .eq 7, 3) := by decide +kernel
theorem dM_foreign_71 : decode prog_11_method_88_code 71 = .ok (.iconst 0, 1) := by decide +kernel
theorem dM_foreign_72 : decode prog_11_method_88_code 72 = .ok (.goto 10, 3) := by decide +kernel
theorem dM_foreign_75 : decode prog_11_method_88_code 75 = .ok (.aload_n 0, 1) := by decide +kernel
theorem dM_foreign_76 : decode prog_11_method_88_code 76 = .ok (.getfield 66, 3) := by decide +kernel
theorem dM_foreign_79 : decode prog_11_method_88_code 79 = .ok (.iload 4, 2) := by decide +kernel
theorem dM_foreign_81 : decode prog_11_method_88_code 81 = .ok (.iaload, 1) := by decide +kernel
theorem dM_foreign_82 : decode prog_11_method_88_code 82 = .ok (.iadd, 1) := by decide +kernel
theorem dM_foreign_83 : decode prog_11_method_88_code 83 = .ok (.istore_n 3, 1) := by decide +kernel
theorem dM_foreign_84 : decode prog_11_method_88_code 84 = .ok (.iinc 4 1, 3) := by decide +kernel
theorem dM_foreign_87 : decode prog_11_method_88_code 87 = .ok (.goto (-54), 3) := by decide +kernel
theorem dM_foreign_90 : decode prog_11_method_88_code 90 = .ok (.iload_n 3, 1) := by decide +kernel
theorem dM_foreign_91 : decode prog_11_method_88_code 91 = .ok (.ireturn, 1) := by decide +kernel
set_option maxRecDepth 100000 in
set_option maxHeartbeats 4000000 in
theorem tM_foreign_J20 {X : KC} {q : Int × KM} (hX : kOk X 5 prog_11_method_88_code 5 "KeyPathModel") (hR : kRet X (some .int) q) (σ : KM) {Θ : (Int × KM) → Prop} (hT : ∀ z, Θ (z) → z = q) : kJ X 20 [lq 10, none, none, none, none] [] σ (fM_foreign_J20 σ) Θ := by
  refine k_bipush hX dM_foreign_20 (by decide) ?_
  exact k_iret hX hR hT dM_foreign_22
set_option maxRecDepth 100000 in
set_option maxHeartbeats 4000000 in
theorem tM_foreign_J90 {X : KC} {q : Int × KM} (hX : kOk X 5 prog_11_method_88_code 5 "KeyPathModel") (hR : kRet X (some .int) q) (x3 : Int) (σ : KM) {Θ : (Int × KM) → Prop} (hT : ∀ z, Θ (z) → z = q) : kJ X 90 [lq 10, none, none, li x3, none] [] σ (fM_foreign_J90 x3 σ) Θ := by
  refine k_iload_n hX dM_foreign_90 rfl ?_
  exact k_iret hX hR hT dM_foreign_91
set_option maxRecDepth 100000 in
set_option maxHeartbeats 4000000 in
theorem tM_foreign_J82 {X : KC} {q : Int × KM} (hX : kOk X 5 prog_11_method_88_code 5 "KeyPathModel") (hR : kRet X (some .int) q) (x2 x4 t0 t1 : Int) (σ : KM) {Θ : ((Int × Int × KM) ⊕ (Int × KM)) → Prop} (hT : ∀ z, Θ (.inr (z)) → z = q) (hb0 : ∀ s : Int × Int × KM, Θ (.inl s) → kW X 33 [lq 10, none, li x2, li s.1, li s.2.1] [] s.2.2) : kJ X 82 [lq 10, none, li x2, none, li x4] [ki t0, ki t1] σ (fM_foreign_J82 x2 x4 t0 t1 σ) Θ := by
  refine k_iadd hX dM_foreign_82 ?_
  refine k_istoreL_n (Lf := fun y1 => [lq 10, none, li x2, li y1, li x4]) hX dM_foreign_83 rfl (by decide) (fun _ => rfl) (fun y1 => ?_)
  refine k_iincL (Lf := fun y2 => [lq 10, none, li x2, li y1, li y2]) hX dM_foreign_84 rfl (by decide) rfl (fun _ => rfl) (fun y2 => ?_)
  refine k_goto (tgt := 33) hX dM_foreign_87 (by decide) ?_
  exact k_back (hb0 (y1, y2, σ))
set_option maxRecDepth 100000 in
set_option maxHeartbeats 4000000 in
theorem tM_foreign_J65 {X : KC} {q : Int × KM} (hX : kOk X 5 prog_11_method_88_code 5 "KeyPathModel") (hR : kRet X (some .int) q) (x2 x4 t0 t1 t2 : Int) (σ : KM) {Θ : ((Int × Int × KM) ⊕ (Int × KM)) → Prop} (hT : ∀ z, Θ (.inr (z)) → z = q) (hb0 : ∀ s : Int × Int × KM, Θ (.inl s) → kW X 33 [lq 10, none, li x2, li s.1, li s.2.1] [] s.2.2) : kJ X 65 [lq 10, none, li x2, none, li x4] [ki t0, ki t1, ki t2] σ (fM_foreign_J65 x2 x4 t0 t1 t2 σ) Θ := by
  refine cl_146 hX (by decide) (Nat.le_of_ble_eq_true rfl) dM_foreign_65 (fun r2 τ1 => ?_)
  refine k_if_eq (tgt := 75) hX dM_foreign_68 (by decide) ?_ ?_
  · refine k_aload_n hX dM_foreign_75 rfl ?_
    refine gf_164 hX dM_foreign_76 ?_
    refine k_iload hX dM_foreign_79 rfl ?_
    refine k_iald hX (by decide) rfl dM_foreign_81 rfl (fun y3 => ?_)
    exact tM_foreign_J82 hX hR x2 x4 y3 t2 τ1 hT hb0
  · refine k_iconst hX dM_foreign_71 ?_
    refine k_goto (tgt := 82) hX dM_foreign_72 (by decide) ?_
    exact tM_foreign_J82 hX hR x2 x4 0 t2 τ1 hT hb0
set_option maxRecDepth 100000 in
set_option maxHeartbeats 4000000 in
theorem tM_foreign_B33 {X : KC} {q : Int × KM} (hX : kOk X 5 prog_11_method_88_code 5 "KeyPathModel") (hR : kRet X (some .int) q) (x2 x3 x4 : Int) (σ : KM) {Θ : ((Int × Int × KM) ⊕ (Int × KM)) → Prop} (hT : ∀ z, Θ (.inr (z)) → z = q) (hb0 : ∀ s : Int × Int × KM, Θ (.inl s) → kW X 33 [lq 10, none, li x2, li s.1, li s.2.1] [] s.2.2) : kJ X 33 [lq 10, none, li x2, li x3, li x4] [] σ (fM_foreign_B33 x2 x3 x4 σ) Θ := by
  refine k_iload hX dM_foreign_33 rfl ?_
  refine k_bipush hX dM_foreign_35 (by decide) ?_
  refine k_icmp_ge (tgt := 90) hX dM_foreign_37 (by decide) ?_ ?_
  · refine k_exit ?_
    refine k_less [true, true, false, true, false] (L' := [lq 10, none, none, li x3, none]) rfl ?_
    exact tM_foreign_J90 hX hR x3 σ hT
  · refine k_iload_n hX dM_foreign_40 rfl ?_
    refine k_iload hX dM_foreign_41 rfl ?_
    refine k_iload_n hX dM_foreign_43 rfl ?_
    refine k_bipush hX dM_foreign_44 (by decide) ?_
    refine k_irem hX dM_foreign_46 (fun y1 => ?_)
    refine k_isub hX dM_foreign_47 ?_
    refine k_bipush hX dM_foreign_48 (by decide) ?_
    refine k_iadd hX dM_foreign_50 ?_
    refine k_bipush hX dM_foreign_51 (by decide) ?_
    refine k_irem hX dM_foreign_53 (fun y2 => ?_)
    refine k_iload_n hX dM_foreign_54 rfl ?_
    refine k_bipush hX dM_foreign_55 (by decide) ?_
    refine k_icmp_lt (tgt := 64) hX dM_foreign_57 (by decide) ?_ ?_
    · refine k_iconst hX dM_foreign_64 ?_
      refine k_less [true, true, true, false, true] (L' := [lq 10, none, li x2, none, li x4]) rfl ?_
      exact tM_foreign_J65 hX hR x2 x4 0 y2 x3 σ hT hb0
    · refine k_iconst hX dM_foreign_60 ?_
      refine k_goto (tgt := 65) hX dM_foreign_61 (by decide) ?_
      refine k_less [true, true, true, false, true] (L' := [lq 10, none, li x2, none, li x4]) rfl ?_
      exact tM_foreign_J65 hX hR x2 x4 1 y2 x3 σ hT hb0
set_option maxRecDepth 100000 in
set_option maxHeartbeats 4000000 in
theorem tM_foreign_L33 {X : KC} {q : Int × KM} (hX : kOk X 5 prog_11_method_88_code 5 "KeyPathModel") (hR : kRet X (some .int) q) (x2 x3 x4 : Int) (σ : KM) {Θ : (Int × KM) → Prop} (hT : ∀ z, Θ (z) → z = q) : kJ X 33 [lq 10, none, li x2, li x3, li x4] [] σ (fM_foreign_L33 x2 x3 x4 σ) Θ :=
  k_iter (f := fun s => fM_foreign_B33 x2 s.1 s.2.1 s.2.2) (Lf := fun s => [lq 10, none, li x2, li s.1, li s.2.1]) (mf := fun s => s.2.2) (Θ := Θ) (fun s => tM_foreign_B33 hX hR x2 s.1 s.2.1 s.2.2 hT (fun _ h9 => h9)) kF (x3, x4, σ)
set_option maxRecDepth 100000 in
set_option maxHeartbeats 4000000 in
theorem sM_foreign (x1 x2 : Int) (σ : KM) : kSem 5 (⟨"KeyPathModel", "foreign", "(II)I"⟩ : MethodName) prog_11_method_88_code 5 (some .int) [kr 10, ki x1, ki x2] σ (fM_foreign x1 x2 σ) := by
  refine kSem.of (L0 := [lq 10, li x1, li x2, none, none]) (by decide) (Nat.le_of_ble_eq_true rfl) rfl (fun X q hX hR => ?_)
  have hT : ∀ z : Int × KM, (fun z => z = q) z → z = q := fun _ h => h
  refine k_aload_n hX dM_foreign_0 rfl ?_
  refine k_iconst hX dM_foreign_1 ?_
  refine gp_157 hX dM_foreign_2 (fun τ1 => ?_)
  refine k_aload_n hX dM_foreign_5 rfl ?_
  refine k_iload_n hX dM_foreign_6 rfl ?_
  refine cl_121 hX (by decide) (Nat.le_of_ble_eq_true rfl) dM_foreign_7 (fun r3 τ2 => ?_)
  refine k_if_eq (tgt := 20) hX dM_foreign_10 (by decide) ?_ ?_
  · refine k_less [true, false, false, true, true] (L' := [lq 10, none, none, none, none]) rfl ?_
    exact tM_foreign_J20 hX hR τ2 hT
  · refine k_iload_n hX dM_foreign_13 rfl ?_
    refine cl_143 hX (by decide) (Nat.le_of_ble_eq_true rfl) dM_foreign_14 (fun r5 τ4 => ?_)
    refine k_if_ne (tgt := 23) hX dM_foreign_17 (by decide) ?_ ?_
    · refine k_aload_n hX dM_foreign_23 rfl ?_
      refine k_iload_n hX dM_foreign_24 rfl ?_
      refine cl_123 hX (by decide) (Nat.le_of_ble_eq_true rfl) dM_foreign_25 (fun _ τ6 => ?_)
      refine k_iconst hX dM_foreign_28 ?_
      refine k_istore_n (L' := [lq 10, li x1, li x2, li 0, none]) hX dM_foreign_29 rfl (by decide) rfl ?_
      refine k_iconst hX dM_foreign_30 ?_
      refine k_istore (L' := [lq 10, li x1, li x2, li 0, li 0]) hX dM_foreign_31 rfl (by decide) rfl ?_
      refine k_less [true, false, true, true, true] (L' := [lq 10, none, li x2, li 0, li 0]) rfl ?_
      exact tM_foreign_L33 hX hR x2 0 0 τ6 hT
    · refine k_less [true, false, false, true, true] (L' := [lq 10, none, none, none, none]) rfl ?_
      exact tM_foreign_J20 hX hR τ4 hT
theorem dM_key_0 : decode prog_11_method_59_code 0 = .ok (.aload_n 0, 1) := by decide +kernel
theorem dM_key_1 : decode prog_11_method_59_code 1 = .ok (.iconst 0, 1) := by decide +kernel
theorem dM_key_2 : decode prog_11_method_59_code 2 = .ok (.putfield 1, 3) := by decide +kernel
theorem dM_key_5 : decode prog_11_method_59_code 5 = .ok (.aload_n 0, 1) := by decide +kernel
theorem dM_key_6 : decode prog_11_method_59_code 6 = .ok (.iload_n 1, 1) := by decide +kernel
theorem dM_key_7 : decode prog_11_method_59_code 7 = .ok (.invokevirtual 229, 3) := by decide +kernel
theorem dM_key_10 : decode prog_11_method_59_code 10 = .ok (.ifCond .ne 6, 3) := by decide +kernel
theorem dM_key_13 : decode prog_11_method_59_code 13 = .ok (.bipush (-2), 2) := by decide +kernel
theorem dM_key_15 : decode prog_11_method_59_code 15 = .ok (.ireturn, 1) := by decide +kernel
theorem dM_key_16 : decode prog_11_method_59_code 16 = .ok (.aload_n 0, 1) := by decide +kernel
theorem dM_key_17 : decode prog_11_method_59_code 17 = .ok (.invokevirtual 287, 3) := by decide +kernel
theorem dM_key_20 : decode prog_11_method_59_code 20 = .ok (.ifCond .eq 12, 3) := by decide +kernel
theorem dM_key_23 : decode prog_11_method_59_code 23 = .ok (.aload_n 0, 1) := by decide +kernel
theorem dM_key_24 : decode prog_11_method_59_code 24 = .ok (.getfield 90, 3) := by decide +kernel
theorem dM_key_27 : decode prog_11_method_59_code 27 = .ok (.iload_n 1, 1) := by decide +kernel
theorem dM_key_28 : decode prog_11_method_59_code 28 = .ok (.iaload, 1) := by decide +kernel
theorem dM_key_29 : decode prog_11_method_59_code 29 = .ok (.goto 5, 3) := by decide +kernel
theorem dM_key_32 : decode prog_11_method_59_code 32 = .ok (.bipush (-5), 2) := by decide +kernel
theorem dM_key_34 : decode prog_11_method_59_code 34 = .ok (.ireturn, 1) := by decide +kernel
set_option maxRecDepth 100000 in
set_option maxHeartbeats 4000000 in
theorem tM_key_J34 {X : KC} {q : Int × KM} (hX : kOk X 6 prog_11_method_59_code 2 "KeyPathModel") (hR : kRet X (some .int) q) (t0 : Int) (σ : KM) {Θ : (Int × KM) → Prop} (hT : ∀ z, Θ (z) → z = q) : kJ X 34 [lq 10, none] [ki t0] σ (fM_key_J34 t0 σ) Θ := by
  exact k_iret hX hR hT dM_key_34
set_option maxRecDepth 100000 in
set_option maxHeartbeats 4000000 in
theorem sM_key (x1 : Int) (σ : KM) : kSem 6 (⟨"KeyPathModel", "key", "(I)I"⟩ : MethodName) prog_11_method_59_code 2 (some .int) [kr 10, ki x1] σ (fM_key x1 σ) := by
  refine kSem.of (L0 := [lq 10, li x1]) (by decide) (Nat.le_of_ble_eq_true rfl) rfl (fun X q hX hR => ?_)
  have hT : ∀ z : Int × KM, (fun z => z = q) z → z = q := fun _ h => h
  refine k_aload_n hX dM_key_0 rfl ?_
  refine k_iconst hX dM_key_1 ?_
  refine gp_157 hX dM_key_2 (fun τ1 => ?_)
  refine k_aload_n hX dM_key_5 rfl ?_
  refine k_iload_n hX dM_key_6 rfl ?_
  refine cl_121 hX (by decide) (Nat.le_of_ble_eq_true rfl) dM_key_7 (fun r3 τ2 => ?_)
  refine k_if_ne (tgt := 16) hX dM_key_10 (by decide) ?_ ?_
  · refine k_aload_n hX dM_key_16 rfl ?_
    refine cl_136 hX (by decide) (Nat.le_of_ble_eq_true rfl) dM_key_17 (fun r5 τ4 => ?_)
    refine k_if_eq (tgt := 32) hX dM_key_20 (by decide) ?_ ?_
    · refine k_bipush hX dM_key_32 (by decide) ?_
      refine k_less [true, false] (L' := [lq 10, none]) rfl ?_
      exact tM_key_J34 hX hR (-5) τ4 hT
    · refine k_aload_n hX dM_key_23 rfl ?_
      refine gf_182 hX dM_key_24 ?_
      refine k_iload_n hX dM_key_27 rfl ?_
      refine k_iald hX (by decide) rfl dM_key_28 rfl (fun y6 => ?_)
      refine k_goto (tgt := 34) hX dM_key_29 (by decide) ?_
      refine k_less [true, false] (L' := [lq 10, none]) rfl ?_
      exact tM_key_J34 hX hR y6 τ4 hT
  · refine k_bipush hX dM_key_13 (by decide) ?_
    exact k_iret hX hR hT dM_key_15
theorem dM_leastOf_0 : decode prog_11_method_67_code 0 = .ok (.ldc 254, 2) := by decide +kernel
theorem dM_leastOf_2 : decode prog_11_method_67_code 2 = .ok (.istore_n 3, 1) := by decide +kernel
theorem dM_leastOf_3 : decode prog_11_method_67_code 3 = .ok (.iload_n 1, 1) := by decide +kernel
theorem dM_leastOf_4 : decode prog_11_method_67_code 4 = .ok (.istore 4, 2) := by decide +kernel
theorem dM_leastOf_6 : decode prog_11_method_67_code 6 = .ok (.iload 4, 2) := by decide +kernel
theorem dM_leastOf_8 : decode prog_11_method_67_code 8 = .ok (.iload_n 2, 1) := by decide +kernel
theorem dM_leastOf_9 : decode prog_11_method_67_code 9 = .ok (.if_icmp .ge 32, 3) := by decide +kernel
theorem dM_leastOf_12 : decode prog_11_method_67_code 12 = .ok (.aload_n 0, 1) := by decide +kernel
theorem dM_leastOf_13 : decode prog_11_method_67_code 13 = .ok (.getfield 97, 3) := by decide +kernel
theorem dM_leastOf_16 : decode prog_11_method_67_code 16 = .ok (.iload 4, 2) := by decide +kernel
theorem dM_leastOf_18 : decode prog_11_method_67_code 18 = .ok (.iaload, 1) := by decide +kernel
theorem dM_leastOf_19 : decode prog_11_method_67_code 19 = .ok (.iload_n 3, 1) := by decide +kernel
theorem dM_leastOf_20 : decode prog_11_method_67_code 20 = .ok (.if_icmp .ge 13, 3) := by decide +kernel
theorem dM_leastOf_23 : decode prog_11_method_67_code 23 = .ok (.aload_n 0, 1) := by decide +kernel
theorem dM_leastOf_24 : decode prog_11_method_67_code 24 = .ok (.getfield 97, 3) := by decide +kernel
theorem dM_leastOf_27 : decode prog_11_method_67_code 27 = .ok (.iload 4, 2) := by decide +kernel
theorem dM_leastOf_29 : decode prog_11_method_67_code 29 = .ok (.iaload, 1) := by decide +kernel
theorem dM_leastOf_30 : decode prog_11_method_67_code 30 = .ok (.goto 4, 3) := by decide +kernel
theorem dM_leastOf_33 : decode prog_11_method_67_code 33 = .ok (.iload_n 3, 1) := by decide +kernel
theorem dM_leastOf_34 : decode prog_11_method_67_code 34 = .ok (.istore_n 3, 1) := by decide +kernel
theorem dM_leastOf_35 : decode prog_11_method_67_code 35 = .ok (.iinc 4 1, 3) := by decide +kernel
theorem dM_leastOf_38 : decode prog_11_method_67_code 38 = .ok (.goto (-32), 3) := by decide +kernel
theorem dM_leastOf_41 : decode prog_11_method_67_code 41 = .ok (.iload_n 3, 1) := by decide +kernel
theorem dM_leastOf_42 : decode prog_11_method_67_code 42 = .ok (.ldc 254, 2) := by decide +kernel
theorem dM_leastOf_44 : decode prog_11_method_67_code 44 = .ok (.if_icmp .lt 7, 3) := by decide +kernel
theorem dM_leastOf_47 : decode prog_11_method_67_code 47 = .ok (.iconst (-1), 1) := by decide +kernel
theorem dM_leastOf_48 : decode prog_11_method_67_code 48 = .ok (.goto 4, 3) := by decide +kernel
theorem dM_leastOf_51 : decode prog_11_method_67_code 51 = .ok (.iload_n 3, 1) := by decide +kernel
theorem dM_leastOf_52 : decode prog_11_method_67_code 52 = .ok (.ireturn, 1) := by decide +kernel
set_option maxRecDepth 100000 in
set_option maxHeartbeats 4000000 in
theorem tM_leastOf_J52 {X : KC} {q : Int × KM} (hX : kOk X 1 prog_11_method_67_code 5 "KeyPathModel") (hR : kRet X (some .int) q) (t0 : Int) (σ : KM) {Θ : (Int × KM) → Prop} (hT : ∀ z, Θ (z) → z = q) : kJ X 52 [lq 10, none, none, none, none] [ki t0] σ (fM_leastOf_J52 t0 σ) Θ := by
  exact k_iret hX hR hT dM_leastOf_52
set_option maxRecDepth 100000 in
set_option maxHeartbeats 4000000 in
theorem tM_leastOf_J41 {X : KC} {q : Int × KM} (hX : kOk X 1 prog_11_method_67_code 5 "KeyPathModel") (hR : kRet X (some .int) q) (x3 : Int) (σ : KM) {Θ : (Int × KM) → Prop} (hT : ∀ z, Θ (z) → z = q) : kJ X 41 [lq 10, none, none, li x3, none] [] σ (fM_leastOf_J41 x3 σ) Θ := by
  refine k_iload_n hX dM_leastOf_41 rfl ?_
  refine k_ldc (v := 1000000000) (w := 0) hX dM_leastOf_42 tw_1309 ?_
  refine k_icmp_lt (tgt := 51) hX dM_leastOf_44 (by decide) ?_ ?_
  · refine k_iload_n hX dM_leastOf_51 rfl ?_
    refine k_less [true, true, true, false, true] (L' := [lq 10, none, none, none, none]) rfl ?_
    exact tM_leastOf_J52 hX hR x3 σ hT
  · refine k_iconst hX dM_leastOf_47 ?_
    refine k_goto (tgt := 52) hX dM_leastOf_48 (by decide) ?_
    refine k_less [true, true, true, false, true] (L' := [lq 10, none, none, none, none]) rfl ?_
    exact tM_leastOf_J52 hX hR (-1) σ hT
set_option maxRecDepth 100000 in
set_option maxHeartbeats 4000000 in
theorem tM_leastOf_J34 {X : KC} {q : Int × KM} (hX : kOk X 1 prog_11_method_67_code 5 "KeyPathModel") (hR : kRet X (some .int) q) (x2 x4 t0 : Int) (σ : KM) {Θ : ((Int × Int × KM) ⊕ (Int × KM)) → Prop} (hT : ∀ z, Θ (.inr (z)) → z = q) (hb0 : ∀ s : Int × Int × KM, Θ (.inl s) → kW X 6 [lq 10, none, li x2, li s.1, li s.2.1] [] s.2.2) : kJ X 34 [lq 10, none, li x2, none, li x4] [ki t0] σ (fM_leastOf_J34 x2 x4 t0 σ) Θ := by
  refine k_istore_n (L' := [lq 10, none, li x2, li t0, li x4]) hX dM_leastOf_34 rfl (by decide) rfl ?_
  refine k_iincL (Lf := fun y1 => [lq 10, none, li x2, li t0, li y1]) hX dM_leastOf_35 rfl (by decide) rfl (fun _ => rfl) (fun y1 => ?_)
  refine k_goto (tgt := 6) hX dM_leastOf_38 (by decide) ?_
  exact k_back (hb0 (t0, y1, σ))
set_option maxRecDepth 100000 in
set_option maxHeartbeats 4000000 in
theorem tM_leastOf_B6 {X : KC} {q : Int × KM} (hX : kOk X 1 prog_11_method_67_code 5 "KeyPathModel") (hR : kRet X (some .int) q) (x2 x3 x4 : Int) (σ : KM) {Θ : ((Int × Int × KM) ⊕ (Int × KM)) → Prop} (hT : ∀ z, Θ (.inr (z)) → z = q) (hb0 : ∀ s : Int × Int × KM, Θ (.inl s) → kW X 6 [lq 10, none, li x2, li s.1, li s.2.1] [] s.2.2) : kJ X 6 [lq 10, none, li x2, li x3, li x4] [] σ (fM_leastOf_B6 x2 x3 x4 σ) Θ := by
  refine k_iload hX dM_leastOf_6 rfl ?_
  refine k_iload_n hX dM_leastOf_8 rfl ?_
  refine k_icmp_ge (tgt := 41) hX dM_leastOf_9 (by decide) ?_ ?_
  · refine k_exit ?_
    refine k_less [true, true, false, true, false] (L' := [lq 10, none, none, li x3, none]) rfl ?_
    exact tM_leastOf_J41 hX hR x3 σ hT
  · refine k_aload_n hX dM_leastOf_12 rfl ?_
    refine gf_194 hX dM_leastOf_13 ?_
    refine k_iload hX dM_leastOf_16 rfl ?_
    refine k_iald hX (by decide) rfl dM_leastOf_18 rfl (fun y1 => ?_)
    refine k_iload_n hX dM_leastOf_19 rfl ?_
    refine k_icmp_ge (tgt := 33) hX dM_leastOf_20 (by decide) ?_ ?_
    · refine k_iload_n hX dM_leastOf_33 rfl ?_
      refine k_less [true, true, true, false, true] (L' := [lq 10, none, li x2, none, li x4]) rfl ?_
      exact tM_leastOf_J34 hX hR x2 x4 x3 σ hT hb0
    · refine k_aload_n hX dM_leastOf_23 rfl ?_
      refine gf_194 hX dM_leastOf_24 ?_
      refine k_iload hX dM_leastOf_27 rfl ?_
      refine k_iald hX (by decide) rfl dM_leastOf_29 rfl (fun y2 => ?_)
      refine k_goto (tgt := 34) hX dM_leastOf_30 (by decide) ?_
      refine k_less [true, true, true, false, true] (L' := [lq 10, none, li x2, none, li x4]) rfl ?_
      exact tM_leastOf_J34 hX hR x2 x4 y2 σ hT hb0
set_option maxRecDepth 100000 in
set_option maxHeartbeats 4000000 in
theorem tM_leastOf_L6 {X : KC} {q : Int × KM} (hX : kOk X 1 prog_11_method_67_code 5 "KeyPathModel") (hR : kRet X (some .int) q) (x2 x3 x4 : Int) (σ : KM) {Θ : (Int × KM) → Prop} (hT : ∀ z, Θ (z) → z = q) : kJ X 6 [lq 10, none, li x2, li x3, li x4] [] σ (fM_leastOf_L6 x2 x3 x4 σ) Θ :=
  k_iter (f := fun s => fM_leastOf_B6 x2 s.1 s.2.1 s.2.2) (Lf := fun s => [lq 10, none, li x2, li s.1, li s.2.1]) (mf := fun s => s.2.2) (Θ := Θ) (fun s => tM_leastOf_B6 hX hR x2 s.1 s.2.1 s.2.2 hT (fun _ h9 => h9)) kF (x3, x4, σ)
set_option maxRecDepth 100000 in
set_option maxHeartbeats 4000000 in
theorem sM_leastOf (x1 x2 : Int) (σ : KM) : kSem 1 (⟨"KeyPathModel", "leastOf", "(II)I"⟩ : MethodName) prog_11_method_67_code 5 (some .int) [kr 10, ki x1, ki x2] σ (fM_leastOf x1 x2 σ) := by
  refine kSem.of (L0 := [lq 10, li x1, li x2, none, none]) (by decide) (Nat.le_of_ble_eq_true rfl) rfl (fun X q hX hR => ?_)
  have hT : ∀ z : Int × KM, (fun z => z = q) z → z = q := fun _ h => h
  refine k_ldc (v := 1000000000) (w := 0) hX dM_leastOf_0 tw_1309 ?_
  refine k_istore_n (L' := [lq 10, li x1, li x2, li 1000000000, none]) hX dM_leastOf_2 rfl (by decide) rfl ?_
  refine k_iload_n hX dM_leastOf_3 rfl ?_
  refine k_istore (L' := [lq 10, li x1, li x2, li 1000000000, li x1]) hX dM_leastOf_4 rfl (by decide) rfl ?_
  refine k_less [true, false, true, true, true] (L' := [lq 10, none, li x2, li 1000000000, li x1]) rfl ?_
  exact tM_leastOf_L6 hX hR x2 1000000000 x1 σ hT
theorem cl_147 {X : KC} {d n : Nat} {cc : ByteArray} {pc : Nat} {L : List (Option KV)} {st : List KV} {σ : KM} {Z : Type} {Θ : Z → Prop} {G : Int → KM → Option Z} {x1 x2 : Int} (hX : kOk X d cc n "KeyPathModel") (hdd : 1 + 1 ≤ d) (hst : k_cat st ≤ 8) (hd : decode cc pc = .ok (.invokevirtual 301, 3)) (h : ∀ r τ, kJ X (pc + 3) L (ki r :: st) τ (G r τ) Θ) : kJ X pc L (ki x2 :: ki x1 :: kr 10 :: st) σ (kCall (fM_leastOf x1 x2 σ) G) Θ :=
  k_callV (np := 2) (av := [ki x1, ki x2]) (ret := (some .int)) hX (by decide) rfl rfl rfl (sM_leastOf _ _ σ) ⟨⟨hdd, by decide⟩, tw_1389, tw_11, by decide +kernel⟩ rfl tw_1386 tw_1388 ts_68 hst hd h
theorem dM_turns_0 : decode prog_11_method_66_code 0 = .ok (.iconst 0, 1) := by decide +kernel
theorem dM_turns_1 : decode prog_11_method_66_code 1 = .ok (.istore_n 2, 1) := by decide +kernel
theorem dM_turns_2 : decode prog_11_method_66_code 2 = .ok (.iload_n 2, 1) := by decide +kernel
theorem dM_turns_3 : decode prog_11_method_66_code 3 = .ok (.bipush 24, 2) := by decide +kernel
theorem dM_turns_5 : decode prog_11_method_66_code 5 = .ok (.iload_n 1, 1) := by decide +kernel
theorem dM_turns_6 : decode prog_11_method_66_code 6 = .ok (.imul, 1) := by decide +kernel
theorem dM_turns_7 : decode prog_11_method_66_code 7 = .ok (.if_icmp .ge 21, 3) := by decide +kernel
theorem dM_turns_10 : decode prog_11_method_66_code 10 = .ok (.aload_n 0, 1) := by decide +kernel
theorem dM_turns_11 : decode prog_11_method_66_code 11 = .ok (.getfield 97, 3) := by decide +kernel
theorem dM_turns_14 : decode prog_11_method_66_code 14 = .ok (.iload_n 2, 1) := by decide +kernel
theorem dM_turns_15 : decode prog_11_method_66_code 15 = .ok (.aload_n 0, 1) := by decide +kernel
theorem dM_turns_16 : decode prog_11_method_66_code 16 = .ok (.getfield 100, 3) := by decide +kernel
theorem dM_turns_19 : decode prog_11_method_66_code 19 = .ok (.iload_n 2, 1) := by decide +kernel
theorem dM_turns_20 : decode prog_11_method_66_code 20 = .ok (.iaload, 1) := by decide +kernel
theorem dM_turns_21 : decode prog_11_method_66_code 21 = .ok (.iastore, 1) := by decide +kernel
theorem dM_turns_22 : decode prog_11_method_66_code 22 = .ok (.iinc 2 1, 3) := by decide +kernel
theorem dM_turns_25 : decode prog_11_method_66_code 25 = .ok (.goto (-23), 3) := by decide +kernel
theorem dM_turns_28 : decode prog_11_method_66_code 28 = .ok (.return_, 1) := by decide +kernel
set_option maxRecDepth 100000 in
set_option maxHeartbeats 4000000 in
theorem tM_turns_J28 {X : KC} {q : Int × KM} (hX : kOk X 1 prog_11_method_66_code 3 "KeyPathModel") (hR : kRet X none q) (σ : KM) {Θ : (Int × KM) → Prop} (hT : ∀ z, Θ (z) → z = q) : kJ X 28 [lq 10, none, none] [] σ (fM_turns_J28 σ) Θ := by
  exact k_vret hX hR hT dM_turns_28
set_option maxRecDepth 100000 in
set_option maxHeartbeats 4000000 in
theorem tM_turns_B2 {X : KC} {q : Int × KM} (hX : kOk X 1 prog_11_method_66_code 3 "KeyPathModel") (hR : kRet X none q) (x1 x2 : Int) (σ : KM) {Θ : ((Int × KM) ⊕ (Int × KM)) → Prop} (hT : ∀ z, Θ (.inr (z)) → z = q) (hb0 : ∀ s : Int × KM, Θ (.inl s) → kW X 2 [lq 10, li x1, li s.1] [] s.2) : kJ X 2 [lq 10, li x1, li x2] [] σ (fM_turns_B2 x1 x2 σ) Θ := by
  refine k_iload_n hX dM_turns_2 rfl ?_
  refine k_bipush hX dM_turns_3 (by decide) ?_
  refine k_iload_n hX dM_turns_5 rfl ?_
  refine k_imul hX dM_turns_6 ?_
  refine k_icmp_ge (tgt := 28) hX dM_turns_7 (by decide) ?_ ?_
  · refine k_exit ?_
    refine k_less [true, false, false] (L' := [lq 10, none, none]) rfl ?_
    exact tM_turns_J28 hX hR σ hT
  · refine k_aload_n hX dM_turns_10 rfl ?_
    refine gf_194 hX dM_turns_11 ?_
    refine k_iload_n hX dM_turns_14 rfl ?_
    refine k_aload_n hX dM_turns_15 rfl ?_
    refine gf_195 hX dM_turns_16 ?_
    refine k_iload_n hX dM_turns_19 rfl ?_
    refine k_iald hX (by decide) rfl dM_turns_20 rfl (fun y1 => ?_)
    refine k_iast hX (by decide) rfl dM_turns_21 rfl (fun τ2 => ?_)
    refine k_iincL (Lf := fun y3 => [lq 10, li x1, li y3]) hX dM_turns_22 rfl (by decide) rfl (fun _ => rfl) (fun y3 => ?_)
    refine k_goto (tgt := 2) hX dM_turns_25 (by decide) ?_
    exact k_back (hb0 (y3, τ2))
set_option maxRecDepth 100000 in
set_option maxHeartbeats 4000000 in
theorem tM_turns_L2 {X : KC} {q : Int × KM} (hX : kOk X 1 prog_11_method_66_code 3 "KeyPathModel") (hR : kRet X none q) (x1 x2 : Int) (σ : KM) {Θ : (Int × KM) → Prop} (hT : ∀ z, Θ (z) → z = q) : kJ X 2 [lq 10, li x1, li x2] [] σ (fM_turns_L2 x1 x2 σ) Θ :=
  k_iter (f := fun s => fM_turns_B2 x1 s.1 s.2) (Lf := fun s => [lq 10, li x1, li s.1]) (mf := fun s => s.2) (Θ := Θ) (fun s => tM_turns_B2 hX hR x1 s.1 s.2 hT (fun _ h9 => h9)) kF (x2, σ)
set_option maxRecDepth 100000 in
set_option maxHeartbeats 4000000 in
theorem sM_turns (x1 : Int) (σ : KM) : kSem 1 (⟨"KeyPathModel", "turns", "(I)V"⟩ : MethodName) prog_11_method_66_code 3 none [kr 10, ki x1] σ (fM_turns x1 σ) := by
  refine kSem.of (L0 := [lq 10, li x1, none]) (by decide) (Nat.le_of_ble_eq_true rfl) rfl (fun X q hX hR => ?_)
  have hT : ∀ z : Int × KM, (fun z => z = q) z → z = q := fun _ h => h
  refine k_iconst hX dM_turns_0 ?_
  refine k_istore_n (L' := [lq 10, li x1, li 0]) hX dM_turns_1 rfl (by decide) rfl ?_
  exact tM_turns_L2 hX hR x1 0 σ hT
theorem cl_148 {X : KC} {d n : Nat} {cc : ByteArray} {pc : Nat} {L : List (Option KV)} {st : List KV} {σ : KM} {Z : Type} {Θ : Z → Prop} {G : Int → KM → Option Z} {x1 : Int} (hX : kOk X d cc n "KeyPathModel") (hdd : 1 + 1 ≤ d) (hst : k_cat st ≤ 8) (hd : decode cc pc = .ok (.invokevirtual 298, 3)) (h : ∀ r τ, kJ X (pc + 3) L (st) τ (G r τ) Θ) : kJ X pc L (ki x1 :: kr 10 :: st) σ (kCall (fM_turns x1 σ) G) Θ :=
  k_callV (np := 1) (av := [ki x1]) (ret := none) hX (by decide) rfl rfl rfl (sM_turns _ σ) ⟨⟨hdd, by decide⟩, tw_1385, tw_11, by decide +kernel⟩ rfl tw_1382 tw_1384 ts_67 hst hd h
theorem dM_lasting_0 : decode prog_11_method_69_code 0 = .ok (.aload_n 0, 1) := by decide +kernel
theorem dM_lasting_1 : decode prog_11_method_69_code 1 = .ok (.iconst 0, 1) := by decide +kernel
theorem dM_lasting_2 : decode prog_11_method_69_code 2 = .ok (.putfield 1, 3) := by decide +kernel
theorem dM_lasting_5 : decode prog_11_method_69_code 5 = .ok (.iload_n 1, 1) := by decide +kernel
theorem dM_lasting_6 : decode prog_11_method_69_code 6 = .ok (.i2l, 1) := by decide +kernel
theorem dM_lasting_7 : decode prog_11_method_69_code 7 = .ok (.lconst 1, 1) := by decide +kernel
theorem dM_lasting_8 : decode prog_11_method_69_code 8 = .ok (.ldc2_w 304, 3) := by decide +kernel
theorem dM_lasting_11 : decode prog_11_method_69_code 11 = .ok (.invokestatic 134, 3) := by decide +kernel
theorem dM_lasting_14 : decode prog_11_method_69_code 14 = .ok (.ifCond .ne 6, 3) := by decide +kernel
theorem dM_lasting_17 : decode prog_11_method_69_code 17 = .ok (.bipush (-3), 2) := by decide +kernel
theorem dM_lasting_19 : decode prog_11_method_69_code 19 = .ok (.ireturn, 1) := by decide +kernel
theorem dM_lasting_20 : decode prog_11_method_69_code 20 = .ok (.aload_n 0, 1) := by decide +kernel
theorem dM_lasting_21 : decode prog_11_method_69_code 21 = .ok (.invokevirtual 287, 3) := by decide +kernel
theorem dM_lasting_24 : decode prog_11_method_69_code 24 = .ok (.ifCond .ne 6, 3) := by decide +kernel
theorem dM_lasting_27 : decode prog_11_method_69_code 27 = .ok (.bipush (-5), 2) := by decide +kernel
theorem dM_lasting_29 : decode prog_11_method_69_code 29 = .ok (.ireturn, 1) := by decide +kernel
theorem dM_lasting_30 : decode prog_11_method_69_code 30 = .ok (.aload_n 0, 1) := by decide +kernel
theorem dM_lasting_31 : decode prog_11_method_69_code 31 = .ok (.getfield 267, 3) := by decide +kernel
theorem dM_lasting_34 : decode prog_11_method_69_code 34 = .ok (.ifCond .ne 5, 3) := by decide +kernel
theorem dM_lasting_37 : decode prog_11_method_69_code 37 = .ok (.iconst 0, 1) := by decide +kernel
theorem dM_lasting_38 : decode prog_11_method_69_code 38 = .ok (.ireturn, 1) := by decide +kernel
theorem dM_lasting_39 : decode prog_11_method_69_code 39 = .ok (.iconst 0, 1) := by decide +kernel
theorem dM_lasting_40 : decode prog_11_method_69_code 40 = .ok (.istore_n 2, 1) := by decide +kernel
theorem dM_lasting_41 : decode prog_11_method_69_code 41 = .ok (.iload_n 2, 1) := by decide +kernel
theorem dM_lasting_42 : decode prog_11_method_69_code 42 = .ok (.bipush 24, 2) := by decide +kernel
theorem dM_lasting_44 : decode prog_11_method_69_code 44 = .ok (.iload_n 1, 1) := by decide +kernel
theorem dM_lasting_45 : decode prog_11_method_69_code 45 = .ok (.imul, 1) := by decide +kernel
theorem dM_lasting_46 : decode prog_11_method_69_code 46 = .ok (.if_icmp .ge 32, 3) := by decide +kernel
theorem dM_lasting_49 : decode prog_11_method_69_code 49 = .ok (.aload_n 0, 1) := by decide +kernel
theorem dM_lasting_50 : decode prog_11_method_69_code 50 = .ok (.getfield 97, 3) := by decide +kernel
theorem dM_lasting_53 : decode prog_11_method_69_code 53 = .ok (.iload_n 2, 1) := by decide +kernel
theorem dM_lasting_54 : decode prog_11_method_69_code 54 = .ok (.iload_n 2, 1) := by decide +kernel
theorem dM_lasting_55 : decode prog_11_method_69_code 55 = .ok (.bipush 24, 2) := by decide +kernel
theorem dM_lasting_57 : decode prog_11_method_69_code 57 = .ok (.if_icmp .ge 12, 3) := by decide +kernel
theorem dM_lasting_60 : decode prog_11_method_69_code 60 = .ok (.aload_n 0, 1) := by decide +kernel
theorem dM_lasting_61 : decode prog_11_method_69_code 61 = .ok (.getfield 78, 3) := by decide +kernel
theorem dM_lasting_64 : decode prog_11_method_69_code 64 = .ok (.iload_n 2, 1) := by decide +kernel
theorem dM_lasting_65 : decode prog_11_method_69_code 65 = .ok (.iaload, 1) := by decide +kernel
theorem dM_lasting_66 : decode prog_11_method_69_code 66 = .ok (.goto 5, 3) := by decide +kernel
theorem dM_lasting_69 : decode prog_11_method_69_code 69 = .ok (.ldc 254, 2) := by decide +kernel
theorem dM_lasting_71 : decode prog_11_method_69_code 71 = .ok (.iastore, 1) := by decide +kernel
theorem dM_lasting_72 : decode prog_11_method_69_code 72 = .ok (.iinc 2 1, 3) := by decide +kernel
theorem dM_lasting_75 : decode prog_11_method_69_code 75 = .ok (.goto (-34), 3) := by decide +kernel
theorem dM_lasting_78 : decode prog_11_method_69_code 78 = .ok (.iconst 1, 1) := by decide +kernel
theorem dM_lasting_79 : decode prog_11_method_69_code 79 = .ok (.istore_n 2, 1) := by decide +kernel
theorem dM_lasting_80 : decode prog_11_method_69_code 80 = .ok (.iload_n 2, 1) := by decide +kernel
theorem dM_lasting_81 : decode prog_11_method_69_code 81 = .ok (.aload_n 0, 1) := by decide +kernel
theorem dM_lasting_82 : decode prog_11_method_69_code 82 = .ok (.getfield 267, 3) := by decide +kernel
theorem dM_lasting_85 : decode prog_11_method_69_code 85 = .ok (.if_icmp .ge 261, 3) := by decide +kernel
theorem dM_lasting_88 : decode prog_11_method_69_code 88 = .ok (.iconst 0, 1) := by decide +kernel
theorem dM_lasting_89 : decode prog_11_method_69_code 89 = .ok (.istore_n 3, 1) := by decide +kernel
theorem dM_lasting_90 : decode prog_11_method_69_code 90 = .ok (.iload_n 3, 1) := by decide +kernel
theorem dM_lasting_91 : decode prog_11_method_69_code 91 = .ok (.bipush 24, 2) := by decide +kernel
theorem dM_lasting_93 : decode prog_11_method_69_code 93 = .ok (.iload_n 1, 1) := by decide +kernel
theorem dM_lasting_94 : decode prog_11_method_69_code 94 = .ok (.imul, 1) := by decide +kernel
theorem dM_lasting_95 : decode prog_11_method_69_code 95 = .ok (.if_icmp .ge 17, 3) := by decide +kernel
theorem dM_lasting_98 : decode prog_11_method_69_code 98 = .ok (.aload_n 0, 1) := by decide +kernel
theorem dM_lasting_99 : decode prog_11_method_69_code 99 = .ok (.getfield 100, 3) := by decide +kernel
theorem dM_lasting_102 : decode prog_11_method_69_code 102 = .ok (.iload_n 3, 1) := by decide +kernel
theorem dM_lasting_103 : decode prog_11_method_69_code 103 = .ok (.ldc 254, 2) := by decide +kernel
theorem dM_lasting_105 : decode prog_11_method_69_code 105 = .ok (.iastore, 1) := by decide +kernel
theorem dM_lasting_106 : decode prog_11_method_69_code 106 = .ok (.iinc 3 1, 3) := by decide +kernel
theorem dM_lasting_109 : decode prog_11_method_69_code 109 = .ok (.goto (-19), 3) := by decide +kernel
theorem dM_lasting_112 : decode prog_11_method_69_code 112 = .ok (.iconst 0, 1) := by decide +kernel
theorem dM_lasting_113 : decode prog_11_method_69_code 113 = .ok (.istore_n 3, 1) := by decide +kernel
theorem dM_lasting_114 : decode prog_11_method_69_code 114 = .ok (.iload_n 3, 1) := by decide +kernel
theorem dM_lasting_115 : decode prog_11_method_69_code 115 = .ok (.iload_n 1, 1) := by decide +kernel
theorem dM_lasting_116 : decode prog_11_method_69_code 116 = .ok (.if_icmp .ge 107, 3) := by decide +kernel
theorem dM_lasting_119 : decode prog_11_method_69_code 119 = .ok (.iconst 0, 1) := by decide +kernel
theorem dM_lasting_120 : decode prog_11_method_69_code 120 = .ok (.istore 4, 2) := by decide +kernel
theorem dM_lasting_122 : decode prog_11_method_69_code 122 = .ok (.iload 4, 2) := by decide +kernel
theorem dM_lasting_124 : decode prog_11_method_69_code 124 = .ok (.bipush 24, 2) := by decide +kernel
theorem dM_lasting_126 : decode prog_11_method_69_code 126 = .ok (.if_icmp .ge 91, 3) := by decide +kernel
theorem dM_lasting_129 : decode prog_11_method_69_code 129 = .ok (.bipush 24, 2) := by decide +kernel
theorem dM_lasting_131 : decode prog_11_method_69_code 131 = .ok (.iload_n 3, 1) := by decide +kernel
theorem dM_lasting_132 : decode prog_11_method_69_code 132 = .ok (.iconst 1, 1) := by decide +kernel
theorem dM_lasting_133 : decode prog_11_method_69_code 133 = .ok (.iadd, 1) := by decide +kernel
theorem dM_lasting_134 : decode prog_11_method_69_code 134 = .ok (.iload_n 1, 1) := by decide +kernel
theorem dM_lasting_135 : decode prog_11_method_69_code 135 = .ok (.if_icmp .ge 9, 3) := by decide +kernel
theorem dM_lasting_138 : decode prog_11_method_69_code 138 = .ok (.iload_n 3, 1) := by decide +kernel
theorem dM_lasting_139 : decode prog_11_method_69_code 139 = .ok (.iconst 1, 1) := by decide +kernel
theorem dM_lasting_140 : decode prog_11_method_69_code 140 = .ok (.iadd, 1) := by decide +kernel
theorem dM_lasting_141 : decode prog_11_method_69_code 141 = .ok (.goto 4, 3) := by decide +kernel
theorem dM_lasting_144 : decode prog_11_method_69_code 144 = .ok (.iload_n 3, 1) := by decide +kernel
theorem dM_lasting_145 : decode prog_11_method_69_code 145 = .ok (.imul, 1) := by decide +kernel
theorem dM_lasting_146 : decode prog_11_method_69_code 146 = .ok (.iload 4, 2) := by decide +kernel
theorem dM_lasting_148 : decode prog_11_method_69_code 148 = .ok (.iadd, 1) := by decide +kernel
theorem dM_lasting_149 : decode prog_11_method_69_code 149 = .ok (.istore 5, 2) := by decide +kernel
theorem dM_lasting_151 : decode prog_11_method_69_code 151 = .ok (.aload_n 0, 1) := by decide +kernel
theorem dM_lasting_152 : decode prog_11_method_69_code 152 = .ok (.getfield 97, 3) := by decide +kernel
theorem dM_lasting_155 : decode prog_11_method_69_code 155 = .ok (.bipush 24, 2) := by decide +kernel
theorem dM_lasting_157 : decode prog_11_method_69_code 157 = .ok (.iload_n 3, 1) := by decide +kernel
theorem dM_lasting_158 : decode prog_11_method_69_code 158 = .ok (.imul, 1) := by decide +kernel
theorem dM_lasting_159 : decode prog_11_method_69_code 159 = .ok (.iload 4, 2) := by decide +kernel
theorem dM_lasting_161 : decode prog_11_method_69_code 161 = .ok (.iadd, 1) := by decide +kernel
theorem dM_lasting_162 : decode prog_11_method_69_code 162 = .ok (.iaload, 1) := by decide +kernel
theorem dM_lasting_163 : decode prog_11_method_69_code 163 = .ok (.aload_n 0, 1) := by decide +kernel
theorem dM_lasting_164 : decode prog_11_method_69_code 164 = .ok (.getfield 78, 3) := by decide +kernel
theorem dM_lasting_167 : decode prog_11_method_69_code 167 = .ok (.bipush 24, 2) := by decide +kernel
theorem dM_lasting_169 : decode prog_11_method_69_code 169 = .ok (.iload_n 2, 1) := by decide +kernel
theorem dM_lasting_170 : decode prog_11_method_69_code 170 = .ok (.imul, 1) := by decide +kernel
theorem dM_lasting_171 : decode prog_11_method_69_code 171 = .ok (.iload 4, 2) := by decide +kernel
theorem dM_lasting_173 : decode prog_11_method_69_code 173 = .ok (.iadd, 1) := by decide +kernel
theorem dM_lasting_174 : decode prog_11_method_69_code 174 = .ok (.iaload, 1) := by decide +kernel
theorem dM_lasting_175 : decode prog_11_method_69_code 175 = .ok (.invokestatic 274, 3) := by decide +kernel
theorem dM_lasting_178 : decode prog_11_method_69_code 178 = .ok (.istore 6, 2) := by decide +kernel
theorem dM_lasting_180 : decode prog_11_method_69_code 180 = .ok (.aload_n 0, 1) := by decide +kernel
theorem dM_lasting_181 : decode prog_11_method_69_code 181 = .ok (.getfield 100, 3) := by decide +kernel
theorem dM_lasting_184 : decode prog_11_method_69_code 184 = .ok (.iload 5, 2) := by decide +kernel
theorem dM_lasting_186 : decode prog_11_method_69_code 186 = .ok (.iload 6, 2) := by decide +kernel
theorem dM_lasting_188 : decode prog_11_method_69_code 188 = .ok (.aload_n 0, 1) := by decide +kernel
theorem dM_lasting_189 : decode prog_11_method_69_code 189 = .ok (.getfield 100, 3) := by decide +kernel
theorem dM_lasting_192 : decode prog_11_method_69_code 192 = .ok (.iload 5, 2) := by decide +kernel
theorem dM_lasting_194 : decode prog_11_method_69_code 194 = .ok (.iaload, 1) := by decide +kernel
theorem dM_lasting_195 : decode prog_11_method_69_code 195 = .ok (.if_icmp .ge 8, 3) := by decide +kernel
theorem dM_lasting_198 : decode prog_11_method_69_code 198 = .ok (.iload 6, 2) := by decide +kernel
theorem dM_lasting_200 : decode prog_11_method_69_code 200 = .ok (.goto 10, 3) := by decide +kernel
theorem dM_lasting_203 : decode prog_11_method_69_code 203 = .ok (.aload_n 0, 1) := by decide +kernel
theorem dM_lasting_204 : decode prog_11_method_69_code 204 = .ok (.getfield 100, 3) := by decide +kernel
theorem dM_lasting_207 : decode prog_11_method_69_code 207 = .ok (.iload 5, 2) := by decide +kernel
theorem dM_lasting_209 : decode prog_11_method_69_code 209 = .ok (.iaload, 1) := by decide +kernel
theorem dM_lasting_210 : decode prog_11_method_69_code 210 = .ok (.iastore, 1) := by decide +kernel
theorem dM_lasting_211 : decode prog_11_method_69_code 211 = .ok (.iinc 4 1, 3) := by decide +kernel
theorem dM_lasting_214 : decode prog_11_method_69_code 214 = .ok (.goto (-92), 3) := by decide +kernel
theorem dM_lasting_217 : decode prog_11_method_69_code 217 = .ok (.iinc 3 1, 3) := by decide +kernel
theorem dM_lasting_220 : decode prog_11_method_69_code 220 = .ok (.goto (-106), 3) := by decide +kernel
theorem dM_lasting_223 : decode prog_11_method_69_code 223 = .ok (.iconst 0, 1) := by decide +kernel
theorem dM_lasting_224 : decode prog_11_method_69_code 224 = .ok (.istore_n 3, 1) := by decide +kernel
theorem dM_lasting_225 : decode prog_11_method_69_code 225 = .ok (.iload_n 3, 1) := by decide +kernel
theorem dM_lasting_226 : decode prog_11_method_69_code 226 = .ok (.bipush 24, 2) := by decide +kernel
theorem dM_lasting_228 : decode prog_11_method_69_code 228 = .ok (.if_icmp .ge 107, 3) := by decide +kernel
theorem dM_lasting_231 : decode prog_11_method_69_code 231 = .ok (.iconst 0, 1) := by decide +kernel
theorem dM_lasting_232 : decode prog_11_method_69_code 232 = .ok (.istore 4, 2) := by decide +kernel
theorem dM_lasting_234 : decode prog_11_method_69_code 234 = .ok (.iload 4, 2) := by decide +kernel
theorem dM_lasting_236 : decode prog_11_method_69_code 236 = .ok (.bipush 24, 2) := by decide +kernel
theorem dM_lasting_238 : decode prog_11_method_69_code 238 = .ok (.if_icmp .ge 91, 3) := by decide +kernel
theorem dM_lasting_241 : decode prog_11_method_69_code 241 = .ok (.iload 4, 2) := by decide +kernel
theorem dM_lasting_243 : decode prog_11_method_69_code 243 = .ok (.iload_n 3, 1) := by decide +kernel
theorem dM_lasting_244 : decode prog_11_method_69_code 244 = .ok (.if_icmp .ne 6, 3) := by decide +kernel
theorem dM_lasting_247 : decode prog_11_method_69_code 247 = .ok (.goto 76, 3) := by decide +kernel
theorem dM_lasting_250 : decode prog_11_method_69_code 250 = .ok (.aload_n 0, 1) := by decide +kernel
theorem dM_lasting_251 : decode prog_11_method_69_code 251 = .ok (.getfield 97, 3) := by decide +kernel
theorem dM_lasting_254 : decode prog_11_method_69_code 254 = .ok (.bipush 24, 2) := by decide +kernel
theorem dM_lasting_256 : decode prog_11_method_69_code 256 = .ok (.iload_n 1, 1) := by decide +kernel
theorem dM_lasting_257 : decode prog_11_method_69_code 257 = .ok (.iconst 1, 1) := by decide +kernel
theorem dM_lasting_258 : decode prog_11_method_69_code 258 = .ok (.isub, 1) := by decide +kernel
theorem dM_lasting_259 : decode prog_11_method_69_code 259 = .ok (.imul, 1) := by decide +kernel
theorem dM_lasting_260 : decode prog_11_method_69_code 260 = .ok (.iload 4, 2) := by decide +kernel
theorem dM_lasting_262 : decode prog_11_method_69_code 262 = .ok (.iadd, 1) := by decide +kernel
theorem dM_lasting_263 : decode prog_11_method_69_code 263 = .ok (.iaload, 1) := by decide +kernel
theorem dM_lasting_264 : decode prog_11_method_69_code 264 = .ok (.aload_n 0, 1) := by decide +kernel
theorem dM_lasting_265 : decode prog_11_method_69_code 265 = .ok (.iload 4, 2) := by decide +kernel
theorem dM_lasting_267 : decode prog_11_method_69_code 267 = .ok (.iload_n 3, 1) := by decide +kernel
theorem dM_lasting_268 : decode prog_11_method_69_code 268 = .ok (.iload_n 2, 1) := by decide +kernel
theorem dM_lasting_269 : decode prog_11_method_69_code 269 = .ok (.aload_n 0, 1) := by decide +kernel
theorem dM_lasting_270 : decode prog_11_method_69_code 270 = .ok (.getfield 50, 3) := by decide +kernel
theorem dM_lasting_273 : decode prog_11_method_69_code 273 = .ok (.invokevirtual 270, 3) := by decide +kernel
theorem dM_lasting_276 : decode prog_11_method_69_code 276 = .ok (.invokestatic 274, 3) := by decide +kernel
theorem dM_lasting_279 : decode prog_11_method_69_code 279 = .ok (.aload_n 0, 1) := by decide +kernel
theorem dM_lasting_280 : decode prog_11_method_69_code 280 = .ok (.getfield 78, 3) := by decide +kernel
theorem dM_lasting_283 : decode prog_11_method_69_code 283 = .ok (.bipush 24, 2) := by decide +kernel
theorem dM_lasting_285 : decode prog_11_method_69_code 285 = .ok (.iload_n 2, 1) := by decide +kernel
theorem dM_lasting_286 : decode prog_11_method_69_code 286 = .ok (.imul, 1) := by decide +kernel
theorem dM_lasting_287 : decode prog_11_method_69_code 287 = .ok (.iload_n 3, 1) := by decide +kernel
theorem dM_lasting_288 : decode prog_11_method_69_code 288 = .ok (.iadd, 1) := by decide +kernel
theorem dM_lasting_289 : decode prog_11_method_69_code 289 = .ok (.iaload, 1) := by decide +kernel
theorem dM_lasting_290 : decode prog_11_method_69_code 290 = .ok (.invokestatic 274, 3) := by decide +kernel
theorem dM_lasting_293 : decode prog_11_method_69_code 293 = .ok (.istore 5, 2) := by decide +kernel
theorem dM_lasting_295 : decode prog_11_method_69_code 295 = .ok (.aload_n 0, 1) := by decide +kernel
theorem dM_lasting_296 : decode prog_11_method_69_code 296 = .ok (.getfield 100, 3) := by decide +kernel
theorem dM_lasting_299 : decode prog_11_method_69_code 299 = .ok (.iload_n 3, 1) := by decide +kernel
theorem dM_lasting_300 : decode prog_11_method_69_code 300 = .ok (.iload 5, 2) := by decide +kernel
theorem dM_lasting_302 : decode prog_11_method_69_code 302 = .ok (.aload_n 0, 1) := by decide +kernel
theorem dM_lasting_303 : decode prog_11_method_69_code 303 = .ok (.getfield 100, 3) := by decide +kernel
theorem dM_lasting_306 : decode prog_11_method_69_code 306 = .ok (.iload_n 3, 1) := by decide +kernel
theorem dM_lasting_307 : decode prog_11_method_69_code 307 = .ok (.iaload, 1) := by decide +kernel
theorem dM_lasting_308 : decode prog_11_method_69_code 308 = .ok (.if_icmp .ge 8, 3) := by decide +kernel
theorem dM_lasting_311 : decode prog_11_method_69_code 311 = .ok (.iload 5, 2) := by decide +kernel
theorem dM_lasting_313 : decode prog_11_method_69_code 313 = .ok (.goto 9, 3) := by decide +kernel
theorem dM_lasting_316 : decode prog_11_method_69_code 316 = .ok (.aload_n 0, 1) := by decide +kernel
theorem dM_lasting_317 : decode prog_11_method_69_code 317 = .ok (.getfield 100, 3) := by decide +kernel
theorem dM_lasting_320 : decode prog_11_method_69_code 320 = .ok (.iload_n 3, 1) := by decide +kernel
theorem dM_lasting_321 : decode prog_11_method_69_code 321 = .ok (.iaload, 1) := by decide +kernel
theorem dM_lasting_322 : decode prog_11_method_69_code 322 = .ok (.iastore, 1) := by decide +kernel
theorem dM_lasting_323 : decode prog_11_method_69_code 323 = .ok (.iinc 4 1, 3) := by decide +kernel
theorem dM_lasting_326 : decode prog_11_method_69_code 326 = .ok (.goto (-92), 3) := by decide +kernel
theorem dM_lasting_329 : decode prog_11_method_69_code 329 = .ok (.iinc 3 1, 3) := by decide +kernel
theorem dM_lasting_332 : decode prog_11_method_69_code 332 = .ok (.goto (-107), 3) := by decide +kernel
theorem dM_lasting_335 : decode prog_11_method_69_code 335 = .ok (.aload_n 0, 1) := by decide +kernel
theorem dM_lasting_336 : decode prog_11_method_69_code 336 = .ok (.iload_n 1, 1) := by decide +kernel
theorem dM_lasting_337 : decode prog_11_method_69_code 337 = .ok (.invokevirtual 298, 3) := by decide +kernel
theorem dM_lasting_340 : decode prog_11_method_69_code 340 = .ok (.iinc 2 1, 3) := by decide +kernel
theorem dM_lasting_343 : decode prog_11_method_69_code 343 = .ok (.goto (-263), 3) := by decide +kernel
theorem dM_lasting_346 : decode prog_11_method_69_code 346 = .ok (.aload_n 0, 1) := by decide +kernel
theorem dM_lasting_347 : decode prog_11_method_69_code 347 = .ok (.bipush 24, 2) := by decide +kernel
theorem dM_lasting_349 : decode prog_11_method_69_code 349 = .ok (.iload_n 1, 1) := by decide +kernel
theorem dM_lasting_350 : decode prog_11_method_69_code 350 = .ok (.iconst 1, 1) := by decide +kernel
theorem dM_lasting_351 : decode prog_11_method_69_code 351 = .ok (.isub, 1) := by decide +kernel
theorem dM_lasting_352 : decode prog_11_method_69_code 352 = .ok (.imul, 1) := by decide +kernel
theorem dM_lasting_353 : decode prog_11_method_69_code 353 = .ok (.bipush 24, 2) := by decide +kernel
theorem dM_lasting_355 : decode prog_11_method_69_code 355 = .ok (.iload_n 1, 1) := by decide +kernel
theorem dM_lasting_356 : decode prog_11_method_69_code 356 = .ok (.imul, 1) := by decide +kernel
theorem dM_lasting_357 : decode prog_11_method_69_code 357 = .ok (.invokevirtual 301, 3) := by decide +kernel
theorem dM_lasting_360 : decode prog_11_method_69_code 360 = .ok (.ireturn, 1) := by decide +kernel
set_option maxRecDepth 100000 in
set_option maxHeartbeats 4000000 in
theorem tM_lasting_J346 {X : KC} {q : Int × KM} (hX : kOk X 6 prog_11_method_69_code 7 "KeyPathModel") (hR : kRet X (some .int) q) (x1 : Int) (σ : KM) {Θ : (Int × KM) → Prop} (hT : ∀ z, Θ (z) → z = q) : kJ X 346 [lq 10, li x1, none, none, none, none, none] [] σ (fM_lasting_J346 x1 σ) Θ := by
  refine k_aload_n hX dM_lasting_346 rfl ?_
  refine k_bipush hX dM_lasting_347 (by decide) ?_
  refine k_iload_n hX dM_lasting_349 rfl ?_
  refine k_iconst hX dM_lasting_350 ?_
  refine k_isub hX dM_lasting_351 ?_
  refine k_imul hX dM_lasting_352 ?_
  refine k_bipush hX dM_lasting_353 (by decide) ?_
  refine k_iload_n hX dM_lasting_355 rfl ?_
  refine k_imul hX dM_lasting_356 ?_
  refine cl_147 hX (by decide) (Nat.le_of_ble_eq_true rfl) dM_lasting_357 (fun r2 τ1 => ?_)
  exact k_iret hX hR hT dM_lasting_360
set_option maxRecDepth 100000 in
set_option maxHeartbeats 4000000 in
theorem tM_lasting_J335 {X : KC} {q : Int × KM} (hX : kOk X 6 prog_11_method_69_code 7 "KeyPathModel") (hR : kRet X (some .int) q) (x1 x2 : Int) (σ : KM) {Θ : ((Int × KM) ⊕ (Int × KM)) → Prop} (hT : ∀ z, Θ (.inr (z)) → z = q) (hb0 : ∀ s : Int × KM, Θ (.inl s) → kW X 80 [lq 10, li x1, li s.1, none, none, none, none] [] s.2) : kJ X 335 [lq 10, li x1, li x2, none, none, none, none] [] σ (fM_lasting_J335 x1 x2 σ) Θ := by
  refine k_aload_n hX dM_lasting_335 rfl ?_
  refine k_iload_n hX dM_lasting_336 rfl ?_
  refine cl_148 hX (by decide) (Nat.le_of_ble_eq_true rfl) dM_lasting_337 (fun _ τ1 => ?_)
  refine k_iincL (Lf := fun y2 => [lq 10, li x1, li y2, none, none, none, none]) hX dM_lasting_340 rfl (by decide) rfl (fun _ => rfl) (fun y2 => ?_)
  refine k_goto (tgt := 80) hX dM_lasting_343 (by decide) ?_
  exact k_back (hb0 (y2, τ1))
set_option maxRecDepth 100000 in
set_option maxHeartbeats 4000000 in
theorem tM_lasting_J329 {X : KC} {q : Int × KM} (hX : kOk X 6 prog_11_method_69_code 7 "KeyPathModel") (hR : kRet X (some .int) q) (x1 x2 x3 : Int) (σ : KM) {Θ : ((Int × KM) ⊕ ((Int × KM) ⊕ (Int × KM))) → Prop} (hT : ∀ z, Θ (.inr (.inr (z))) → z = q) (hb0 : ∀ s : Int × KM, Θ (.inl s) → kW X 225 [lq 10, li x1, li x2, li s.1, none, none, none] [] s.2) (hb1 : ∀ s : Int × KM, Θ (.inr (.inl s)) → kW X 80 [lq 10, li x1, li s.1, none, none, none, none] [] s.2) : kJ X 329 [lq 10, li x1, li x2, li x3, none, none, none] [] σ (fM_lasting_J329 x1 x2 x3 σ) Θ := by
  refine k_iincL (Lf := fun y1 => [lq 10, li x1, li x2, li y1, none, none, none]) hX dM_lasting_329 rfl (by decide) rfl (fun _ => rfl) (fun y1 => ?_)
  refine k_goto (tgt := 225) hX dM_lasting_332 (by decide) ?_
  exact k_back (hb0 (y1, σ))
set_option maxRecDepth 100000 in
set_option maxHeartbeats 4000000 in
theorem tM_lasting_J323 {X : KC} {q : Int × KM} (hX : kOk X 6 prog_11_method_69_code 7 "KeyPathModel") (hR : kRet X (some .int) q) (x1 x2 x3 x4 : Int) (σ : KM) {Θ : ((Int × KM) ⊕ ((Int × KM) ⊕ ((Int × KM) ⊕ (Int × KM)))) → Prop} (hT : ∀ z, Θ (.inr (.inr (.inr (z)))) → z = q) (hb0 : ∀ s : Int × KM, Θ (.inl s) → kW X 234 [lq 10, li x1, li x2, li x3, li s.1, none, none] [] s.2) (hb1 : ∀ s : Int × KM, Θ (.inr (.inl s)) → kW X 225 [lq 10, li x1, li x2, li s.1, none, none, none] [] s.2) (hb2 : ∀ s : Int × KM, Θ (.inr (.inr (.inl s))) → kW X 80 [lq 10, li x1, li s.1, none, none, none, none] [] s.2) : kJ X 323 [lq 10, li x1, li x2, li x3, li x4, none, none] [] σ (fM_lasting_J323 x1 x2 x3 x4 σ) Θ := by
  refine k_iincL (Lf := fun y1 => [lq 10, li x1, li x2, li x3, li y1, none, none]) hX dM_lasting_323 rfl (by decide) rfl (fun _ => rfl) (fun y1 => ?_)
  refine k_goto (tgt := 234) hX dM_lasting_326 (by decide) ?_
  exact k_back (hb0 (y1, σ))
set_option maxRecDepth 100000 in
set_option maxHeartbeats 4000000 in
theorem tM_lasting_J322 {X : KC} {q : Int × KM} (hX : kOk X 6 prog_11_method_69_code 7 "KeyPathModel") (hR : kRet X (some .int) q) (x1 x2 x3 x4 t0 t1 : Int) (σ : KM) {Θ : ((Int × KM) ⊕ ((Int × KM) ⊕ ((Int × KM) ⊕ (Int × KM)))) → Prop} (hT : ∀ z, Θ (.inr (.inr (.inr (z)))) → z = q) (hb0 : ∀ s : Int × KM, Θ (.inl s) → kW X 234 [lq 10, li x1, li x2, li x3, li s.1, none, none] [] s.2) (hb1 : ∀ s : Int × KM, Θ (.inr (.inl s)) → kW X 225 [lq 10, li x1, li x2, li s.1, none, none, none] [] s.2) (hb2 : ∀ s : Int × KM, Θ (.inr (.inr (.inl s))) → kW X 80 [lq 10, li x1, li s.1, none, none, none, none] [] s.2) : kJ X 322 [lq 10, li x1, li x2, li x3, li x4, none, none] [ki t0, ki t1, kr 66] σ (fM_lasting_J322 x1 x2 x3 x4 t0 t1 σ) Θ := by
  refine k_iast hX (by decide) rfl dM_lasting_322 rfl (fun τ1 => ?_)
  exact tM_lasting_J323 hX hR x1 x2 x3 x4 τ1 hT hb0 hb1 hb2
set_option maxRecDepth 100000 in
set_option maxHeartbeats 4000000 in
theorem tM_lasting_B234 {X : KC} {q : Int × KM} (hX : kOk X 6 prog_11_method_69_code 7 "KeyPathModel") (hR : kRet X (some .int) q) (x1 x2 x3 x4 : Int) (σ : KM) {Θ : ((Int × KM) ⊕ ((Int × KM) ⊕ ((Int × KM) ⊕ (Int × KM)))) → Prop} (hT : ∀ z, Θ (.inr (.inr (.inr (z)))) → z = q) (hb0 : ∀ s : Int × KM, Θ (.inl s) → kW X 234 [lq 10, li x1, li x2, li x3, li s.1, none, none] [] s.2) (hb1 : ∀ s : Int × KM, Θ (.inr (.inl s)) → kW X 225 [lq 10, li x1, li x2, li s.1, none, none, none] [] s.2) (hb2 : ∀ s : Int × KM, Θ (.inr (.inr (.inl s))) → kW X 80 [lq 10, li x1, li s.1, none, none, none, none] [] s.2) : kJ X 234 [lq 10, li x1, li x2, li x3, li x4, none, none] [] σ (fM_lasting_B234 x1 x2 x3 x4 σ) Θ := by
  refine k_iload hX dM_lasting_234 rfl ?_
  refine k_bipush hX dM_lasting_236 (by decide) ?_
  refine k_icmp_ge (tgt := 329) hX dM_lasting_238 (by decide) ?_ ?_
  · refine k_exit ?_
    refine k_less [true, true, true, true, false, true, true] (L' := [lq 10, li x1, li x2, li x3, none, none, none]) rfl ?_
    exact tM_lasting_J329 hX hR x1 x2 x3 σ hT hb1 hb2
  · refine k_iload hX dM_lasting_241 rfl ?_
    refine k_iload_n hX dM_lasting_243 rfl ?_
    refine k_icmp_ne (tgt := 250) hX dM_lasting_244 (by decide) ?_ ?_
    · refine k_aload_n hX dM_lasting_250 rfl ?_
      refine gf_194 hX dM_lasting_251 ?_
      refine k_bipush hX dM_lasting_254 (by decide) ?_
      refine k_iload_n hX dM_lasting_256 rfl ?_
      refine k_iconst hX dM_lasting_257 ?_
      refine k_isub hX dM_lasting_258 ?_
      refine k_imul hX dM_lasting_259 ?_
      refine k_iload hX dM_lasting_260 rfl ?_
      refine k_iadd hX dM_lasting_262 ?_
      refine k_iald hX (by decide) rfl dM_lasting_263 rfl (fun y1 => ?_)
      refine k_aload_n hX dM_lasting_264 rfl ?_
      refine k_iload hX dM_lasting_265 rfl ?_
      refine k_iload_n hX dM_lasting_267 rfl ?_
      refine k_iload_n hX dM_lasting_268 rfl ?_
      refine k_aload_n hX dM_lasting_269 rfl ?_
      refine gf_179 hX dM_lasting_270 ?_
      refine cl_133 hX (by decide) (Nat.le_of_ble_eq_true rfl) dM_lasting_273 (fun r3 τ2 => ?_)
      refine cl_134 hX (by decide) (Nat.le_of_ble_eq_true rfl) dM_lasting_276 (fun r5 τ4 => ?_)
      refine k_aload_n hX dM_lasting_279 rfl ?_
      refine gf_176 hX dM_lasting_280 ?_
      refine k_bipush hX dM_lasting_283 (by decide) ?_
      refine k_iload_n hX dM_lasting_285 rfl ?_
      refine k_imul hX dM_lasting_286 ?_
      refine k_iload_n hX dM_lasting_287 rfl ?_
      refine k_iadd hX dM_lasting_288 ?_
      refine k_iald hX (by decide) rfl dM_lasting_289 rfl (fun y6 => ?_)
      refine cl_134 hX (by decide) (Nat.le_of_ble_eq_true rfl) dM_lasting_290 (fun r8 τ7 => ?_)
      refine k_istore (L' := [lq 10, li x1, li x2, li x3, li x4, li r8, none]) hX dM_lasting_293 rfl (by decide) rfl ?_
      refine k_aload_n hX dM_lasting_295 rfl ?_
      refine gf_195 hX dM_lasting_296 ?_
      refine k_iload_n hX dM_lasting_299 rfl ?_
      refine k_iload hX dM_lasting_300 rfl ?_
      refine k_aload_n hX dM_lasting_302 rfl ?_
      refine gf_195 hX dM_lasting_303 ?_
      refine k_iload_n hX dM_lasting_306 rfl ?_
      refine k_iald hX (by decide) rfl dM_lasting_307 rfl (fun y9 => ?_)
      refine k_icmp_ge (tgt := 316) hX dM_lasting_308 (by decide) ?_ ?_
      · refine k_aload_n hX dM_lasting_316 rfl ?_
        refine gf_195 hX dM_lasting_317 ?_
        refine k_iload_n hX dM_lasting_320 rfl ?_
        refine k_iald hX (by decide) rfl dM_lasting_321 rfl (fun y10 => ?_)
        refine k_less [true, true, true, true, true, false, true] (L' := [lq 10, li x1, li x2, li x3, li x4, none, none]) rfl ?_
        exact tM_lasting_J322 hX hR x1 x2 x3 x4 y10 x3 τ7 hT hb0 hb1 hb2
      · refine k_iload hX dM_lasting_311 rfl ?_
        refine k_goto (tgt := 322) hX dM_lasting_313 (by decide) ?_
        refine k_less [true, true, true, true, true, false, true] (L' := [lq 10, li x1, li x2, li x3, li x4, none, none]) rfl ?_
        exact tM_lasting_J322 hX hR x1 x2 x3 x4 r8 x3 τ7 hT hb0 hb1 hb2
    · refine k_goto (tgt := 323) hX dM_lasting_247 (by decide) ?_
      exact tM_lasting_J323 hX hR x1 x2 x3 x4 σ hT hb0 hb1 hb2
set_option maxRecDepth 100000 in
set_option maxHeartbeats 4000000 in
theorem tM_lasting_L234 {X : KC} {q : Int × KM} (hX : kOk X 6 prog_11_method_69_code 7 "KeyPathModel") (hR : kRet X (some .int) q) (x1 x2 x3 x4 : Int) (σ : KM) {Θ : ((Int × KM) ⊕ ((Int × KM) ⊕ (Int × KM))) → Prop} (hT : ∀ z, Θ (.inr (.inr (z))) → z = q) (hb0 : ∀ s : Int × KM, Θ (.inl s) → kW X 225 [lq 10, li x1, li x2, li s.1, none, none, none] [] s.2) (hb1 : ∀ s : Int × KM, Θ (.inr (.inl s)) → kW X 80 [lq 10, li x1, li s.1, none, none, none, none] [] s.2) : kJ X 234 [lq 10, li x1, li x2, li x3, li x4, none, none] [] σ (fM_lasting_L234 x1 x2 x3 x4 σ) Θ :=
  k_iter (f := fun s => fM_lasting_B234 x1 x2 x3 s.1 s.2) (Lf := fun s => [lq 10, li x1, li x2, li x3, li s.1, none, none]) (mf := fun s => s.2) (Θ := Θ) (fun s => tM_lasting_B234 hX hR x1 x2 x3 s.1 s.2 hT (fun _ h9 => h9) hb0 hb1) kF (x4, σ)
set_option maxRecDepth 100000 in
set_option maxHeartbeats 4000000 in
theorem tM_lasting_B225 {X : KC} {q : Int × KM} (hX : kOk X 6 prog_11_method_69_code 7 "KeyPathModel") (hR : kRet X (some .int) q) (x1 x2 x3 : Int) (σ : KM) {Θ : ((Int × KM) ⊕ ((Int × KM) ⊕ (Int × KM))) → Prop} (hT : ∀ z, Θ (.inr (.inr (z))) → z = q) (hb0 : ∀ s : Int × KM, Θ (.inl s) → kW X 225 [lq 10, li x1, li x2, li s.1, none, none, none] [] s.2) (hb1 : ∀ s : Int × KM, Θ (.inr (.inl s)) → kW X 80 [lq 10, li x1, li s.1, none, none, none, none] [] s.2) : kJ X 225 [lq 10, li x1, li x2, li x3, none, none, none] [] σ (fM_lasting_B225 x1 x2 x3 σ) Θ := by
  refine k_iload_n hX dM_lasting_225 rfl ?_
  refine k_bipush hX dM_lasting_226 (by decide) ?_
  refine k_icmp_ge (tgt := 335) hX dM_lasting_228 (by decide) ?_ ?_
  · refine k_exit ?_
    refine k_less [true, true, true, false, true, true, true] (L' := [lq 10, li x1, li x2, none, none, none, none]) rfl ?_
    exact tM_lasting_J335 hX hR x1 x2 σ hT hb1
  · refine k_iconst hX dM_lasting_231 ?_
    refine k_istore (L' := [lq 10, li x1, li x2, li x3, li 0, none, none]) hX dM_lasting_232 rfl (by decide) rfl ?_
    exact tM_lasting_L234 hX hR x1 x2 x3 0 σ hT hb0 hb1
set_option maxRecDepth 100000 in
set_option maxHeartbeats 4000000 in
theorem tM_lasting_L225 {X : KC} {q : Int × KM} (hX : kOk X 6 prog_11_method_69_code 7 "KeyPathModel") (hR : kRet X (some .int) q) (x1 x2 x3 : Int) (σ : KM) {Θ : ((Int × KM) ⊕ (Int × KM)) → Prop} (hT : ∀ z, Θ (.inr (z)) → z = q) (hb0 : ∀ s : Int × KM, Θ (.inl s) → kW X 80 [lq 10, li x1, li s.1, none, none, none, none] [] s.2) : kJ X 225 [lq 10, li x1, li x2, li x3, none, none, none] [] σ (fM_lasting_L225 x1 x2 x3 σ) Θ :=
  k_iter (f := fun s => fM_lasting_B225 x1 x2 s.1 s.2) (Lf := fun s => [lq 10, li x1, li x2, li s.1, none, none, none]) (mf := fun s => s.2) (Θ := Θ) (fun s => tM_lasting_B225 hX hR x1 x2 s.1 s.2 hT (fun _ h9 => h9) hb0) kF (x3, σ)
set_option maxRecDepth 100000 in
set_option maxHeartbeats 4000000 in
theorem tM_lasting_J223 {X : KC} {q : Int × KM} (hX : kOk X 6 prog_11_method_69_code 7 "KeyPathModel") (hR : kRet X (some .int) q) (x1 x2 : Int) (σ : KM) {Θ : ((Int × KM) ⊕ (Int × KM)) → Prop} (hT : ∀ z, Θ (.inr (z)) → z = q) (hb0 : ∀ s : Int × KM, Θ (.inl s) → kW X 80 [lq 10, li x1, li s.1, none, none, none, none] [] s.2) : kJ X 223 [lq 10, li x1, li x2, none, none, none, none] [] σ (fM_lasting_J223 x1 x2 σ) Θ := by
  refine k_iconst hX dM_lasting_223 ?_
  refine k_istore_n (L' := [lq 10, li x1, li x2, li 0, none, none, none]) hX dM_lasting_224 rfl (by decide) rfl ?_
  exact tM_lasting_L225 hX hR x1 x2 0 σ hT hb0
set_option maxRecDepth 100000 in
set_option maxHeartbeats 4000000 in
theorem tM_lasting_J217 {X : KC} {q : Int × KM} (hX : kOk X 6 prog_11_method_69_code 7 "KeyPathModel") (hR : kRet X (some .int) q) (x1 x2 x3 : Int) (σ : KM) {Θ : ((Int × KM) ⊕ ((Int × KM) ⊕ (Int × KM))) → Prop} (hT : ∀ z, Θ (.inr (.inr (z))) → z = q) (hb0 : ∀ s : Int × KM, Θ (.inl s) → kW X 114 [lq 10, li x1, li x2, li s.1, none, none, none] [] s.2) (hb1 : ∀ s : Int × KM, Θ (.inr (.inl s)) → kW X 80 [lq 10, li x1, li s.1, none, none, none, none] [] s.2) : kJ X 217 [lq 10, li x1, li x2, li x3, none, none, none] [] σ (fM_lasting_J217 x1 x2 x3 σ) Θ := by
  refine k_iincL (Lf := fun y1 => [lq 10, li x1, li x2, li y1, none, none, none]) hX dM_lasting_217 rfl (by decide) rfl (fun _ => rfl) (fun y1 => ?_)
  refine k_goto (tgt := 114) hX dM_lasting_220 (by decide) ?_
  exact k_back (hb0 (y1, σ))
set_option maxRecDepth 100000 in
set_option maxHeartbeats 4000000 in
theorem tM_lasting_J210 {X : KC} {q : Int × KM} (hX : kOk X 6 prog_11_method_69_code 7 "KeyPathModel") (hR : kRet X (some .int) q) (x1 x2 x3 x4 t0 t1 : Int) (σ : KM) {Θ : ((Int × KM) ⊕ ((Int × KM) ⊕ ((Int × KM) ⊕ (Int × KM)))) → Prop} (hT : ∀ z, Θ (.inr (.inr (.inr (z)))) → z = q) (hb0 : ∀ s : Int × KM, Θ (.inl s) → kW X 122 [lq 10, li x1, li x2, li x3, li s.1, none, none] [] s.2) (hb1 : ∀ s : Int × KM, Θ (.inr (.inl s)) → kW X 114 [lq 10, li x1, li x2, li s.1, none, none, none] [] s.2) (hb2 : ∀ s : Int × KM, Θ (.inr (.inr (.inl s))) → kW X 80 [lq 10, li x1, li s.1, none, none, none, none] [] s.2) : kJ X 210 [lq 10, li x1, li x2, li x3, li x4, none, none] [ki t0, ki t1, kr 66] σ (fM_lasting_J210 x1 x2 x3 x4 t0 t1 σ) Θ := by
  refine k_iast hX (by decide) rfl dM_lasting_210 rfl (fun τ1 => ?_)
  refine k_iincL (Lf := fun y2 => [lq 10, li x1, li x2, li x3, li y2, none, none]) hX dM_lasting_211 rfl (by decide) rfl (fun _ => rfl) (fun y2 => ?_)
  refine k_goto (tgt := 122) hX dM_lasting_214 (by decide) ?_
  exact k_back (hb0 (y2, τ1))
set_option maxRecDepth 100000 in
set_option maxHeartbeats 4000000 in
theorem tM_lasting_J145 {X : KC} {q : Int × KM} (hX : kOk X 6 prog_11_method_69_code 7 "KeyPathModel") (hR : kRet X (some .int) q) (x1 x2 x3 x4 t0 t1 : Int) (σ : KM) {Θ : ((Int × KM) ⊕ ((Int × KM) ⊕ ((Int × KM) ⊕ (Int × KM)))) → Prop} (hT : ∀ z, Θ (.inr (.inr (.inr (z)))) → z = q) (hb0 : ∀ s : Int × KM, Θ (.inl s) → kW X 122 [lq 10, li x1, li x2, li x3, li s.1, none, none] [] s.2) (hb1 : ∀ s : Int × KM, Θ (.inr (.inl s)) → kW X 114 [lq 10, li x1, li x2, li s.1, none, none, none] [] s.2) (hb2 : ∀ s : Int × KM, Θ (.inr (.inr (.inl s))) → kW X 80 [lq 10, li x1, li s.1, none, none, none, none] [] s.2) : kJ X 145 [lq 10, li x1, li x2, li x3, li x4, none, none] [ki t0, ki t1] σ (fM_lasting_J145 x1 x2 x3 x4 t0 t1 σ) Θ := by
  refine k_imul hX dM_lasting_145 ?_
  refine k_iload hX dM_lasting_146 rfl ?_
  refine k_iadd hX dM_lasting_148 ?_
  refine k_istoreL (Lf := fun y1 => [lq 10, li x1, li x2, li x3, li x4, li y1, none]) hX dM_lasting_149 rfl (by decide) (fun _ => rfl) (fun y1 => ?_)
  refine k_aload_n hX dM_lasting_151 rfl ?_
  refine gf_194 hX dM_lasting_152 ?_
  refine k_bipush hX dM_lasting_155 (by decide) ?_
  refine k_iload_n hX dM_lasting_157 rfl ?_
  refine k_imul hX dM_lasting_158 ?_
  refine k_iload hX dM_lasting_159 rfl ?_
  refine k_iadd hX dM_lasting_161 ?_
  refine k_iald hX (by decide) rfl dM_lasting_162 rfl (fun y2 => ?_)
  refine k_aload_n hX dM_lasting_163 rfl ?_
  refine gf_176 hX dM_lasting_164 ?_
  refine k_bipush hX dM_lasting_167 (by decide) ?_
  refine k_iload_n hX dM_lasting_169 rfl ?_
  refine k_imul hX dM_lasting_170 ?_
  refine k_iload hX dM_lasting_171 rfl ?_
  refine k_iadd hX dM_lasting_173 ?_
  refine k_iald hX (by decide) rfl dM_lasting_174 rfl (fun y3 => ?_)
  refine cl_134 hX (by decide) (Nat.le_of_ble_eq_true rfl) dM_lasting_175 (fun r5 τ4 => ?_)
  refine k_istore (L' := [lq 10, li x1, li x2, li x3, li x4, li y1, li r5]) hX dM_lasting_178 rfl (by decide) rfl ?_
  refine k_aload_n hX dM_lasting_180 rfl ?_
  refine gf_195 hX dM_lasting_181 ?_
  refine k_iload hX dM_lasting_184 rfl ?_
  refine k_iload hX dM_lasting_186 rfl ?_
  refine k_aload_n hX dM_lasting_188 rfl ?_
  refine gf_195 hX dM_lasting_189 ?_
  refine k_iload hX dM_lasting_192 rfl ?_
  refine k_iald hX (by decide) rfl dM_lasting_194 rfl (fun y6 => ?_)
  refine k_icmp_ge (tgt := 203) hX dM_lasting_195 (by decide) ?_ ?_
  · refine k_aload_n hX dM_lasting_203 rfl ?_
    refine gf_195 hX dM_lasting_204 ?_
    refine k_iload hX dM_lasting_207 rfl ?_
    refine k_iald hX (by decide) rfl dM_lasting_209 rfl (fun y7 => ?_)
    refine k_less [true, true, true, true, true, false, false] (L' := [lq 10, li x1, li x2, li x3, li x4, none, none]) rfl ?_
    exact tM_lasting_J210 hX hR x1 x2 x3 x4 y7 y1 τ4 hT hb0 hb1 hb2
  · refine k_iload hX dM_lasting_198 rfl ?_
    refine k_goto (tgt := 210) hX dM_lasting_200 (by decide) ?_
    refine k_less [true, true, true, true, true, false, false] (L' := [lq 10, li x1, li x2, li x3, li x4, none, none]) rfl ?_
    exact tM_lasting_J210 hX hR x1 x2 x3 x4 r5 y1 τ4 hT hb0 hb1 hb2
set_option maxRecDepth 100000 in
set_option maxHeartbeats 4000000 in
theorem tM_lasting_B122 {X : KC} {q : Int × KM} (hX : kOk X 6 prog_11_method_69_code 7 "KeyPathModel") (hR : kRet X (some .int) q) (x1 x2 x3 x4 : Int) (σ : KM) {Θ : ((Int × KM) ⊕ ((Int × KM) ⊕ ((Int × KM) ⊕ (Int × KM)))) → Prop} (hT : ∀ z, Θ (.inr (.inr (.inr (z)))) → z = q) (hb0 : ∀ s : Int × KM, Θ (.inl s) → kW X 122 [lq 10, li x1, li x2, li x3, li s.1, none, none] [] s.2) (hb1 : ∀ s : Int × KM, Θ (.inr (.inl s)) → kW X 114 [lq 10, li x1, li x2, li s.1, none, none, none] [] s.2) (hb2 : ∀ s : Int × KM, Θ (.inr (.inr (.inl s))) → kW X 80 [lq 10, li x1, li s.1, none, none, none, none] [] s.2) : kJ X 122 [lq 10, li x1, li x2, li x3, li x4, none, none] [] σ (fM_lasting_B122 x1 x2 x3 x4 σ) Θ := by
  refine k_iload hX dM_lasting_122 rfl ?_
  refine k_bipush hX dM_lasting_124 (by decide) ?_
  refine k_icmp_ge (tgt := 217) hX dM_lasting_126 (by decide) ?_ ?_
  · refine k_exit ?_
    refine k_less [true, true, true, true, false, true, true] (L' := [lq 10, li x1, li x2, li x3, none, none, none]) rfl ?_
    exact tM_lasting_J217 hX hR x1 x2 x3 σ hT hb1 hb2
  · refine k_bipush hX dM_lasting_129 (by decide) ?_
    refine k_iload_n hX dM_lasting_131 rfl ?_
    refine k_iconst hX dM_lasting_132 ?_
    refine k_iadd hX dM_lasting_133 ?_
    refine k_iload_n hX dM_lasting_134 rfl ?_
    refine k_icmp_ge (tgt := 144) hX dM_lasting_135 (by decide) ?_ ?_
    · refine k_iload_n hX dM_lasting_144 rfl ?_
      exact tM_lasting_J145 hX hR x1 x2 x3 x4 x3 24 σ hT hb0 hb1 hb2
    · refine k_iload_n hX dM_lasting_138 rfl ?_
      refine k_iconst hX dM_lasting_139 ?_
      refine k_iadd hX dM_lasting_140 ?_
      refine k_goto (tgt := 145) hX dM_lasting_141 (by decide) ?_
      exact tM_lasting_J145 hX hR x1 x2 x3 x4 (x3 + 1) 24 σ hT hb0 hb1 hb2
set_option maxRecDepth 100000 in
set_option maxHeartbeats 4000000 in
theorem tM_lasting_L122 {X : KC} {q : Int × KM} (hX : kOk X 6 prog_11_method_69_code 7 "KeyPathModel") (hR : kRet X (some .int) q) (x1 x2 x3 x4 : Int) (σ : KM) {Θ : ((Int × KM) ⊕ ((Int × KM) ⊕ (Int × KM))) → Prop} (hT : ∀ z, Θ (.inr (.inr (z))) → z = q) (hb0 : ∀ s : Int × KM, Θ (.inl s) → kW X 114 [lq 10, li x1, li x2, li s.1, none, none, none] [] s.2) (hb1 : ∀ s : Int × KM, Θ (.inr (.inl s)) → kW X 80 [lq 10, li x1, li s.1, none, none, none, none] [] s.2) : kJ X 122 [lq 10, li x1, li x2, li x3, li x4, none, none] [] σ (fM_lasting_L122 x1 x2 x3 x4 σ) Θ :=
  k_iter (f := fun s => fM_lasting_B122 x1 x2 x3 s.1 s.2) (Lf := fun s => [lq 10, li x1, li x2, li x3, li s.1, none, none]) (mf := fun s => s.2) (Θ := Θ) (fun s => tM_lasting_B122 hX hR x1 x2 x3 s.1 s.2 hT (fun _ h9 => h9) hb0 hb1) kF (x4, σ)
set_option maxRecDepth 100000 in
set_option maxHeartbeats 4000000 in
theorem tM_lasting_B114 {X : KC} {q : Int × KM} (hX : kOk X 6 prog_11_method_69_code 7 "KeyPathModel") (hR : kRet X (some .int) q) (x1 x2 x3 : Int) (σ : KM) {Θ : ((Int × KM) ⊕ ((Int × KM) ⊕ (Int × KM))) → Prop} (hT : ∀ z, Θ (.inr (.inr (z))) → z = q) (hb0 : ∀ s : Int × KM, Θ (.inl s) → kW X 114 [lq 10, li x1, li x2, li s.1, none, none, none] [] s.2) (hb1 : ∀ s : Int × KM, Θ (.inr (.inl s)) → kW X 80 [lq 10, li x1, li s.1, none, none, none, none] [] s.2) : kJ X 114 [lq 10, li x1, li x2, li x3, none, none, none] [] σ (fM_lasting_B114 x1 x2 x3 σ) Θ := by
  refine k_iload_n hX dM_lasting_114 rfl ?_
  refine k_iload_n hX dM_lasting_115 rfl ?_
  refine k_icmp_ge (tgt := 223) hX dM_lasting_116 (by decide) ?_ ?_
  · refine k_exit ?_
    refine k_less [true, true, true, false, true, true, true] (L' := [lq 10, li x1, li x2, none, none, none, none]) rfl ?_
    exact tM_lasting_J223 hX hR x1 x2 σ hT hb1
  · refine k_iconst hX dM_lasting_119 ?_
    refine k_istore (L' := [lq 10, li x1, li x2, li x3, li 0, none, none]) hX dM_lasting_120 rfl (by decide) rfl ?_
    exact tM_lasting_L122 hX hR x1 x2 x3 0 σ hT hb0 hb1
set_option maxRecDepth 100000 in
set_option maxHeartbeats 4000000 in
theorem tM_lasting_L114 {X : KC} {q : Int × KM} (hX : kOk X 6 prog_11_method_69_code 7 "KeyPathModel") (hR : kRet X (some .int) q) (x1 x2 x3 : Int) (σ : KM) {Θ : ((Int × KM) ⊕ (Int × KM)) → Prop} (hT : ∀ z, Θ (.inr (z)) → z = q) (hb0 : ∀ s : Int × KM, Θ (.inl s) → kW X 80 [lq 10, li x1, li s.1, none, none, none, none] [] s.2) : kJ X 114 [lq 10, li x1, li x2, li x3, none, none, none] [] σ (fM_lasting_L114 x1 x2 x3 σ) Θ :=
  k_iter (f := fun s => fM_lasting_B114 x1 x2 s.1 s.2) (Lf := fun s => [lq 10, li x1, li x2, li s.1, none, none, none]) (mf := fun s => s.2) (Θ := Θ) (fun s => tM_lasting_B114 hX hR x1 x2 s.1 s.2 hT (fun _ h9 => h9) hb0) kF (x3, σ)
set_option maxRecDepth 100000 in
set_option maxHeartbeats 4000000 in
theorem tM_lasting_J112 {X : KC} {q : Int × KM} (hX : kOk X 6 prog_11_method_69_code 7 "KeyPathModel") (hR : kRet X (some .int) q) (x1 x2 : Int) (σ : KM) {Θ : ((Int × KM) ⊕ (Int × KM)) → Prop} (hT : ∀ z, Θ (.inr (z)) → z = q) (hb0 : ∀ s : Int × KM, Θ (.inl s) → kW X 80 [lq 10, li x1, li s.1, none, none, none, none] [] s.2) : kJ X 112 [lq 10, li x1, li x2, none, none, none, none] [] σ (fM_lasting_J112 x1 x2 σ) Θ := by
  refine k_iconst hX dM_lasting_112 ?_
  refine k_istore_n (L' := [lq 10, li x1, li x2, li 0, none, none, none]) hX dM_lasting_113 rfl (by decide) rfl ?_
  exact tM_lasting_L114 hX hR x1 x2 0 σ hT hb0
set_option maxRecDepth 100000 in
set_option maxHeartbeats 4000000 in
theorem tM_lasting_B90 {X : KC} {q : Int × KM} (hX : kOk X 6 prog_11_method_69_code 7 "KeyPathModel") (hR : kRet X (some .int) q) (x1 x2 x3 : Int) (σ : KM) {Θ : ((Int × KM) ⊕ ((Int × KM) ⊕ (Int × KM))) → Prop} (hT : ∀ z, Θ (.inr (.inr (z))) → z = q) (hb0 : ∀ s : Int × KM, Θ (.inl s) → kW X 90 [lq 10, li x1, li x2, li s.1, none, none, none] [] s.2) (hb1 : ∀ s : Int × KM, Θ (.inr (.inl s)) → kW X 80 [lq 10, li x1, li s.1, none, none, none, none] [] s.2) : kJ X 90 [lq 10, li x1, li x2, li x3, none, none, none] [] σ (fM_lasting_B90 x1 x2 x3 σ) Θ := by
  refine k_iload_n hX dM_lasting_90 rfl ?_
  refine k_bipush hX dM_lasting_91 (by decide) ?_
  refine k_iload_n hX dM_lasting_93 rfl ?_
  refine k_imul hX dM_lasting_94 ?_
  refine k_icmp_ge (tgt := 112) hX dM_lasting_95 (by decide) ?_ ?_
  · refine k_exit ?_
    refine k_less [true, true, true, false, true, true, true] (L' := [lq 10, li x1, li x2, none, none, none, none]) rfl ?_
    exact tM_lasting_J112 hX hR x1 x2 σ hT hb1
  · refine k_aload_n hX dM_lasting_98 rfl ?_
    refine gf_195 hX dM_lasting_99 ?_
    refine k_iload_n hX dM_lasting_102 rfl ?_
    refine k_ldc (v := 1000000000) (w := 0) hX dM_lasting_103 tw_1309 ?_
    refine k_iast hX (by decide) rfl dM_lasting_105 rfl (fun τ1 => ?_)
    refine k_iincL (Lf := fun y2 => [lq 10, li x1, li x2, li y2, none, none, none]) hX dM_lasting_106 rfl (by decide) rfl (fun _ => rfl) (fun y2 => ?_)
    refine k_goto (tgt := 90) hX dM_lasting_109 (by decide) ?_
    exact k_back (hb0 (y2, τ1))
set_option maxRecDepth 100000 in
set_option maxHeartbeats 4000000 in
theorem tM_lasting_L90 {X : KC} {q : Int × KM} (hX : kOk X 6 prog_11_method_69_code 7 "KeyPathModel") (hR : kRet X (some .int) q) (x1 x2 x3 : Int) (σ : KM) {Θ : ((Int × KM) ⊕ (Int × KM)) → Prop} (hT : ∀ z, Θ (.inr (z)) → z = q) (hb0 : ∀ s : Int × KM, Θ (.inl s) → kW X 80 [lq 10, li x1, li s.1, none, none, none, none] [] s.2) : kJ X 90 [lq 10, li x1, li x2, li x3, none, none, none] [] σ (fM_lasting_L90 x1 x2 x3 σ) Θ :=
  k_iter (f := fun s => fM_lasting_B90 x1 x2 s.1 s.2) (Lf := fun s => [lq 10, li x1, li x2, li s.1, none, none, none]) (mf := fun s => s.2) (Θ := Θ) (fun s => tM_lasting_B90 hX hR x1 x2 s.1 s.2 hT (fun _ h9 => h9) hb0) kF (x3, σ)
set_option maxRecDepth 100000 in
set_option maxHeartbeats 4000000 in
theorem tM_lasting_B80 {X : KC} {q : Int × KM} (hX : kOk X 6 prog_11_method_69_code 7 "KeyPathModel") (hR : kRet X (some .int) q) (x1 x2 : Int) (σ : KM) {Θ : ((Int × KM) ⊕ (Int × KM)) → Prop} (hT : ∀ z, Θ (.inr (z)) → z = q) (hb0 : ∀ s : Int × KM, Θ (.inl s) → kW X 80 [lq 10, li x1, li s.1, none, none, none, none] [] s.2) : kJ X 80 [lq 10, li x1, li x2, none, none, none, none] [] σ (fM_lasting_B80 x1 x2 σ) Θ := by
  refine k_iload_n hX dM_lasting_80 rfl ?_
  refine k_aload_n hX dM_lasting_81 rfl ?_
  refine gf_174 hX dM_lasting_82 ?_
  refine k_icmp_ge (tgt := 346) hX dM_lasting_85 (by decide) ?_ ?_
  · refine k_exit ?_
    refine k_less [true, true, false, true, true, true, true] (L' := [lq 10, li x1, none, none, none, none, none]) rfl ?_
    exact tM_lasting_J346 hX hR x1 σ hT
  · refine k_iconst hX dM_lasting_88 ?_
    refine k_istore_n (L' := [lq 10, li x1, li x2, li 0, none, none, none]) hX dM_lasting_89 rfl (by decide) rfl ?_
    exact tM_lasting_L90 hX hR x1 x2 0 σ hT hb0
set_option maxRecDepth 100000 in
set_option maxHeartbeats 4000000 in
theorem tM_lasting_L80 {X : KC} {q : Int × KM} (hX : kOk X 6 prog_11_method_69_code 7 "KeyPathModel") (hR : kRet X (some .int) q) (x1 x2 : Int) (σ : KM) {Θ : (Int × KM) → Prop} (hT : ∀ z, Θ (z) → z = q) : kJ X 80 [lq 10, li x1, li x2, none, none, none, none] [] σ (fM_lasting_L80 x1 x2 σ) Θ :=
  k_iter (f := fun s => fM_lasting_B80 x1 s.1 s.2) (Lf := fun s => [lq 10, li x1, li s.1, none, none, none, none]) (mf := fun s => s.2) (Θ := Θ) (fun s => tM_lasting_B80 hX hR x1 s.1 s.2 hT (fun _ h9 => h9)) kF (x2, σ)
set_option maxRecDepth 100000 in
set_option maxHeartbeats 4000000 in
theorem tM_lasting_J78 {X : KC} {q : Int × KM} (hX : kOk X 6 prog_11_method_69_code 7 "KeyPathModel") (hR : kRet X (some .int) q) (x1 : Int) (σ : KM) {Θ : (Int × KM) → Prop} (hT : ∀ z, Θ (z) → z = q) : kJ X 78 [lq 10, li x1, none, none, none, none, none] [] σ (fM_lasting_J78 x1 σ) Θ := by
  refine k_iconst hX dM_lasting_78 ?_
  refine k_istore_n (L' := [lq 10, li x1, li 1, none, none, none, none]) hX dM_lasting_79 rfl (by decide) rfl ?_
  exact tM_lasting_L80 hX hR x1 1 σ hT
set_option maxRecDepth 100000 in
set_option maxHeartbeats 4000000 in
theorem tM_lasting_J71 {X : KC} {q : Int × KM} (hX : kOk X 6 prog_11_method_69_code 7 "KeyPathModel") (hR : kRet X (some .int) q) (x1 x2 t0 t1 : Int) (σ : KM) {Θ : ((Int × KM) ⊕ (Int × KM)) → Prop} (hT : ∀ z, Θ (.inr (z)) → z = q) (hb0 : ∀ s : Int × KM, Θ (.inl s) → kW X 41 [lq 10, li x1, li s.1, none, none, none, none] [] s.2) : kJ X 71 [lq 10, li x1, li x2, none, none, none, none] [ki t0, ki t1, kr 65] σ (fM_lasting_J71 x1 x2 t0 t1 σ) Θ := by
  refine k_iast hX (by decide) rfl dM_lasting_71 rfl (fun τ1 => ?_)
  refine k_iincL (Lf := fun y2 => [lq 10, li x1, li y2, none, none, none, none]) hX dM_lasting_72 rfl (by decide) rfl (fun _ => rfl) (fun y2 => ?_)
  refine k_goto (tgt := 41) hX dM_lasting_75 (by decide) ?_
  exact k_back (hb0 (y2, τ1))
set_option maxRecDepth 100000 in
set_option maxHeartbeats 4000000 in
theorem tM_lasting_B41 {X : KC} {q : Int × KM} (hX : kOk X 6 prog_11_method_69_code 7 "KeyPathModel") (hR : kRet X (some .int) q) (x1 x2 : Int) (σ : KM) {Θ : ((Int × KM) ⊕ (Int × KM)) → Prop} (hT : ∀ z, Θ (.inr (z)) → z = q) (hb0 : ∀ s : Int × KM, Θ (.inl s) → kW X 41 [lq 10, li x1, li s.1, none, none, none, none] [] s.2) : kJ X 41 [lq 10, li x1, li x2, none, none, none, none] [] σ (fM_lasting_B41 x1 x2 σ) Θ := by
  refine k_iload_n hX dM_lasting_41 rfl ?_
  refine k_bipush hX dM_lasting_42 (by decide) ?_
  refine k_iload_n hX dM_lasting_44 rfl ?_
  refine k_imul hX dM_lasting_45 ?_
  refine k_icmp_ge (tgt := 78) hX dM_lasting_46 (by decide) ?_ ?_
  · refine k_exit ?_
    refine k_less [true, true, false, true, true, true, true] (L' := [lq 10, li x1, none, none, none, none, none]) rfl ?_
    exact tM_lasting_J78 hX hR x1 σ hT
  · refine k_aload_n hX dM_lasting_49 rfl ?_
    refine gf_194 hX dM_lasting_50 ?_
    refine k_iload_n hX dM_lasting_53 rfl ?_
    refine k_iload_n hX dM_lasting_54 rfl ?_
    refine k_bipush hX dM_lasting_55 (by decide) ?_
    refine k_icmp_ge (tgt := 69) hX dM_lasting_57 (by decide) ?_ ?_
    · refine k_ldc (v := 1000000000) (w := 0) hX dM_lasting_69 tw_1309 ?_
      exact tM_lasting_J71 hX hR x1 x2 1000000000 x2 σ hT hb0
    · refine k_aload_n hX dM_lasting_60 rfl ?_
      refine gf_176 hX dM_lasting_61 ?_
      refine k_iload_n hX dM_lasting_64 rfl ?_
      refine k_iald hX (by decide) rfl dM_lasting_65 rfl (fun y1 => ?_)
      refine k_goto (tgt := 71) hX dM_lasting_66 (by decide) ?_
      exact tM_lasting_J71 hX hR x1 x2 y1 x2 σ hT hb0
set_option maxRecDepth 100000 in
set_option maxHeartbeats 4000000 in
theorem tM_lasting_L41 {X : KC} {q : Int × KM} (hX : kOk X 6 prog_11_method_69_code 7 "KeyPathModel") (hR : kRet X (some .int) q) (x1 x2 : Int) (σ : KM) {Θ : (Int × KM) → Prop} (hT : ∀ z, Θ (z) → z = q) : kJ X 41 [lq 10, li x1, li x2, none, none, none, none] [] σ (fM_lasting_L41 x1 x2 σ) Θ :=
  k_iter (f := fun s => fM_lasting_B41 x1 s.1 s.2) (Lf := fun s => [lq 10, li x1, li s.1, none, none, none, none]) (mf := fun s => s.2) (Θ := Θ) (fun s => tM_lasting_B41 hX hR x1 s.1 s.2 hT (fun _ h9 => h9)) kF (x2, σ)
set_option maxRecDepth 100000 in
set_option maxHeartbeats 4000000 in
theorem sM_lasting (x1 : Int) (σ : KM) : kSem 6 (⟨"KeyPathModel", "lasting", "(I)I"⟩ : MethodName) prog_11_method_69_code 7 (some .int) [kr 10, ki x1] σ (fM_lasting x1 σ) := by
  refine kSem.of (L0 := [lq 10, li x1, none, none, none, none, none]) (by decide) (Nat.le_of_ble_eq_true rfl) rfl (fun X q hX hR => ?_)
  have hT : ∀ z : Int × KM, (fun z => z = q) z → z = q := fun _ h => h
  refine k_aload_n hX dM_lasting_0 rfl ?_
  refine k_iconst hX dM_lasting_1 ?_
  refine gp_157 hX dM_lasting_2 (fun τ1 => ?_)
  refine k_iload_n hX dM_lasting_5 rfl ?_
  refine k_i2l hX dM_lasting_6 ?_
  refine k_lconst1 hX dM_lasting_7 ?_
  refine k_ldc2 (v := 16) hX dM_lasting_8 tw_1394 ?_
  refine cl_120 hX (by decide) (Nat.le_of_ble_eq_true rfl) dM_lasting_11 (fun r3 τ2 => ?_)
  refine k_if_ne (tgt := 20) hX dM_lasting_14 (by decide) ?_ ?_
  · refine k_aload_n hX dM_lasting_20 rfl ?_
    refine cl_136 hX (by decide) (Nat.le_of_ble_eq_true rfl) dM_lasting_21 (fun r5 τ4 => ?_)
    refine k_if_ne (tgt := 30) hX dM_lasting_24 (by decide) ?_ ?_
    · refine k_aload_n hX dM_lasting_30 rfl ?_
      refine gf_174 hX dM_lasting_31 ?_
      refine k_if_ne (tgt := 39) hX dM_lasting_34 (by decide) ?_ ?_
      · refine k_iconst hX dM_lasting_39 ?_
        refine k_istore_n (L' := [lq 10, li x1, li 0, none, none, none, none]) hX dM_lasting_40 rfl (by decide) rfl ?_
        exact tM_lasting_L41 hX hR x1 0 τ4 hT
      · refine k_iconst hX dM_lasting_37 ?_
        exact k_iret hX hR hT dM_lasting_38
    · refine k_bipush hX dM_lasting_27 (by decide) ?_
      exact k_iret hX hR hT dM_lasting_29
  · refine k_bipush hX dM_lasting_17 (by decide) ?_
    exact k_iret hX hR hT dM_lasting_19
