theorem dM_isMode_0 : decode prog_11_method_27_code 0 = .ok (.iload_n 0, 1) := by decide +kernel
theorem dM_isMode_1 : decode prog_11_method_27_code 1 = .ok (.ifCond .eq 8, 3) := by decide +kernel
theorem dM_isMode_4 : decode prog_11_method_27_code 4 = .ok (.iload_n 0, 1) := by decide +kernel
theorem dM_isMode_5 : decode prog_11_method_27_code 5 = .ok (.iconst 1, 1) := by decide +kernel
theorem dM_isMode_6 : decode prog_11_method_27_code 6 = .ok (.if_icmp .ne 7, 3) := by decide +kernel
theorem dM_isMode_9 : decode prog_11_method_27_code 9 = .ok (.iconst 1, 1) := by decide +kernel
theorem dM_isMode_10 : decode prog_11_method_27_code 10 = .ok (.goto 4, 3) := by decide +kernel
theorem dM_isMode_13 : decode prog_11_method_27_code 13 = .ok (.iconst 0, 1) := by decide +kernel
theorem dM_isMode_14 : decode prog_11_method_27_code 14 = .ok (.ireturn, 1) := by decide +kernel
set_option maxRecDepth 100000 in
set_option maxHeartbeats 4000000 in
theorem tM_isMode_J14 {X : KC} {q : Int × KM} (hX : kOk X 1 prog_11_method_27_code 1 "KeyPathModel") (hR : kRet X (some .boolean) q) (t0 : Int) (σ : KM) {Θ : (Int × KM) → Prop} (hT : ∀ z, Θ (z) → z = q) : kJ X 14 [none] [ki t0] σ (fM_isMode_J14 t0 σ) Θ := by
  exact k_zret hX hR hT dM_isMode_14
set_option maxRecDepth 100000 in
set_option maxHeartbeats 4000000 in
theorem tM_isMode_J9 {X : KC} {q : Int × KM} (hX : kOk X 1 prog_11_method_27_code 1 "KeyPathModel") (hR : kRet X (some .boolean) q) (σ : KM) {Θ : (Int × KM) → Prop} (hT : ∀ z, Θ (z) → z = q) : kJ X 9 [none] [] σ (fM_isMode_J9 σ) Θ := by
  refine k_iconst hX dM_isMode_9 ?_
  refine k_goto (tgt := 14) hX dM_isMode_10 (by decide) ?_
  exact tM_isMode_J14 hX hR 1 σ hT
set_option maxRecDepth 100000 in
set_option maxHeartbeats 4000000 in
theorem sM_isMode (x0 : Int) (σ : KM) : kSem 1 (⟨"KeyPathModel", "isMode", "(I)Z"⟩ : MethodName) prog_11_method_27_code 1 (some .boolean) [ki x0] σ (fM_isMode x0 σ) := by
  refine kSem.of (L0 := [li x0]) (by decide) (Nat.le_of_ble_eq_true rfl) rfl (fun X q hX hR => ?_)
  have hT : ∀ z : Int × KM, (fun z => z = q) z → z = q := fun _ h => h
  refine k_iload_n hX dM_isMode_0 rfl ?_
  refine k_if_eq (tgt := 9) hX dM_isMode_1 (by decide) ?_ ?_
  · refine k_less [false] (L' := [none]) rfl ?_
    exact tM_isMode_J9 hX hR σ hT
  · refine k_iload_n hX dM_isMode_4 rfl ?_
    refine k_iconst hX dM_isMode_5 ?_
    refine k_icmp_ne (tgt := 13) hX dM_isMode_6 (by decide) ?_ ?_
    · refine k_iconst hX dM_isMode_13 ?_
      refine k_less [false] (L' := [none]) rfl ?_
      exact tM_isMode_J14 hX hR 0 σ hT
    · refine k_less [false] (L' := [none]) rfl ?_
      exact tM_isMode_J9 hX hR σ hT
theorem cl_149 {X : KC} {d n : Nat} {cc : ByteArray} {pc : Nat} {L : List (Option KV)} {st : List KV} {σ : KM} {Z : Type} {Θ : Z → Prop} {G : Int → KM → Option Z} {x0 : Int} (hX : kOk X d cc n "KeyPathModel") (hdd : 1 + 1 ≤ d) (hst : k_cat st ≤ 8) (hd : decode cc pc = .ok (.invokestatic 205, 3)) (h : ∀ r τ, kJ X (pc + 3) L (ki r :: st) τ (G r τ) Θ) : kJ X pc L (ki x0 :: st) σ (kCall (fM_isMode x0 σ) G) Θ :=
  k_callS (np := 1) (av := [ki x0]) (ret := (some .boolean)) hX (sM_isMode _ σ) ⟨⟨hdd, by decide⟩, tw_1225, tw_11, by decide +kernel⟩ rfl tw_1223 tw_1224 hst hd h
theorem dM_learnt_0 : decode prog_11_method_86_code 0 = .ok (.aload_n 0, 1) := by decide +kernel
theorem dM_learnt_1 : decode prog_11_method_86_code 1 = .ok (.iconst 0, 1) := by decide +kernel
theorem dM_learnt_2 : decode prog_11_method_86_code 2 = .ok (.putfield 1, 3) := by decide +kernel
theorem dM_learnt_5 : decode prog_11_method_86_code 5 = .ok (.iload_n 1, 1) := by decide +kernel
theorem dM_learnt_6 : decode prog_11_method_86_code 6 = .ok (.invokestatic 205, 3) := by decide +kernel
theorem dM_learnt_9 : decode prog_11_method_86_code 9 = .ok (.ifCond .eq 15, 3) := by decide +kernel
theorem dM_learnt_12 : decode prog_11_method_86_code 12 = .ok (.iload_n 2, 1) := by decide +kernel
theorem dM_learnt_13 : decode prog_11_method_86_code 13 = .ok (.i2l, 1) := by decide +kernel
theorem dM_learnt_14 : decode prog_11_method_86_code 14 = .ok (.lconst 0, 1) := by decide +kernel
theorem dM_learnt_15 : decode prog_11_method_86_code 15 = .ok (.ldc2_w 208, 3) := by decide +kernel
theorem dM_learnt_18 : decode prog_11_method_86_code 18 = .ok (.invokestatic 134, 3) := by decide +kernel
theorem dM_learnt_21 : decode prog_11_method_86_code 21 = .ok (.ifCond .ne 6, 3) := by decide +kernel
theorem dM_learnt_24 : decode prog_11_method_86_code 24 = .ok (.bipush (-2), 2) := by decide +kernel
theorem dM_learnt_26 : decode prog_11_method_86_code 26 = .ok (.ireturn, 1) := by decide +kernel
theorem dM_learnt_27 : decode prog_11_method_86_code 27 = .ok (.aload_n 0, 1) := by decide +kernel
theorem dM_learnt_28 : decode prog_11_method_86_code 28 = .ok (.invokevirtual 287, 3) := by decide +kernel
theorem dM_learnt_31 : decode prog_11_method_86_code 31 = .ok (.ifCond .ne 6, 3) := by decide +kernel
theorem dM_learnt_34 : decode prog_11_method_86_code 34 = .ok (.bipush (-5), 2) := by decide +kernel
theorem dM_learnt_36 : decode prog_11_method_86_code 36 = .ok (.ireturn, 1) := by decide +kernel
theorem dM_learnt_37 : decode prog_11_method_86_code 37 = .ok (.iconst 0, 1) := by decide +kernel
theorem dM_learnt_38 : decode prog_11_method_86_code 38 = .ok (.istore_n 3, 1) := by decide +kernel
theorem dM_learnt_39 : decode prog_11_method_86_code 39 = .ok (.iconst 0, 1) := by decide +kernel
theorem dM_learnt_40 : decode prog_11_method_86_code 40 = .ok (.istore 4, 2) := by decide +kernel
theorem dM_learnt_42 : decode prog_11_method_86_code 42 = .ok (.iconst 0, 1) := by decide +kernel
theorem dM_learnt_43 : decode prog_11_method_86_code 43 = .ok (.istore 5, 2) := by decide +kernel
theorem dM_learnt_45 : decode prog_11_method_86_code 45 = .ok (.iload 5, 2) := by decide +kernel
theorem dM_learnt_47 : decode prog_11_method_86_code 47 = .ok (.aload_n 0, 1) := by decide +kernel
theorem dM_learnt_48 : decode prog_11_method_86_code 48 = .ok (.getfield 267, 3) := by decide +kernel
theorem dM_learnt_51 : decode prog_11_method_86_code 51 = .ok (.if_icmp .ge 61, 3) := by decide +kernel
theorem dM_learnt_54 : decode prog_11_method_86_code 54 = .ok (.aload_n 0, 1) := by decide +kernel
theorem dM_learnt_55 : decode prog_11_method_86_code 55 = .ok (.getfield 90, 3) := by decide +kernel
theorem dM_learnt_58 : decode prog_11_method_86_code 58 = .ok (.iload 5, 2) := by decide +kernel
theorem dM_learnt_60 : decode prog_11_method_86_code 60 = .ok (.iaload, 1) := by decide +kernel
theorem dM_learnt_61 : decode prog_11_method_86_code 61 = .ok (.bipush 12, 2) := by decide +kernel
theorem dM_learnt_63 : decode prog_11_method_86_code 63 = .ok (.idiv, 1) := by decide +kernel
theorem dM_learnt_64 : decode prog_11_method_86_code 64 = .ok (.iload_n 1, 1) := by decide +kernel
theorem dM_learnt_65 : decode prog_11_method_86_code 65 = .ok (.if_icmp .eq 6, 3) := by decide +kernel
theorem dM_learnt_68 : decode prog_11_method_86_code 68 = .ok (.goto 38, 3) := by decide +kernel
theorem dM_learnt_71 : decode prog_11_method_86_code 71 = .ok (.aload_n 0, 1) := by decide +kernel
theorem dM_learnt_72 : decode prog_11_method_86_code 72 = .ok (.iload 5, 2) := by decide +kernel
theorem dM_learnt_74 : decode prog_11_method_86_code 74 = .ok (.invokevirtual 232, 3) := by decide +kernel
theorem dM_learnt_77 : decode prog_11_method_86_code 77 = .ok (.iload_n 3, 1) := by decide +kernel
theorem dM_learnt_78 : decode prog_11_method_86_code 78 = .ok (.aload_n 0, 1) := by decide +kernel
theorem dM_learnt_79 : decode prog_11_method_86_code 79 = .ok (.getfield 66, 3) := by decide +kernel
theorem dM_learnt_82 : decode prog_11_method_86_code 82 = .ok (.aload_n 0, 1) := by decide +kernel
theorem dM_learnt_83 : decode prog_11_method_86_code 83 = .ok (.getfield 90, 3) := by decide +kernel
theorem dM_learnt_86 : decode prog_11_method_86_code 86 = .ok (.iload 5, 2) := by decide +kernel
theorem dM_learnt_88 : decode prog_11_method_86_code 88 = .ok (.iaload, 1) := by decide +kernel
theorem dM_learnt_89 : decode prog_11_method_86_code 89 = .ok (.iload_n 2, 1) := by decide +kernel
theorem dM_learnt_90 : decode prog_11_method_86_code 90 = .ok (.iadd, 1) := by decide +kernel
theorem dM_learnt_91 : decode prog_11_method_86_code 91 = .ok (.bipush 12, 2) := by decide +kernel
theorem dM_learnt_93 : decode prog_11_method_86_code 93 = .ok (.irem, 1) := by decide +kernel
theorem dM_learnt_94 : decode prog_11_method_86_code 94 = .ok (.iaload, 1) := by decide +kernel
theorem dM_learnt_95 : decode prog_11_method_86_code 95 = .ok (.iadd, 1) := by decide +kernel
theorem dM_learnt_96 : decode prog_11_method_86_code 96 = .ok (.istore_n 3, 1) := by decide +kernel
theorem dM_learnt_97 : decode prog_11_method_86_code 97 = .ok (.iload 4, 2) := by decide +kernel
theorem dM_learnt_99 : decode prog_11_method_86_code 99 = .ok (.aload_n 0, 1) := by decide +kernel
theorem dM_learnt_100 : decode prog_11_method_86_code 100 = .ok (.getfield 223, 3) := by decide +kernel
theorem dM_learnt_103 : decode prog_11_method_86_code 103 = .ok (.iadd, 1) := by decide +kernel
theorem dM_learnt_104 : decode prog_11_method_86_code 104 = .ok (.istore 4, 2) := by decide +kernel
theorem dM_learnt_106 : decode prog_11_method_86_code 106 = .ok (.iinc 5 1, 3) := by decide +kernel
theorem dM_learnt_109 : decode prog_11_method_86_code 109 = .ok (.goto (-64), 3) := by decide +kernel
theorem dM_learnt_112 : decode prog_11_method_86_code 112 = .ok (.iload 4, 2) := by decide +kernel
theorem dM_learnt_114 : decode prog_11_method_86_code 114 = .ok (.ifCond .ne 7, 3) := by decide +kernel
theorem dM_learnt_117 : decode prog_11_method_86_code 117 = .ok (.iconst (-1), 1) := by decide +kernel
theorem dM_learnt_118 : decode prog_11_method_86_code 118 = .ok (.goto 14, 3) := by decide +kernel
theorem dM_learnt_121 : decode prog_11_method_86_code 121 = .ok (.ldc2_w 214, 3) := by decide +kernel
theorem dM_learnt_124 : decode prog_11_method_86_code 124 = .ok (.iload_n 3, 1) := by decide +kernel
theorem dM_learnt_125 : decode prog_11_method_86_code 125 = .ok (.i2l, 1) := by decide +kernel
theorem dM_learnt_126 : decode prog_11_method_86_code 126 = .ok (.lmul, 1) := by decide +kernel
theorem dM_learnt_127 : decode prog_11_method_86_code 127 = .ok (.iload 4, 2) := by decide +kernel
theorem dM_learnt_129 : decode prog_11_method_86_code 129 = .ok (.i2l, 1) := by decide +kernel
theorem dM_learnt_130 : decode prog_11_method_86_code 130 = .ok (.ldiv, 1) := by decide +kernel
theorem dM_learnt_131 : decode prog_11_method_86_code 131 = .ok (.l2i, 1) := by decide +kernel
theorem dM_learnt_132 : decode prog_11_method_86_code 132 = .ok (.ireturn, 1) := by decide +kernel
set_option maxRecDepth 100000 in
set_option maxHeartbeats 4000000 in
theorem tM_learnt_J24 {X : KC} {q : Int × KM} (hX : kOk X 6 prog_11_method_86_code 6 "KeyPathModel") (hR : kRet X (some .int) q) (σ : KM) {Θ : (Int × KM) → Prop} (hT : ∀ z, Θ (z) → z = q) : kJ X 24 [lq 10, none, none, none, none, none] [] σ (fM_learnt_J24 σ) Θ := by
  refine k_bipush hX dM_learnt_24 (by decide) ?_
  exact k_iret hX hR hT dM_learnt_26
set_option maxRecDepth 100000 in
set_option maxHeartbeats 4000000 in
theorem tM_learnt_J132 {X : KC} {q : Int × KM} (hX : kOk X 6 prog_11_method_86_code 6 "KeyPathModel") (hR : kRet X (some .int) q) (t0 : Int) (σ : KM) {Θ : (Int × KM) → Prop} (hT : ∀ z, Θ (z) → z = q) : kJ X 132 [lq 10, none, none, none, none, none] [ki t0] σ (fM_learnt_J132 t0 σ) Θ := by
  exact k_iret hX hR hT dM_learnt_132
set_option maxRecDepth 100000 in
set_option maxHeartbeats 4000000 in
theorem tM_learnt_J112 {X : KC} {q : Int × KM} (hX : kOk X 6 prog_11_method_86_code 6 "KeyPathModel") (hR : kRet X (some .int) q) (x3 x4 : Int) (σ : KM) {Θ : (Int × KM) → Prop} (hT : ∀ z, Θ (z) → z = q) : kJ X 112 [lq 10, none, none, li x3, li x4, none] [] σ (fM_learnt_J112 x3 x4 σ) Θ := by
  refine k_iload hX dM_learnt_112 rfl ?_
  refine k_if_ne (tgt := 121) hX dM_learnt_114 (by decide) ?_ ?_
  · refine k_ldc2 (v := 100) hX dM_learnt_121 tw_1233 ?_
    refine k_iload_n hX dM_learnt_124 rfl ?_
    refine k_i2l hX dM_learnt_125 ?_
    refine k_lmul hX dM_learnt_126 ?_
    refine k_iload hX dM_learnt_127 rfl ?_
    refine k_i2l hX dM_learnt_129 ?_
    refine k_ldiv hX dM_learnt_130 (fun y1 => ?_)
    refine k_l2i hX dM_learnt_131 ?_
    refine k_less [true, true, true, false, false, true] (L' := [lq 10, none, none, none, none, none]) rfl ?_
    exact tM_learnt_J132 hX hR y1 σ hT
  · refine k_iconst hX dM_learnt_117 ?_
    refine k_goto (tgt := 132) hX dM_learnt_118 (by decide) ?_
    refine k_less [true, true, true, false, false, true] (L' := [lq 10, none, none, none, none, none]) rfl ?_
    exact tM_learnt_J132 hX hR (-1) σ hT
set_option maxRecDepth 100000 in
set_option maxHeartbeats 4000000 in
theorem tM_learnt_J106 {X : KC} {q : Int × KM} (hX : kOk X 6 prog_11_method_86_code 6 "KeyPathModel") (hR : kRet X (some .int) q) (x1 x2 x3 x4 x5 : Int) (σ : KM) {Θ : ((Int × Int × Int × KM) ⊕ (Int × KM)) → Prop} (hT : ∀ z, Θ (.inr (z)) → z = q) (hb0 : ∀ s : Int × Int × Int × KM, Θ (.inl s) → kW X 45 [lq 10, li x1, li x2, li s.1, li s.2.1, li s.2.2.1] [] s.2.2.2) : kJ X 106 [lq 10, li x1, li x2, li x3, li x4, li x5] [] σ (fM_learnt_J106 x1 x2 x3 x4 x5 σ) Θ := by
  refine k_iincL (Lf := fun y1 => [lq 10, li x1, li x2, li x3, li x4, li y1]) hX dM_learnt_106 rfl (by decide) rfl (fun _ => rfl) (fun y1 => ?_)
  refine k_goto (tgt := 45) hX dM_learnt_109 (by decide) ?_
  exact k_back (hb0 (x3, x4, y1, σ))
set_option maxRecDepth 100000 in
set_option maxHeartbeats 4000000 in
theorem tM_learnt_B45 {X : KC} {q : Int × KM} (hX : kOk X 6 prog_11_method_86_code 6 "KeyPathModel") (hR : kRet X (some .int) q) (x1 x2 x3 x4 x5 : Int) (σ : KM) {Θ : ((Int × Int × Int × KM) ⊕ (Int × KM)) → Prop} (hT : ∀ z, Θ (.inr (z)) → z = q) (hb0 : ∀ s : Int × Int × Int × KM, Θ (.inl s) → kW X 45 [lq 10, li x1, li x2, li s.1, li s.2.1, li s.2.2.1] [] s.2.2.2) : kJ X 45 [lq 10, li x1, li x2, li x3, li x4, li x5] [] σ (fM_learnt_B45 x1 x2 x3 x4 x5 σ) Θ := by
  refine k_iload hX dM_learnt_45 rfl ?_
  refine k_aload_n hX dM_learnt_47 rfl ?_
  refine gf_174 hX dM_learnt_48 ?_
  refine k_icmp_ge (tgt := 112) hX dM_learnt_51 (by decide) ?_ ?_
  · refine k_exit ?_
    refine k_less [true, false, false, true, true, false] (L' := [lq 10, none, none, li x3, li x4, none]) rfl ?_
    exact tM_learnt_J112 hX hR x3 x4 σ hT
  · refine k_aload_n hX dM_learnt_54 rfl ?_
    refine gf_182 hX dM_learnt_55 ?_
    refine k_iload hX dM_learnt_58 rfl ?_
    refine k_iald hX (by decide) rfl dM_learnt_60 rfl (fun y1 => ?_)
    refine k_bipush hX dM_learnt_61 (by decide) ?_
    refine k_idiv hX dM_learnt_63 (fun y2 => ?_)
    refine k_iload_n hX dM_learnt_64 rfl ?_
    refine k_icmp_eq (tgt := 71) hX dM_learnt_65 (by decide) ?_ ?_
    · refine k_aload_n hX dM_learnt_71 rfl ?_
      refine k_iload hX dM_learnt_72 rfl ?_
      refine cl_123 hX (by decide) (Nat.le_of_ble_eq_true rfl) dM_learnt_74 (fun _ τ3 => ?_)
      refine k_iload_n hX dM_learnt_77 rfl ?_
      refine k_aload_n hX dM_learnt_78 rfl ?_
      refine gf_164 hX dM_learnt_79 ?_
      refine k_aload_n hX dM_learnt_82 rfl ?_
      refine gf_182 hX dM_learnt_83 ?_
      refine k_iload hX dM_learnt_86 rfl ?_
      refine k_iald hX (by decide) rfl dM_learnt_88 rfl (fun y4 => ?_)
      refine k_iload_n hX dM_learnt_89 rfl ?_
      refine k_iadd hX dM_learnt_90 ?_
      refine k_bipush hX dM_learnt_91 (by decide) ?_
      refine k_irem hX dM_learnt_93 (fun y5 => ?_)
      refine k_iald hX (by decide) rfl dM_learnt_94 rfl (fun y6 => ?_)
      refine k_iadd hX dM_learnt_95 ?_
      refine k_istoreL_n (Lf := fun y7 => [lq 10, li x1, li x2, li y7, li x4, li x5]) hX dM_learnt_96 rfl (by decide) (fun _ => rfl) (fun y7 => ?_)
      refine k_iload hX dM_learnt_97 rfl ?_
      refine k_aload_n hX dM_learnt_99 rfl ?_
      refine gf_166 hX dM_learnt_100 ?_
      refine k_iadd hX dM_learnt_103 ?_
      refine k_istoreL (Lf := fun y8 => [lq 10, li x1, li x2, li y7, li y8, li x5]) hX dM_learnt_104 rfl (by decide) (fun _ => rfl) (fun y8 => ?_)
      exact tM_learnt_J106 hX hR x1 x2 y7 y8 x5 τ3 hT hb0
    · refine k_goto (tgt := 106) hX dM_learnt_68 (by decide) ?_
      exact tM_learnt_J106 hX hR x1 x2 x3 x4 x5 σ hT hb0
set_option maxRecDepth 100000 in
set_option maxHeartbeats 4000000 in
theorem tM_learnt_L45 {X : KC} {q : Int × KM} (hX : kOk X 6 prog_11_method_86_code 6 "KeyPathModel") (hR : kRet X (some .int) q) (x1 x2 x3 x4 x5 : Int) (σ : KM) {Θ : (Int × KM) → Prop} (hT : ∀ z, Θ (z) → z = q) : kJ X 45 [lq 10, li x1, li x2, li x3, li x4, li x5] [] σ (fM_learnt_L45 x1 x2 x3 x4 x5 σ) Θ :=
  k_iter (f := fun s => fM_learnt_B45 x1 x2 s.1 s.2.1 s.2.2.1 s.2.2.2) (Lf := fun s => [lq 10, li x1, li x2, li s.1, li s.2.1, li s.2.2.1]) (mf := fun s => s.2.2.2) (Θ := Θ) (fun s => tM_learnt_B45 hX hR x1 x2 s.1 s.2.1 s.2.2.1 s.2.2.2 hT (fun _ h9 => h9)) kF (x3, x4, x5, σ)
set_option maxRecDepth 100000 in
set_option maxHeartbeats 4000000 in
theorem sM_learnt (x1 x2 : Int) (σ : KM) : kSem 6 (⟨"KeyPathModel", "learnt", "(II)I"⟩ : MethodName) prog_11_method_86_code 6 (some .int) [kr 10, ki x1, ki x2] σ (fM_learnt x1 x2 σ) := by
  refine kSem.of (L0 := [lq 10, li x1, li x2, none, none, none]) (by decide) (Nat.le_of_ble_eq_true rfl) rfl (fun X q hX hR => ?_)
  have hT : ∀ z : Int × KM, (fun z => z = q) z → z = q := fun _ h => h
  refine k_aload_n hX dM_learnt_0 rfl ?_
  refine k_iconst hX dM_learnt_1 ?_
  refine gp_157 hX dM_learnt_2 (fun τ1 => ?_)
  refine k_iload_n hX dM_learnt_5 rfl ?_
  refine cl_149 hX (by decide) (Nat.le_of_ble_eq_true rfl) dM_learnt_6 (fun r3 τ2 => ?_)
  refine k_if_eq (tgt := 24) hX dM_learnt_9 (by decide) ?_ ?_
  · refine k_less [true, false, false, true, true, true] (L' := [lq 10, none, none, none, none, none]) rfl ?_
    exact tM_learnt_J24 hX hR τ2 hT
  · refine k_iload_n hX dM_learnt_12 rfl ?_
    refine k_i2l hX dM_learnt_13 ?_
    refine k_lconst0 hX dM_learnt_14 ?_
    refine k_ldc2 (v := 11) hX dM_learnt_15 tw_1226 ?_
    refine cl_120 hX (by decide) (Nat.le_of_ble_eq_true rfl) dM_learnt_18 (fun r5 τ4 => ?_)
    refine k_if_ne (tgt := 27) hX dM_learnt_21 (by decide) ?_ ?_
    · refine k_aload_n hX dM_learnt_27 rfl ?_
      refine cl_136 hX (by decide) (Nat.le_of_ble_eq_true rfl) dM_learnt_28 (fun r7 τ6 => ?_)
      refine k_if_ne (tgt := 37) hX dM_learnt_31 (by decide) ?_ ?_
      · refine k_iconst hX dM_learnt_37 ?_
        refine k_istore_n (L' := [lq 10, li x1, li x2, li 0, none, none]) hX dM_learnt_38 rfl (by decide) rfl ?_
        refine k_iconst hX dM_learnt_39 ?_
        refine k_istore (L' := [lq 10, li x1, li x2, li 0, li 0, none]) hX dM_learnt_40 rfl (by decide) rfl ?_
        refine k_iconst hX dM_learnt_42 ?_
        refine k_istore (L' := [lq 10, li x1, li x2, li 0, li 0, li 0]) hX dM_learnt_43 rfl (by decide) rfl ?_
        exact tM_learnt_L45 hX hR x1 x2 0 0 0 τ6 hT
      · refine k_bipush hX dM_learnt_34 (by decide) ?_
        exact k_iret hX hR hT dM_learnt_36
    · refine k_less [true, false, false, true, true, true] (L' := [lq 10, none, none, none, none, none]) rfl ?_
      exact tM_learnt_J24 hX hR τ4 hT
theorem dM_comes_0 : decode prog_11_method_15_code 0 = .ok (.aload_n 0, 1) := by decide +kernel
theorem dM_comes_1 : decode prog_11_method_15_code 1 = .ok (.getfield 169, 3) := by decide +kernel
theorem dM_comes_4 : decode prog_11_method_15_code 4 = .ok (.istore 4, 2) := by decide +kernel
theorem dM_comes_6 : decode prog_11_method_15_code 6 = .ok (.iload 4, 2) := by decide +kernel
theorem dM_comes_8 : decode prog_11_method_15_code 8 = .ok (.ifCond .le 122, 3) := by decide +kernel
theorem dM_comes_11 : decode prog_11_method_15_code 11 = .ok (.aload_n 0, 1) := by decide +kernel
theorem dM_comes_12 : decode prog_11_method_15_code 12 = .ok (.getfield 13, 3) := by decide +kernel
theorem dM_comes_15 : decode prog_11_method_15_code 15 = .ok (.iload 4, 2) := by decide +kernel
theorem dM_comes_17 : decode prog_11_method_15_code 17 = .ok (.iconst 1, 1) := by decide +kernel
theorem dM_comes_18 : decode prog_11_method_15_code 18 = .ok (.isub, 1) := by decide +kernel
theorem dM_comes_19 : decode prog_11_method_15_code 19 = .ok (.iaload, 1) := by decide +kernel
theorem dM_comes_20 : decode prog_11_method_15_code 20 = .ok (.iload_n 1, 1) := by decide +kernel
theorem dM_comes_21 : decode prog_11_method_15_code 21 = .ok (.if_icmp .gt 55, 3) := by decide +kernel
theorem dM_comes_24 : decode prog_11_method_15_code 24 = .ok (.aload_n 0, 1) := by decide +kernel
theorem dM_comes_25 : decode prog_11_method_15_code 25 = .ok (.getfield 13, 3) := by decide +kernel
theorem dM_comes_28 : decode prog_11_method_15_code 28 = .ok (.iload 4, 2) := by decide +kernel
theorem dM_comes_30 : decode prog_11_method_15_code 30 = .ok (.iconst 1, 1) := by decide +kernel
theorem dM_comes_31 : decode prog_11_method_15_code 31 = .ok (.isub, 1) := by decide +kernel
theorem dM_comes_32 : decode prog_11_method_15_code 32 = .ok (.iaload, 1) := by decide +kernel
theorem dM_comes_33 : decode prog_11_method_15_code 33 = .ok (.iload_n 1, 1) := by decide +kernel
theorem dM_comes_34 : decode prog_11_method_15_code 34 = .ok (.if_icmp .ne 96, 3) := by decide +kernel
theorem dM_comes_37 : decode prog_11_method_15_code 37 = .ok (.aload_n 0, 1) := by decide +kernel
theorem dM_comes_38 : decode prog_11_method_15_code 38 = .ok (.getfield 20, 3) := by decide +kernel
theorem dM_comes_41 : decode prog_11_method_15_code 41 = .ok (.iload 4, 2) := by decide +kernel
theorem dM_comes_43 : decode prog_11_method_15_code 43 = .ok (.iconst 1, 1) := by decide +kernel
theorem dM_comes_44 : decode prog_11_method_15_code 44 = .ok (.isub, 1) := by decide +kernel
theorem dM_comes_45 : decode prog_11_method_15_code 45 = .ok (.iaload, 1) := by decide +kernel
theorem dM_comes_46 : decode prog_11_method_15_code 46 = .ok (.iload_n 3, 1) := by decide +kernel
theorem dM_comes_47 : decode prog_11_method_15_code 47 = .ok (.if_icmp .gt 29, 3) := by decide +kernel
theorem dM_comes_50 : decode prog_11_method_15_code 50 = .ok (.aload_n 0, 1) := by decide +kernel
theorem dM_comes_51 : decode prog_11_method_15_code 51 = .ok (.getfield 20, 3) := by decide +kernel
theorem dM_comes_54 : decode prog_11_method_15_code 54 = .ok (.iload 4, 2) := by decide +kernel
theorem dM_comes_56 : decode prog_11_method_15_code 56 = .ok (.iconst 1, 1) := by decide +kernel
theorem dM_comes_57 : decode prog_11_method_15_code 57 = .ok (.isub, 1) := by decide +kernel
theorem dM_comes_58 : decode prog_11_method_15_code 58 = .ok (.iaload, 1) := by decide +kernel
theorem dM_comes_59 : decode prog_11_method_15_code 59 = .ok (.iload_n 3, 1) := by decide +kernel
theorem dM_comes_60 : decode prog_11_method_15_code 60 = .ok (.if_icmp .ne 70, 3) := by decide +kernel
theorem dM_comes_63 : decode prog_11_method_15_code 63 = .ok (.aload_n 0, 1) := by decide +kernel
theorem dM_comes_64 : decode prog_11_method_15_code 64 = .ok (.getfield 17, 3) := by decide +kernel
theorem dM_comes_67 : decode prog_11_method_15_code 67 = .ok (.iload 4, 2) := by decide +kernel
theorem dM_comes_69 : decode prog_11_method_15_code 69 = .ok (.iconst 1, 1) := by decide +kernel
theorem dM_comes_70 : decode prog_11_method_15_code 70 = .ok (.isub, 1) := by decide +kernel
theorem dM_comes_71 : decode prog_11_method_15_code 71 = .ok (.iaload, 1) := by decide +kernel
theorem dM_comes_72 : decode prog_11_method_15_code 72 = .ok (.iload_n 2, 1) := by decide +kernel
theorem dM_comes_73 : decode prog_11_method_15_code 73 = .ok (.if_icmp .le 57, 3) := by decide +kernel
theorem dM_comes_76 : decode prog_11_method_15_code 76 = .ok (.aload_n 0, 1) := by decide +kernel
theorem dM_comes_77 : decode prog_11_method_15_code 77 = .ok (.getfield 13, 3) := by decide +kernel
theorem dM_comes_80 : decode prog_11_method_15_code 80 = .ok (.iload 4, 2) := by decide +kernel
theorem dM_comes_82 : decode prog_11_method_15_code 82 = .ok (.aload_n 0, 1) := by decide +kernel
theorem dM_comes_83 : decode prog_11_method_15_code 83 = .ok (.getfield 13, 3) := by decide +kernel
theorem dM_comes_86 : decode prog_11_method_15_code 86 = .ok (.iload 4, 2) := by decide +kernel
theorem dM_comes_88 : decode prog_11_method_15_code 88 = .ok (.iconst 1, 1) := by decide +kernel
theorem dM_comes_89 : decode prog_11_method_15_code 89 = .ok (.isub, 1) := by decide +kernel
theorem dM_comes_90 : decode prog_11_method_15_code 90 = .ok (.iaload, 1) := by decide +kernel
theorem dM_comes_91 : decode prog_11_method_15_code 91 = .ok (.iastore, 1) := by decide +kernel
theorem dM_comes_92 : decode prog_11_method_15_code 92 = .ok (.aload_n 0, 1) := by decide +kernel
theorem dM_comes_93 : decode prog_11_method_15_code 93 = .ok (.getfield 17, 3) := by decide +kernel
theorem dM_comes_96 : decode prog_11_method_15_code 96 = .ok (.iload 4, 2) := by decide +kernel
theorem dM_comes_98 : decode prog_11_method_15_code 98 = .ok (.aload_n 0, 1) := by decide +kernel
theorem dM_comes_99 : decode prog_11_method_15_code 99 = .ok (.getfield 17, 3) := by decide +kernel
theorem dM_comes_102 : decode prog_11_method_15_code 102 = .ok (.iload 4, 2) := by decide +kernel
theorem dM_comes_104 : decode prog_11_method_15_code 104 = .ok (.iconst 1, 1) := by decide +kernel
theorem dM_comes_105 : decode prog_11_method_15_code 105 = .ok (.isub, 1) := by decide +kernel
theorem dM_comes_106 : decode prog_11_method_15_code 106 = .ok (.iaload, 1) := by decide +kernel
theorem dM_comes_107 : decode prog_11_method_15_code 107 = .ok (.iastore, 1) := by decide +kernel
theorem dM_comes_108 : decode prog_11_method_15_code 108 = .ok (.aload_n 0, 1) := by decide +kernel
theorem dM_comes_109 : decode prog_11_method_15_code 109 = .ok (.getfield 20, 3) := by decide +kernel
theorem dM_comes_112 : decode prog_11_method_15_code 112 = .ok (.iload 4, 2) := by decide +kernel
theorem dM_comes_114 : decode prog_11_method_15_code 114 = .ok (.aload_n 0, 1) := by decide +kernel
theorem dM_comes_115 : decode prog_11_method_15_code 115 = .ok (.getfield 20, 3) := by decide +kernel
theorem dM_comes_118 : decode prog_11_method_15_code 118 = .ok (.iload 4, 2) := by decide +kernel
theorem dM_comes_120 : decode prog_11_method_15_code 120 = .ok (.iconst 1, 1) := by decide +kernel
theorem dM_comes_121 : decode prog_11_method_15_code 121 = .ok (.isub, 1) := by decide +kernel
theorem dM_comes_122 : decode prog_11_method_15_code 122 = .ok (.iaload, 1) := by decide +kernel
theorem dM_comes_123 : decode prog_11_method_15_code 123 = .ok (.iastore, 1) := by decide +kernel
theorem dM_comes_124 : decode prog_11_method_15_code 124 = .ok (.iinc 4 (-1), 3) := by decide +kernel
theorem dM_comes_127 : decode prog_11_method_15_code 127 = .ok (.goto (-121), 3) := by decide +kernel
theorem dM_comes_130 : decode prog_11_method_15_code 130 = .ok (.aload_n 0, 1) := by decide +kernel
theorem dM_comes_131 : decode prog_11_method_15_code 131 = .ok (.getfield 13, 3) := by decide +kernel
theorem dM_comes_134 : decode prog_11_method_15_code 134 = .ok (.iload 4, 2) := by decide +kernel
theorem dM_comes_136 : decode prog_11_method_15_code 136 = .ok (.iload_n 1, 1) := by decide +kernel
theorem dM_comes_137 : decode prog_11_method_15_code 137 = .ok (.iastore, 1) := by decide +kernel
theorem dM_comes_138 : decode prog_11_method_15_code 138 = .ok (.aload_n 0, 1) := by decide +kernel
theorem dM_comes_139 : decode prog_11_method_15_code 139 = .ok (.getfield 17, 3) := by decide +kernel
theorem dM_comes_142 : decode prog_11_method_15_code 142 = .ok (.iload 4, 2) := by decide +kernel
theorem dM_comes_144 : decode prog_11_method_15_code 144 = .ok (.iload_n 2, 1) := by decide +kernel
theorem dM_comes_145 : decode prog_11_method_15_code 145 = .ok (.iastore, 1) := by decide +kernel
theorem dM_comes_146 : decode prog_11_method_15_code 146 = .ok (.aload_n 0, 1) := by decide +kernel
theorem dM_comes_147 : decode prog_11_method_15_code 147 = .ok (.getfield 20, 3) := by decide +kernel
theorem dM_comes_150 : decode prog_11_method_15_code 150 = .ok (.iload 4, 2) := by decide +kernel
theorem dM_comes_152 : decode prog_11_method_15_code 152 = .ok (.iload_n 3, 1) := by decide +kernel
theorem dM_comes_153 : decode prog_11_method_15_code 153 = .ok (.iastore, 1) := by decide +kernel
theorem dM_comes_154 : decode prog_11_method_15_code 154 = .ok (.aload_n 0, 1) := by decide +kernel
theorem dM_comes_155 : decode prog_11_method_15_code 155 = .ok (.dup, 1) := by decide +kernel
theorem dM_comes_156 : decode prog_11_method_15_code 156 = .ok (.getfield 169, 3) := by decide +kernel
theorem dM_comes_159 : decode prog_11_method_15_code 159 = .ok (.iconst 1, 1) := by decide +kernel
theorem dM_comes_160 : decode prog_11_method_15_code 160 = .ok (.iadd, 1) := by decide +kernel
theorem dM_comes_161 : decode prog_11_method_15_code 161 = .ok (.putfield 169, 3) := by decide +kernel
theorem dM_comes_164 : decode prog_11_method_15_code 164 = .ok (.iload 4, 2) := by decide +kernel
theorem dM_comes_166 : decode prog_11_method_15_code 166 = .ok (.ireturn, 1) := by decide +kernel
set_option maxRecDepth 100000 in
set_option maxHeartbeats 4000000 in
theorem tM_comes_J130 {X : KC} {q : Int × KM} (hX : kOk X 1 prog_11_method_15_code 5 "KeyPathModel") (hR : kRet X (some .int) q) (x1 x2 x3 x4 : Int) (σ : KM) {Θ : (Int × KM) → Prop} (hT : ∀ z, Θ (z) → z = q) : kJ X 130 [lq 10, li x1, li x2, li x3, li x4] [] σ (fM_comes_J130 x1 x2 x3 x4 σ) Θ := by
  refine k_aload_n hX dM_comes_130 rfl ?_
  refine gf_160 hX dM_comes_131 ?_
  refine k_iload hX dM_comes_134 rfl ?_
  refine k_iload_n hX dM_comes_136 rfl ?_
  refine k_iast hX (by decide) rfl dM_comes_137 rfl (fun τ1 => ?_)
  refine k_aload_n hX dM_comes_138 rfl ?_
  refine gf_161 hX dM_comes_139 ?_
  refine k_iload hX dM_comes_142 rfl ?_
  refine k_iload_n hX dM_comes_144 rfl ?_
  refine k_iast hX (by decide) rfl dM_comes_145 rfl (fun τ2 => ?_)
  refine k_aload_n hX dM_comes_146 rfl ?_
  refine gf_165 hX dM_comes_147 ?_
  refine k_iload hX dM_comes_150 rfl ?_
  refine k_iload_n hX dM_comes_152 rfl ?_
  refine k_iast hX (by decide) rfl dM_comes_153 rfl (fun τ3 => ?_)
  refine k_aload_n hX dM_comes_154 rfl ?_
  refine k_dupr hX dM_comes_155 ?_
  refine gf_159 hX dM_comes_156 ?_
  refine k_iconst hX dM_comes_159 ?_
  refine k_iadd hX dM_comes_160 ?_
  refine gp_189 hX dM_comes_161 (fun τ4 => ?_)
  refine k_iload hX dM_comes_164 rfl ?_
  exact k_iret hX hR hT dM_comes_166
set_option maxRecDepth 100000 in
set_option maxHeartbeats 4000000 in
theorem tM_comes_J76 {X : KC} {q : Int × KM} (hX : kOk X 1 prog_11_method_15_code 5 "KeyPathModel") (hR : kRet X (some .int) q) (x1 x2 x3 x4 : Int) (σ : KM) {Θ : ((Int × KM) ⊕ (Int × KM)) → Prop} (hT : ∀ z, Θ (.inr (z)) → z = q) (hb0 : ∀ s : Int × KM, Θ (.inl s) → kW X 6 [lq 10, li x1, li x2, li x3, li s.1] [] s.2) : kJ X 76 [lq 10, li x1, li x2, li x3, li x4] [] σ (fM_comes_J76 x1 x2 x3 x4 σ) Θ := by
  refine k_aload_n hX dM_comes_76 rfl ?_
  refine gf_160 hX dM_comes_77 ?_
  refine k_iload hX dM_comes_80 rfl ?_
  refine k_aload_n hX dM_comes_82 rfl ?_
  refine gf_160 hX dM_comes_83 ?_
  refine k_iload hX dM_comes_86 rfl ?_
  refine k_iconst hX dM_comes_88 ?_
  refine k_isub hX dM_comes_89 ?_
  refine k_iald hX (by decide) rfl dM_comes_90 rfl (fun y1 => ?_)
  refine k_iast hX (by decide) rfl dM_comes_91 rfl (fun τ2 => ?_)
  refine k_aload_n hX dM_comes_92 rfl ?_
  refine gf_161 hX dM_comes_93 ?_
  refine k_iload hX dM_comes_96 rfl ?_
  refine k_aload_n hX dM_comes_98 rfl ?_
  refine gf_161 hX dM_comes_99 ?_
  refine k_iload hX dM_comes_102 rfl ?_
  refine k_iconst hX dM_comes_104 ?_
  refine k_isub hX dM_comes_105 ?_
  refine k_iald hX (by decide) rfl dM_comes_106 rfl (fun y3 => ?_)
  refine k_iast hX (by decide) rfl dM_comes_107 rfl (fun τ4 => ?_)
  refine k_aload_n hX dM_comes_108 rfl ?_
  refine gf_165 hX dM_comes_109 ?_
  refine k_iload hX dM_comes_112 rfl ?_
  refine k_aload_n hX dM_comes_114 rfl ?_
  refine gf_165 hX dM_comes_115 ?_
  refine k_iload hX dM_comes_118 rfl ?_
  refine k_iconst hX dM_comes_120 ?_
  refine k_isub hX dM_comes_121 ?_
  refine k_iald hX (by decide) rfl dM_comes_122 rfl (fun y5 => ?_)
  refine k_iast hX (by decide) rfl dM_comes_123 rfl (fun τ6 => ?_)
  refine k_iincL (Lf := fun y7 => [lq 10, li x1, li x2, li x3, li y7]) hX dM_comes_124 rfl (by decide) rfl (fun _ => rfl) (fun y7 => ?_)
  refine k_goto (tgt := 6) hX dM_comes_127 (by decide) ?_
  exact k_back (hb0 (y7, τ6))
set_option maxRecDepth 100000 in
set_option maxHeartbeats 4000000 in
theorem tM_comes_B6 {X : KC} {q : Int × KM} (hX : kOk X 1 prog_11_method_15_code 5 "KeyPathModel") (hR : kRet X (some .int) q) (x1 x2 x3 x4 : Int) (σ : KM) {Θ : ((Int × KM) ⊕ (Int × KM)) → Prop} (hT : ∀ z, Θ (.inr (z)) → z = q) (hb0 : ∀ s : Int × KM, Θ (.inl s) → kW X 6 [lq 10, li x1, li x2, li x3, li s.1] [] s.2) : kJ X 6 [lq 10, li x1, li x2, li x3, li x4] [] σ (fM_comes_B6 x1 x2 x3 x4 σ) Θ := by
  refine k_iload hX dM_comes_6 rfl ?_
  refine k_if_le (tgt := 130) hX dM_comes_8 (by decide) ?_ ?_
  · refine k_exit ?_
    exact tM_comes_J130 hX hR x1 x2 x3 x4 σ hT
  · refine k_aload_n hX dM_comes_11 rfl ?_
    refine gf_160 hX dM_comes_12 ?_
    refine k_iload hX dM_comes_15 rfl ?_
    refine k_iconst hX dM_comes_17 ?_
    refine k_isub hX dM_comes_18 ?_
    refine k_iald hX (by decide) rfl dM_comes_19 rfl (fun y1 => ?_)
    refine k_iload_n hX dM_comes_20 rfl ?_
    refine k_icmp_gt (tgt := 76) hX dM_comes_21 (by decide) ?_ ?_
    · exact tM_comes_J76 hX hR x1 x2 x3 x4 σ hT hb0
    · refine k_aload_n hX dM_comes_24 rfl ?_
      refine gf_160 hX dM_comes_25 ?_
      refine k_iload hX dM_comes_28 rfl ?_
      refine k_iconst hX dM_comes_30 ?_
      refine k_isub hX dM_comes_31 ?_
      refine k_iald hX (by decide) rfl dM_comes_32 rfl (fun y2 => ?_)
      refine k_iload_n hX dM_comes_33 rfl ?_
      refine k_icmp_ne (tgt := 130) hX dM_comes_34 (by decide) ?_ ?_
      · refine k_exit ?_
        exact tM_comes_J130 hX hR x1 x2 x3 x4 σ hT
      · refine k_aload_n hX dM_comes_37 rfl ?_
        refine gf_165 hX dM_comes_38 ?_
        refine k_iload hX dM_comes_41 rfl ?_
        refine k_iconst hX dM_comes_43 ?_
        refine k_isub hX dM_comes_44 ?_
        refine k_iald hX (by decide) rfl dM_comes_45 rfl (fun y3 => ?_)
        refine k_iload_n hX dM_comes_46 rfl ?_
        refine k_icmp_gt (tgt := 76) hX dM_comes_47 (by decide) ?_ ?_
        · exact tM_comes_J76 hX hR x1 x2 x3 x4 σ hT hb0
        · refine k_aload_n hX dM_comes_50 rfl ?_
          refine gf_165 hX dM_comes_51 ?_
          refine k_iload hX dM_comes_54 rfl ?_
          refine k_iconst hX dM_comes_56 ?_
          refine k_isub hX dM_comes_57 ?_
          refine k_iald hX (by decide) rfl dM_comes_58 rfl (fun y4 => ?_)
          refine k_iload_n hX dM_comes_59 rfl ?_
          refine k_icmp_ne (tgt := 130) hX dM_comes_60 (by decide) ?_ ?_
          · refine k_exit ?_
            exact tM_comes_J130 hX hR x1 x2 x3 x4 σ hT
          · refine k_aload_n hX dM_comes_63 rfl ?_
            refine gf_161 hX dM_comes_64 ?_
            refine k_iload hX dM_comes_67 rfl ?_
            refine k_iconst hX dM_comes_69 ?_
            refine k_isub hX dM_comes_70 ?_
            refine k_iald hX (by decide) rfl dM_comes_71 rfl (fun y5 => ?_)
            refine k_iload_n hX dM_comes_72 rfl ?_
            refine k_icmp_le (tgt := 130) hX dM_comes_73 (by decide) ?_ ?_
            · refine k_exit ?_
              exact tM_comes_J130 hX hR x1 x2 x3 x4 σ hT
            · exact tM_comes_J76 hX hR x1 x2 x3 x4 σ hT hb0
set_option maxRecDepth 100000 in
set_option maxHeartbeats 4000000 in
theorem tM_comes_L6 {X : KC} {q : Int × KM} (hX : kOk X 1 prog_11_method_15_code 5 "KeyPathModel") (hR : kRet X (some .int) q) (x1 x2 x3 x4 : Int) (σ : KM) {Θ : (Int × KM) → Prop} (hT : ∀ z, Θ (z) → z = q) : kJ X 6 [lq 10, li x1, li x2, li x3, li x4] [] σ (fM_comes_L6 x1 x2 x3 x4 σ) Θ :=
  k_iter (f := fun s => fM_comes_B6 x1 x2 x3 s.1 s.2) (Lf := fun s => [lq 10, li x1, li x2, li x3, li s.1]) (mf := fun s => s.2) (Θ := Θ) (fun s => tM_comes_B6 hX hR x1 x2 x3 s.1 s.2 hT (fun _ h9 => h9)) kF (x4, σ)
set_option maxRecDepth 100000 in
set_option maxHeartbeats 4000000 in
theorem sM_comes (x1 x2 x3 : Int) (σ : KM) : kSem 1 (⟨"KeyPathModel", "comes", "(III)I"⟩ : MethodName) prog_11_method_15_code 5 (some .int) [kr 10, ki x1, ki x2, ki x3] σ (fM_comes x1 x2 x3 σ) := by
  refine kSem.of (L0 := [lq 10, li x1, li x2, li x3, none]) (by decide) (Nat.le_of_ble_eq_true rfl) rfl (fun X q hX hR => ?_)
  have hT : ∀ z : Int × KM, (fun z => z = q) z → z = q := fun _ h => h
  refine k_aload_n hX dM_comes_0 rfl ?_
  refine gf_159 hX dM_comes_1 ?_
  refine k_istoreL (Lf := fun y1 => [lq 10, li x1, li x2, li x3, li y1]) hX dM_comes_4 rfl (by decide) (fun _ => rfl) (fun y1 => ?_)
  exact tM_comes_L6 hX hR x1 x2 x3 y1 σ hT
theorem cl_150 {X : KC} {d n : Nat} {cc : ByteArray} {pc : Nat} {L : List (Option KV)} {st : List KV} {σ : KM} {Z : Type} {Θ : Z → Prop} {G : Int → KM → Option Z} {x1 x2 x3 : Int} (hX : kOk X d cc n "KeyPathModel") (hdd : 1 + 1 ≤ d) (hst : k_cat st ≤ 8) (hd : decode cc pc = .ok (.invokevirtual 172, 3)) (h : ∀ r τ, kJ X (pc + 3) L (ki r :: st) τ (G r τ) Θ) : kJ X pc L (ki x3 :: ki x2 :: ki x1 :: kr 10 :: st) σ (kCall (fM_comes x1 x2 x3 σ) G) Θ :=
  k_callV (np := 3) (av := [ki x1, ki x2, ki x3]) (ret := (some .int)) hX (by decide) rfl rfl rfl (sM_comes _ _ _ σ) ⟨⟨hdd, by decide⟩, tw_1165, tw_11, by decide +kernel⟩ rfl tw_1162 tw_1164 ts_45 hst hd h
theorem dM_peek_0 : decode prog_11_method_5_code 0 = .ok (.aload_n 0, 1) := by decide +kernel
theorem dM_peek_1 : decode prog_11_method_5_code 1 = .ok (.getfield 109, 3) := by decide +kernel
theorem dM_peek_4 : decode prog_11_method_5_code 4 = .ok (.aload_n 0, 1) := by decide +kernel
theorem dM_peek_5 : decode prog_11_method_5_code 5 = .ok (.getfield 112, 3) := by decide +kernel
theorem dM_peek_8 : decode prog_11_method_5_code 8 = .ok (.if_icmp .ge 30, 3) := by decide +kernel
theorem dM_peek_11 : decode prog_11_method_5_code 11 = .ok (.aload_n 0, 1) := by decide +kernel
theorem dM_peek_12 : decode prog_11_method_5_code 12 = .ok (.getfield 59, 3) := by decide +kernel
theorem dM_peek_15 : decode prog_11_method_5_code 15 = .ok (.aload_n 0, 1) := by decide +kernel
theorem dM_peek_16 : decode prog_11_method_5_code 16 = .ok (.getfield 109, 3) := by decide +kernel
theorem dM_peek_19 : decode prog_11_method_5_code 19 = .ok (.baload, 1) := by decide +kernel
theorem dM_peek_20 : decode prog_11_method_5_code 20 = .ok (.bipush 32, 2) := by decide +kernel
theorem dM_peek_22 : decode prog_11_method_5_code 22 = .ok (.if_icmp .ne 16, 3) := by decide +kernel
theorem dM_peek_25 : decode prog_11_method_5_code 25 = .ok (.aload_n 0, 1) := by decide +kernel
theorem dM_peek_26 : decode prog_11_method_5_code 26 = .ok (.dup, 1) := by decide +kernel
theorem dM_peek_27 : decode prog_11_method_5_code 27 = .ok (.getfield 109, 3) := by decide +kernel
theorem dM_peek_30 : decode prog_11_method_5_code 30 = .ok (.iconst 1, 1) := by decide +kernel
theorem dM_peek_31 : decode prog_11_method_5_code 31 = .ok (.iadd, 1) := by decide +kernel
theorem dM_peek_32 : decode prog_11_method_5_code 32 = .ok (.putfield 109, 3) := by decide +kernel
theorem dM_peek_35 : decode prog_11_method_5_code 35 = .ok (.goto (-35), 3) := by decide +kernel
theorem dM_peek_38 : decode prog_11_method_5_code 38 = .ok (.aload_n 0, 1) := by decide +kernel
theorem dM_peek_39 : decode prog_11_method_5_code 39 = .ok (.getfield 109, 3) := by decide +kernel
theorem dM_peek_42 : decode prog_11_method_5_code 42 = .ok (.aload_n 0, 1) := by decide +kernel
theorem dM_peek_43 : decode prog_11_method_5_code 43 = .ok (.getfield 112, 3) := by decide +kernel
theorem dM_peek_46 : decode prog_11_method_5_code 46 = .ok (.if_icmp .ge 19, 3) := by decide +kernel
theorem dM_peek_49 : decode prog_11_method_5_code 49 = .ok (.aload_n 0, 1) := by decide +kernel
theorem dM_peek_50 : decode prog_11_method_5_code 50 = .ok (.getfield 59, 3) := by decide +kernel
theorem dM_peek_53 : decode prog_11_method_5_code 53 = .ok (.aload_n 0, 1) := by decide +kernel
theorem dM_peek_54 : decode prog_11_method_5_code 54 = .ok (.getfield 109, 3) := by decide +kernel
theorem dM_peek_57 : decode prog_11_method_5_code 57 = .ok (.baload, 1) := by decide +kernel
theorem dM_peek_58 : decode prog_11_method_5_code 58 = .ok (.sipush 255, 3) := by decide +kernel
theorem dM_peek_61 : decode prog_11_method_5_code 61 = .ok (.iand, 1) := by decide +kernel
theorem dM_peek_62 : decode prog_11_method_5_code 62 = .ok (.goto 4, 3) := by decide +kernel
theorem dM_peek_65 : decode prog_11_method_5_code 65 = .ok (.iconst (-1), 1) := by decide +kernel
theorem dM_peek_66 : decode prog_11_method_5_code 66 = .ok (.ireturn, 1) := by decide +kernel
set_option maxRecDepth 100000 in
set_option maxHeartbeats 4000000 in
theorem tM_peek_J66 {X : KC} {q : Int × KM} (hX : kOk X 1 prog_11_method_5_code 1 "KeyPathModel") (hR : kRet X (some .int) q) (t0 : Int) (σ : KM) {Θ : (Int × KM) → Prop} (hT : ∀ z, Θ (z) → z = q) : kJ X 66 [lq 10] [ki t0] σ (fM_peek_J66 t0 σ) Θ := by
  exact k_iret hX hR hT dM_peek_66
set_option maxRecDepth 100000 in
set_option maxHeartbeats 4000000 in
theorem tM_peek_J38 {X : KC} {q : Int × KM} (hX : kOk X 1 prog_11_method_5_code 1 "KeyPathModel") (hR : kRet X (some .int) q) (σ : KM) {Θ : (Int × KM) → Prop} (hT : ∀ z, Θ (z) → z = q) : kJ X 38 [lq 10] [] σ (fM_peek_J38 σ) Θ := by
  refine k_aload_n hX dM_peek_38 rfl ?_
  refine gf_206 hX dM_peek_39 ?_
  refine k_aload_n hX dM_peek_42 rfl ?_
  refine gf_207 hX dM_peek_43 ?_
  refine k_icmp_ge (tgt := 65) hX dM_peek_46 (by decide) ?_ ?_
  · refine k_iconst hX dM_peek_65 ?_
    exact tM_peek_J66 hX hR (-1) σ hT
  · refine k_aload_n hX dM_peek_49 rfl ?_
    refine gf_192 hX dM_peek_50 ?_
    refine k_aload_n hX dM_peek_53 rfl ?_
    refine gf_206 hX dM_peek_54 ?_
    refine k_bald hX (by decide) rfl dM_peek_57 rfl (fun y1 => ?_)
    refine k_sipush hX dM_peek_58 (by decide) ?_
    refine k_iand hX dM_peek_61 (fun y2 => ?_)
    refine k_goto (tgt := 66) hX dM_peek_62 (by decide) ?_
    exact tM_peek_J66 hX hR y2 σ hT
set_option maxRecDepth 100000 in
set_option maxHeartbeats 4000000 in
theorem tM_peek_B0 {X : KC} {q : Int × KM} (hX : kOk X 1 prog_11_method_5_code 1 "KeyPathModel") (hR : kRet X (some .int) q) (σ : KM) {Θ : ((KM) ⊕ (Int × KM)) → Prop} (hT : ∀ z, Θ (.inr (z)) → z = q) (hb0 : ∀ s : KM, Θ (.inl s) → kW X 0 [lq 10] [] s) : kJ X 0 [lq 10] [] σ (fM_peek_B0 σ) Θ := by
  refine k_aload_n hX dM_peek_0 rfl ?_
  refine gf_206 hX dM_peek_1 ?_
  refine k_aload_n hX dM_peek_4 rfl ?_
  refine gf_207 hX dM_peek_5 ?_
  refine k_icmp_ge (tgt := 38) hX dM_peek_8 (by decide) ?_ ?_
  · refine k_exit ?_
    exact tM_peek_J38 hX hR σ hT
  · refine k_aload_n hX dM_peek_11 rfl ?_
    refine gf_192 hX dM_peek_12 ?_
    refine k_aload_n hX dM_peek_15 rfl ?_
    refine gf_206 hX dM_peek_16 ?_
    refine k_bald hX (by decide) rfl dM_peek_19 rfl (fun y1 => ?_)
    refine k_bipush hX dM_peek_20 (by decide) ?_
    refine k_icmp_ne (tgt := 38) hX dM_peek_22 (by decide) ?_ ?_
    · refine k_exit ?_
      exact tM_peek_J38 hX hR σ hT
    · refine k_aload_n hX dM_peek_25 rfl ?_
      refine k_dupr hX dM_peek_26 ?_
      refine gf_206 hX dM_peek_27 ?_
      refine k_iconst hX dM_peek_30 ?_
      refine k_iadd hX dM_peek_31 ?_
      refine gp_197 hX dM_peek_32 (fun τ2 => ?_)
      refine k_goto (tgt := 0) hX dM_peek_35 (by decide) ?_
      exact k_back (hb0 (τ2))
set_option maxRecDepth 100000 in
set_option maxHeartbeats 4000000 in
theorem tM_peek_L0 {X : KC} {q : Int × KM} (hX : kOk X 1 prog_11_method_5_code 1 "KeyPathModel") (hR : kRet X (some .int) q) (σ : KM) {Θ : (Int × KM) → Prop} (hT : ∀ z, Θ (z) → z = q) : kJ X 0 [lq 10] [] σ (fM_peek_L0 σ) Θ :=
  k_iter (f := fun s => fM_peek_B0 s) (Lf := fun s => [lq 10]) (mf := fun s => s) (Θ := Θ) (fun s => tM_peek_B0 hX hR s hT (fun _ h9 => h9)) kF (σ)
set_option maxRecDepth 100000 in
set_option maxHeartbeats 4000000 in
theorem sM_peek (σ : KM) : kSem 1 (⟨"KeyPathModel", "peek", "()I"⟩ : MethodName) prog_11_method_5_code 1 (some .int) [kr 10] σ (fM_peek σ) := by
  refine kSem.of (L0 := [lq 10]) (by decide) (Nat.le_of_ble_eq_true rfl) rfl (fun X q hX hR => ?_)
  have hT : ∀ z : Int × KM, (fun z => z = q) z → z = q := fun _ h => h
  exact tM_peek_L0 hX hR σ hT
theorem cl_151 {X : KC} {d n : Nat} {cc : ByteArray} {pc : Nat} {L : List (Option KV)} {st : List KV} {σ : KM} {Z : Type} {Θ : Z → Prop} {G : Int → KM → Option Z} (hX : kOk X d cc n "KeyPathModel") (hdd : 1 + 1 ≤ d) (hst : k_cat st ≤ 8) (hd : decode cc pc = .ok (.invokevirtual 118, 3)) (h : ∀ r τ, kJ X (pc + 3) L (ki r :: st) τ (G r τ) Θ) : kJ X pc L (kr 10 :: st) σ (kCall (fM_peek σ) G) Θ :=
  k_callV (np := 0) (av := []) (ret := (some .int)) hX (by decide) rfl rfl rfl (sM_peek σ) ⟨⟨hdd, by decide⟩, tw_1128, tw_11, by decide +kernel⟩ rfl tw_1125 tw_1127 ts_38 hst hd h
theorem dM_isLetter_0 : decode prog_11_method_10_code 0 = .ok (.aload_n 0, 1) := by decide +kernel
theorem dM_isLetter_1 : decode prog_11_method_10_code 1 = .ok (.invokevirtual 118, 3) := by decide +kernel
theorem dM_isLetter_4 : decode prog_11_method_10_code 4 = .ok (.i2l, 1) := by decide +kernel
theorem dM_isLetter_5 : decode prog_11_method_10_code 5 = .ok (.ldc2_w 143, 3) := by decide +kernel
theorem dM_isLetter_8 : decode prog_11_method_10_code 8 = .ok (.ldc2_w 145, 3) := by decide +kernel
theorem dM_isLetter_11 : decode prog_11_method_10_code 11 = .ok (.invokestatic 134, 3) := by decide +kernel
theorem dM_isLetter_14 : decode prog_11_method_10_code 14 = .ok (.ireturn, 1) := by decide +kernel
set_option maxRecDepth 100000 in
set_option maxHeartbeats 4000000 in
theorem sM_isLetter (σ : KM) : kSem 2 (⟨"KeyPathModel", "isLetter", "()Z"⟩ : MethodName) prog_11_method_10_code 1 (some .boolean) [kr 10] σ (fM_isLetter σ) := by
  refine kSem.of (L0 := [lq 10]) (by decide) (Nat.le_of_ble_eq_true rfl) rfl (fun X q hX hR => ?_)
  have hT : ∀ z : Int × KM, (fun z => z = q) z → z = q := fun _ h => h
  refine k_aload_n hX dM_isLetter_0 rfl ?_
  refine cl_151 hX (by decide) (Nat.le_of_ble_eq_true rfl) dM_isLetter_1 (fun r2 τ1 => ?_)
  refine k_i2l hX dM_isLetter_4 ?_
  refine k_ldc2 (v := 97) hX dM_isLetter_5 tw_1141 ?_
  refine k_ldc2 (v := 103) hX dM_isLetter_8 tw_1142 ?_
  refine cl_120 hX (by decide) (Nat.le_of_ble_eq_true rfl) dM_isLetter_11 (fun r4 τ3 => ?_)
  exact k_zret hX hR hT dM_isLetter_14
theorem cl_152 {X : KC} {d n : Nat} {cc : ByteArray} {pc : Nat} {L : List (Option KV)} {st : List KV} {σ : KM} {Z : Type} {Θ : Z → Prop} {G : Int → KM → Option Z} (hX : kOk X d cc n "KeyPathModel") (hdd : 2 + 1 ≤ d) (hst : k_cat st ≤ 8) (hd : decode cc pc = .ok (.invokevirtual 147, 3)) (h : ∀ r τ, kJ X (pc + 3) L (ki r :: st) τ (G r τ) Θ) : kJ X pc L (kr 10 :: st) σ (kCall (fM_isLetter σ) G) Θ :=
  k_callV (np := 0) (av := []) (ret := (some .boolean)) hX (by decide) rfl rfl rfl (sM_isLetter σ) ⟨⟨hdd, by decide⟩, tw_1140, tw_11, by decide +kernel⟩ rfl tw_1137 tw_1139 ts_41 hst hd h
theorem dM_fails_0 : decode prog_11_method_6_code 0 = .ok (.aload_n 0, 1) := by decide +kernel
theorem dM_fails_1 : decode prog_11_method_6_code 1 = .ok (.getfield 115, 3) := by decide +kernel
theorem dM_fails_4 : decode prog_11_method_6_code 4 = .ok (.ifCond .eq 4, 3) := by decide +kernel
theorem dM_fails_7 : decode prog_11_method_6_code 7 = .ok (.return_, 1) := by decide +kernel
theorem dM_fails_8 : decode prog_11_method_6_code 8 = .ok (.aload_n 0, 1) := by decide +kernel
theorem dM_fails_9 : decode prog_11_method_6_code 9 = .ok (.iload_n 1, 1) := by decide +kernel
theorem dM_fails_10 : decode prog_11_method_6_code 10 = .ok (.putfield 115, 3) := by decide +kernel
theorem dM_fails_13 : decode prog_11_method_6_code 13 = .ok (.aload_n 0, 1) := by decide +kernel
theorem dM_fails_14 : decode prog_11_method_6_code 14 = .ok (.iload_n 2, 1) := by decide +kernel
theorem dM_fails_15 : decode prog_11_method_6_code 15 = .ok (.putfield 63, 3) := by decide +kernel
theorem dM_fails_18 : decode prog_11_method_6_code 18 = .ok (.return_, 1) := by decide +kernel
set_option maxRecDepth 100000 in
set_option maxHeartbeats 4000000 in
theorem sM_fails (x1 x2 : Int) (σ : KM) : kSem 1 (⟨"KeyPathModel", "fails", "(II)V"⟩ : MethodName) prog_11_method_6_code 3 none [kr 10, ki x1, ki x2] σ (fM_fails x1 x2 σ) := by
  refine kSem.of (L0 := [lq 10, li x1, li x2]) (by decide) (Nat.le_of_ble_eq_true rfl) rfl (fun X q hX hR => ?_)
  have hT : ∀ z : Int × KM, (fun z => z = q) z → z = q := fun _ h => h
  refine k_aload_n hX dM_fails_0 rfl ?_
  refine gf_191 hX dM_fails_1 ?_
  refine k_if_eq (tgt := 8) hX dM_fails_4 (by decide) ?_ ?_
  · refine k_aload_n hX dM_fails_8 rfl ?_
    refine k_iload_n hX dM_fails_9 rfl ?_
    refine gp_198 hX dM_fails_10 (fun τ1 => ?_)
    refine k_aload_n hX dM_fails_13 rfl ?_
    refine k_iload_n hX dM_fails_14 rfl ?_
    refine gp_199 hX dM_fails_15 (fun τ2 => ?_)
    exact k_vret hX hR hT dM_fails_18
  · exact k_vret hX hR hT dM_fails_7
theorem cl_153 {X : KC} {d n : Nat} {cc : ByteArray} {pc : Nat} {L : List (Option KV)} {st : List KV} {σ : KM} {Z : Type} {Θ : Z → Prop} {G : Int → KM → Option Z} {x1 x2 : Int} (hX : kOk X d cc n "KeyPathModel") (hdd : 1 + 1 ≤ d) (hst : k_cat st ≤ 8) (hd : decode cc pc = .ok (.invokevirtual 122, 3)) (h : ∀ r τ, kJ X (pc + 3) L (st) τ (G r τ) Θ) : kJ X pc L (ki x2 :: ki x1 :: kr 10 :: st) σ (kCall (fM_fails x1 x2 σ) G) Θ :=
  k_callV (np := 2) (av := [ki x1, ki x2]) (ret := none) hX (by decide) rfl rfl rfl (sM_fails _ _ σ) ⟨⟨hdd, by decide⟩, tw_1146, tw_11, by decide +kernel⟩ rfl tw_1143 tw_1145 ts_42 hst hd h
theorem dM_stepOf_0 : decode prog_11_method_9_code 0 = .ok (.iload_n 0, 1) := by decide +kernel
theorem dM_stepOf_1 : decode prog_11_method_9_code 1 = .ok (.tableswitch 57 97 103 #[54, 57, 43, 45, 47, 49, 51], 43) := by decide +kernel
theorem dM_stepOf_44 : decode prog_11_method_9_code 44 = .ok (.iconst 0, 1) := by decide +kernel
theorem dM_stepOf_45 : decode prog_11_method_9_code 45 = .ok (.ireturn, 1) := by decide +kernel
theorem dM_stepOf_46 : decode prog_11_method_9_code 46 = .ok (.iconst 2, 1) := by decide +kernel
theorem dM_stepOf_47 : decode prog_11_method_9_code 47 = .ok (.ireturn, 1) := by decide +kernel
theorem dM_stepOf_48 : decode prog_11_method_9_code 48 = .ok (.iconst 4, 1) := by decide +kernel
theorem dM_stepOf_49 : decode prog_11_method_9_code 49 = .ok (.ireturn, 1) := by decide +kernel
theorem dM_stepOf_50 : decode prog_11_method_9_code 50 = .ok (.iconst 5, 1) := by decide +kernel
theorem dM_stepOf_51 : decode prog_11_method_9_code 51 = .ok (.ireturn, 1) := by decide +kernel
theorem dM_stepOf_52 : decode prog_11_method_9_code 52 = .ok (.bipush 7, 2) := by decide +kernel
theorem dM_stepOf_54 : decode prog_11_method_9_code 54 = .ok (.ireturn, 1) := by decide +kernel
theorem dM_stepOf_55 : decode prog_11_method_9_code 55 = .ok (.bipush 9, 2) := by decide +kernel
theorem dM_stepOf_57 : decode prog_11_method_9_code 57 = .ok (.ireturn, 1) := by decide +kernel
theorem dM_stepOf_58 : decode prog_11_method_9_code 58 = .ok (.bipush 11, 2) := by decide +kernel
theorem dM_stepOf_60 : decode prog_11_method_9_code 60 = .ok (.ireturn, 1) := by decide +kernel
set_option maxRecDepth 100000 in
set_option maxHeartbeats 4000000 in
theorem tM_stepOf_J58 {X : KC} {q : Int × KM} (hX : kOk X 1 prog_11_method_9_code 1 "KeyPathModel") (hR : kRet X (some .int) q) (σ : KM) {Θ : (Int × KM) → Prop} (hT : ∀ z, Θ (z) → z = q) : kJ X 58 [none] [] σ (fM_stepOf_J58 σ) Θ := by
  refine k_bipush hX dM_stepOf_58 (by decide) ?_
  exact k_iret hX hR hT dM_stepOf_60
set_option maxRecDepth 100000 in
set_option maxHeartbeats 4000000 in
theorem sM_stepOf (x0 : Int) (σ : KM) : kSem 1 (⟨"KeyPathModel", "stepOf", "(I)I"⟩ : MethodName) prog_11_method_9_code 1 (some .int) [ki x0] σ (fM_stepOf x0 σ) := by
  refine kSem.of (L0 := [li x0]) (by decide) (Nat.le_of_ble_eq_true rfl) rfl (fun X q hX hR => ?_)
  have hT : ∀ z : Int × KM, (fun z => z = q) z → z = q := fun _ h => h
  refine k_iload_n hX dM_stepOf_0 rfl ?_
  refine k_tsw (ts := [55, 58, 44, 46, 48, 50, 52]) (te := 58) hX dM_stepOf_1 (by decide) (by decide) rfl (by decide) (k_ts_c ?_ (k_ts_c ?_ (k_ts_c ?_ (k_ts_c ?_ (k_ts_c ?_ (k_ts_c ?_ (k_ts_c ?_ (k_ts_n)))))))) ?_
  · refine k_bipush hX dM_stepOf_55 (by decide) ?_
    exact k_iret hX hR hT dM_stepOf_57
  · refine k_less [false] (L' := [none]) rfl ?_
    exact tM_stepOf_J58 hX hR σ hT
  · refine k_iconst hX dM_stepOf_44 ?_
    exact k_iret hX hR hT dM_stepOf_45
  · refine k_iconst hX dM_stepOf_46 ?_
    exact k_iret hX hR hT dM_stepOf_47
  · refine k_iconst hX dM_stepOf_48 ?_
    exact k_iret hX hR hT dM_stepOf_49
  · refine k_iconst hX dM_stepOf_50 ?_
    exact k_iret hX hR hT dM_stepOf_51
  · refine k_bipush hX dM_stepOf_52 (by decide) ?_
    exact k_iret hX hR hT dM_stepOf_54
  · refine k_less [false] (L' := [none]) rfl ?_
    exact tM_stepOf_J58 hX hR σ hT
theorem cl_154 {X : KC} {d n : Nat} {cc : ByteArray} {pc : Nat} {L : List (Option KV)} {st : List KV} {σ : KM} {Z : Type} {Θ : Z → Prop} {G : Int → KM → Option Z} {x0 : Int} (hX : kOk X d cc n "KeyPathModel") (hdd : 1 + 1 ≤ d) (hst : k_cat st ≤ 8) (hd : decode cc pc = .ok (.invokestatic 154, 3)) (h : ∀ r τ, kJ X (pc + 3) L (ki r :: st) τ (G r τ) Θ) : kJ X pc L (ki x0 :: st) σ (kCall (fM_stepOf x0 σ) G) Θ :=
  k_callS (np := 1) (av := [ki x0]) (ret := (some .int)) hX (sM_stepOf _ σ) ⟨⟨hdd, by decide⟩, tw_1149, tw_11, by decide +kernel⟩ rfl tw_1147 tw_1148 hst hd h
theorem dM_nameRead_0 : decode prog_11_method_11_code 0 = .ok (.aload_n 0, 1) := by decide +kernel
theorem dM_nameRead_1 : decode prog_11_method_11_code 1 = .ok (.getfield 115, 3) := by decide +kernel
theorem dM_nameRead_4 : decode prog_11_method_11_code 4 = .ok (.ifCond .eq 4, 3) := by decide +kernel
theorem dM_nameRead_7 : decode prog_11_method_11_code 7 = .ok (.return_, 1) := by decide +kernel
theorem dM_nameRead_8 : decode prog_11_method_11_code 8 = .ok (.aload_n 0, 1) := by decide +kernel
theorem dM_nameRead_9 : decode prog_11_method_11_code 9 = .ok (.invokevirtual 147, 3) := by decide +kernel
theorem dM_nameRead_12 : decode prog_11_method_11_code 12 = .ok (.ifCond .ne 13, 3) := by decide +kernel
theorem dM_nameRead_15 : decode prog_11_method_11_code 15 = .ok (.aload_n 0, 1) := by decide +kernel
theorem dM_nameRead_16 : decode prog_11_method_11_code 16 = .ok (.iconst 1, 1) := by decide +kernel
theorem dM_nameRead_17 : decode prog_11_method_11_code 17 = .ok (.aload_n 0, 1) := by decide +kernel
theorem dM_nameRead_18 : decode prog_11_method_11_code 18 = .ok (.getfield 109, 3) := by decide +kernel
theorem dM_nameRead_21 : decode prog_11_method_11_code 21 = .ok (.invokevirtual 122, 3) := by decide +kernel
theorem dM_nameRead_24 : decode prog_11_method_11_code 24 = .ok (.return_, 1) := by decide +kernel
theorem dM_nameRead_25 : decode prog_11_method_11_code 25 = .ok (.aload_n 0, 1) := by decide +kernel
theorem dM_nameRead_26 : decode prog_11_method_11_code 26 = .ok (.getfield 109, 3) := by decide +kernel
theorem dM_nameRead_29 : decode prog_11_method_11_code 29 = .ok (.istore_n 2, 1) := by decide +kernel
theorem dM_nameRead_30 : decode prog_11_method_11_code 30 = .ok (.aload_n 0, 1) := by decide +kernel
theorem dM_nameRead_31 : decode prog_11_method_11_code 31 = .ok (.getfield 151, 3) := by decide +kernel
theorem dM_nameRead_34 : decode prog_11_method_11_code 34 = .ok (.bipush 100, 2) := by decide +kernel
theorem dM_nameRead_36 : decode prog_11_method_11_code 36 = .ok (.if_icmp .eq 14, 3) := by decide +kernel
theorem dM_nameRead_39 : decode prog_11_method_11_code 39 = .ok (.aload_n 0, 1) := by decide +kernel
theorem dM_nameRead_40 : decode prog_11_method_11_code 40 = .ok (.getfield 151, 3) := by decide +kernel
theorem dM_nameRead_43 : decode prog_11_method_11_code 43 = .ok (.iload_n 1, 1) := by decide +kernel
theorem dM_nameRead_44 : decode prog_11_method_11_code 44 = .ok (.isub, 1) := by decide +kernel
theorem dM_nameRead_45 : decode prog_11_method_11_code 45 = .ok (.bipush 6, 2) := by decide +kernel
theorem dM_nameRead_47 : decode prog_11_method_11_code 47 = .ok (.if_icmp .ne 9, 3) := by decide +kernel
theorem dM_nameRead_50 : decode prog_11_method_11_code 50 = .ok (.aload_n 0, 1) := by decide +kernel
theorem dM_nameRead_51 : decode prog_11_method_11_code 51 = .ok (.iconst 3, 1) := by decide +kernel
theorem dM_nameRead_52 : decode prog_11_method_11_code 52 = .ok (.iload_n 2, 1) := by decide +kernel
theorem dM_nameRead_53 : decode prog_11_method_11_code 53 = .ok (.invokevirtual 122, 3) := by decide +kernel
theorem dM_nameRead_56 : decode prog_11_method_11_code 56 = .ok (.aload_n 0, 1) := by decide +kernel
theorem dM_nameRead_57 : decode prog_11_method_11_code 57 = .ok (.getfield 115, 3) := by decide +kernel
theorem dM_nameRead_60 : decode prog_11_method_11_code 60 = .ok (.ifCond .eq 4, 3) := by decide +kernel
theorem dM_nameRead_63 : decode prog_11_method_11_code 63 = .ok (.return_, 1) := by decide +kernel
theorem dM_nameRead_64 : decode prog_11_method_11_code 64 = .ok (.aload_n 0, 1) := by decide +kernel
theorem dM_nameRead_65 : decode prog_11_method_11_code 65 = .ok (.getfield 59, 3) := by decide +kernel
theorem dM_nameRead_68 : decode prog_11_method_11_code 68 = .ok (.aload_n 0, 1) := by decide +kernel
theorem dM_nameRead_69 : decode prog_11_method_11_code 69 = .ok (.getfield 109, 3) := by decide +kernel
theorem dM_nameRead_72 : decode prog_11_method_11_code 72 = .ok (.baload, 1) := by decide +kernel
theorem dM_nameRead_73 : decode prog_11_method_11_code 73 = .ok (.invokestatic 154, 3) := by decide +kernel
theorem dM_nameRead_76 : decode prog_11_method_11_code 76 = .ok (.istore_n 3, 1) := by decide +kernel
theorem dM_nameRead_77 : decode prog_11_method_11_code 77 = .ok (.aload_n 0, 1) := by decide +kernel
theorem dM_nameRead_78 : decode prog_11_method_11_code 78 = .ok (.dup, 1) := by decide +kernel
theorem dM_nameRead_79 : decode prog_11_method_11_code 79 = .ok (.getfield 109, 3) := by decide +kernel
theorem dM_nameRead_82 : decode prog_11_method_11_code 82 = .ok (.iconst 1, 1) := by decide +kernel
theorem dM_nameRead_83 : decode prog_11_method_11_code 83 = .ok (.iadd, 1) := by decide +kernel
theorem dM_nameRead_84 : decode prog_11_method_11_code 84 = .ok (.putfield 109, 3) := by decide +kernel
theorem dM_nameRead_87 : decode prog_11_method_11_code 87 = .ok (.aload_n 0, 1) := by decide +kernel
theorem dM_nameRead_88 : decode prog_11_method_11_code 88 = .ok (.invokevirtual 118, 3) := by decide +kernel
theorem dM_nameRead_91 : decode prog_11_method_11_code 91 = .ok (.istore 4, 2) := by decide +kernel
theorem dM_nameRead_93 : decode prog_11_method_11_code 93 = .ok (.iload 4, 2) := by decide +kernel
theorem dM_nameRead_95 : decode prog_11_method_11_code 95 = .ok (.bipush 35, 2) := by decide +kernel
theorem dM_nameRead_97 : decode prog_11_method_11_code 97 = .ok (.if_icmp .eq 10, 3) := by decide +kernel
theorem dM_nameRead_100 : decode prog_11_method_11_code 100 = .ok (.iload 4, 2) := by decide +kernel
theorem dM_nameRead_102 : decode prog_11_method_11_code 102 = .ok (.bipush 33, 2) := by decide +kernel
theorem dM_nameRead_104 : decode prog_11_method_11_code 104 = .ok (.if_icmp .ne 28, 3) := by decide +kernel
theorem dM_nameRead_107 : decode prog_11_method_11_code 107 = .ok (.iload_n 3, 1) := by decide +kernel
theorem dM_nameRead_108 : decode prog_11_method_11_code 108 = .ok (.iload 4, 2) := by decide +kernel
theorem dM_nameRead_110 : decode prog_11_method_11_code 110 = .ok (.bipush 35, 2) := by decide +kernel
theorem dM_nameRead_112 : decode prog_11_method_11_code 112 = .ok (.if_icmp .ne 7, 3) := by decide +kernel
theorem dM_nameRead_115 : decode prog_11_method_11_code 115 = .ok (.iconst 1, 1) := by decide +kernel
theorem dM_nameRead_116 : decode prog_11_method_11_code 116 = .ok (.goto 4, 3) := by decide +kernel
theorem dM_nameRead_119 : decode prog_11_method_11_code 119 = .ok (.iconst (-1), 1) := by decide +kernel
theorem dM_nameRead_120 : decode prog_11_method_11_code 120 = .ok (.iadd, 1) := by decide +kernel
theorem dM_nameRead_121 : decode prog_11_method_11_code 121 = .ok (.istore_n 3, 1) := by decide +kernel
theorem dM_nameRead_122 : decode prog_11_method_11_code 122 = .ok (.aload_n 0, 1) := by decide +kernel
theorem dM_nameRead_123 : decode prog_11_method_11_code 123 = .ok (.dup, 1) := by decide +kernel
theorem dM_nameRead_124 : decode prog_11_method_11_code 124 = .ok (.getfield 109, 3) := by decide +kernel
theorem dM_nameRead_127 : decode prog_11_method_11_code 127 = .ok (.iconst 1, 1) := by decide +kernel
theorem dM_nameRead_128 : decode prog_11_method_11_code 128 = .ok (.iadd, 1) := by decide +kernel
theorem dM_nameRead_129 : decode prog_11_method_11_code 129 = .ok (.putfield 109, 3) := by decide +kernel
theorem dM_nameRead_132 : decode prog_11_method_11_code 132 = .ok (.aload_n 0, 1) := by decide +kernel
theorem dM_nameRead_133 : decode prog_11_method_11_code 133 = .ok (.invokevirtual 118, 3) := by decide +kernel
theorem dM_nameRead_136 : decode prog_11_method_11_code 136 = .ok (.i2l, 1) := by decide +kernel
theorem dM_nameRead_137 : decode prog_11_method_11_code 137 = .ok (.ldc2_w 130, 3) := by decide +kernel
theorem dM_nameRead_140 : decode prog_11_method_11_code 140 = .ok (.ldc2_w 132, 3) := by decide +kernel
theorem dM_nameRead_143 : decode prog_11_method_11_code 143 = .ok (.invokestatic 134, 3) := by decide +kernel
theorem dM_nameRead_146 : decode prog_11_method_11_code 146 = .ok (.ifCond .ne 13, 3) := by decide +kernel
theorem dM_nameRead_149 : decode prog_11_method_11_code 149 = .ok (.aload_n 0, 1) := by decide +kernel
theorem dM_nameRead_150 : decode prog_11_method_11_code 150 = .ok (.iconst 1, 1) := by decide +kernel
theorem dM_nameRead_151 : decode prog_11_method_11_code 151 = .ok (.aload_n 0, 1) := by decide +kernel
theorem dM_nameRead_152 : decode prog_11_method_11_code 152 = .ok (.getfield 109, 3) := by decide +kernel
theorem dM_nameRead_155 : decode prog_11_method_11_code 155 = .ok (.invokevirtual 122, 3) := by decide +kernel
theorem dM_nameRead_158 : decode prog_11_method_11_code 158 = .ok (.return_, 1) := by decide +kernel
theorem dM_nameRead_159 : decode prog_11_method_11_code 159 = .ok (.iload_n 3, 1) := by decide +kernel
theorem dM_nameRead_160 : decode prog_11_method_11_code 160 = .ok (.bipush 12, 2) := by decide +kernel
theorem dM_nameRead_162 : decode prog_11_method_11_code 162 = .ok (.aload_n 0, 1) := by decide +kernel
theorem dM_nameRead_163 : decode prog_11_method_11_code 163 = .ok (.getfield 59, 3) := by decide +kernel
theorem dM_nameRead_166 : decode prog_11_method_11_code 166 = .ok (.aload_n 0, 1) := by decide +kernel
theorem dM_nameRead_167 : decode prog_11_method_11_code 167 = .ok (.getfield 109, 3) := by decide +kernel
theorem dM_nameRead_170 : decode prog_11_method_11_code 170 = .ok (.baload, 1) := by decide +kernel
theorem dM_nameRead_171 : decode prog_11_method_11_code 171 = .ok (.bipush 48, 2) := by decide +kernel
theorem dM_nameRead_173 : decode prog_11_method_11_code 173 = .ok (.isub, 1) := by decide +kernel
theorem dM_nameRead_174 : decode prog_11_method_11_code 174 = .ok (.iconst 1, 1) := by decide +kernel
theorem dM_nameRead_175 : decode prog_11_method_11_code 175 = .ok (.iadd, 1) := by decide +kernel
theorem dM_nameRead_176 : decode prog_11_method_11_code 176 = .ok (.imul, 1) := by decide +kernel
theorem dM_nameRead_177 : decode prog_11_method_11_code 177 = .ok (.iadd, 1) := by decide +kernel
theorem dM_nameRead_178 : decode prog_11_method_11_code 178 = .ok (.istore_n 3, 1) := by decide +kernel
theorem dM_nameRead_179 : decode prog_11_method_11_code 179 = .ok (.aload_n 0, 1) := by decide +kernel
theorem dM_nameRead_180 : decode prog_11_method_11_code 180 = .ok (.dup, 1) := by decide +kernel
theorem dM_nameRead_181 : decode prog_11_method_11_code 181 = .ok (.getfield 109, 3) := by decide +kernel
theorem dM_nameRead_184 : decode prog_11_method_11_code 184 = .ok (.iconst 1, 1) := by decide +kernel
theorem dM_nameRead_185 : decode prog_11_method_11_code 185 = .ok (.iadd, 1) := by decide +kernel
theorem dM_nameRead_186 : decode prog_11_method_11_code 186 = .ok (.putfield 109, 3) := by decide +kernel
theorem dM_nameRead_189 : decode prog_11_method_11_code 189 = .ok (.iload_n 3, 1) := by decide +kernel
theorem dM_nameRead_190 : decode prog_11_method_11_code 190 = .ok (.i2l, 1) := by decide +kernel
theorem dM_nameRead_191 : decode prog_11_method_11_code 191 = .ok (.lconst 0, 1) := by decide +kernel
theorem dM_nameRead_192 : decode prog_11_method_11_code 192 = .ok (.ldc2_w 158, 3) := by decide +kernel
theorem dM_nameRead_195 : decode prog_11_method_11_code 195 = .ok (.invokestatic 134, 3) := by decide +kernel
theorem dM_nameRead_198 : decode prog_11_method_11_code 198 = .ok (.ifCond .ne 9, 3) := by decide +kernel
theorem dM_nameRead_201 : decode prog_11_method_11_code 201 = .ok (.aload_n 0, 1) := by decide +kernel
theorem dM_nameRead_202 : decode prog_11_method_11_code 202 = .ok (.iconst 3, 1) := by decide +kernel
theorem dM_nameRead_203 : decode prog_11_method_11_code 203 = .ok (.iload_n 2, 1) := by decide +kernel
theorem dM_nameRead_204 : decode prog_11_method_11_code 204 = .ok (.invokevirtual 122, 3) := by decide +kernel
theorem dM_nameRead_207 : decode prog_11_method_11_code 207 = .ok (.iload_n 1, 1) := by decide +kernel
theorem dM_nameRead_208 : decode prog_11_method_11_code 208 = .ok (.istore 5, 2) := by decide +kernel
theorem dM_nameRead_210 : decode prog_11_method_11_code 210 = .ok (.iload 5, 2) := by decide +kernel
theorem dM_nameRead_212 : decode prog_11_method_11_code 212 = .ok (.aload_n 0, 1) := by decide +kernel
theorem dM_nameRead_213 : decode prog_11_method_11_code 213 = .ok (.getfield 151, 3) := by decide +kernel
theorem dM_nameRead_216 : decode prog_11_method_11_code 216 = .ok (.if_icmp .ge 26, 3) := by decide +kernel
theorem dM_nameRead_219 : decode prog_11_method_11_code 219 = .ok (.aload_n 0, 1) := by decide +kernel
theorem dM_nameRead_220 : decode prog_11_method_11_code 220 = .ok (.getfield 29, 3) := by decide +kernel
theorem dM_nameRead_223 : decode prog_11_method_11_code 223 = .ok (.iload 5, 2) := by decide +kernel
theorem dM_nameRead_225 : decode prog_11_method_11_code 225 = .ok (.iaload, 1) := by decide +kernel
theorem dM_nameRead_226 : decode prog_11_method_11_code 226 = .ok (.iload_n 3, 1) := by decide +kernel
theorem dM_nameRead_227 : decode prog_11_method_11_code 227 = .ok (.if_icmp .ne 9, 3) := by decide +kernel
theorem dM_nameRead_230 : decode prog_11_method_11_code 230 = .ok (.aload_n 0, 1) := by decide +kernel
theorem dM_nameRead_231 : decode prog_11_method_11_code 231 = .ok (.iconst 3, 1) := by decide +kernel
theorem dM_nameRead_232 : decode prog_11_method_11_code 232 = .ok (.iload_n 2, 1) := by decide +kernel
theorem dM_nameRead_233 : decode prog_11_method_11_code 233 = .ok (.invokevirtual 122, 3) := by decide +kernel
theorem dM_nameRead_236 : decode prog_11_method_11_code 236 = .ok (.iinc 5 1, 3) := by decide +kernel
theorem dM_nameRead_239 : decode prog_11_method_11_code 239 = .ok (.goto (-29), 3) := by decide +kernel
theorem dM_nameRead_242 : decode prog_11_method_11_code 242 = .ok (.aload_n 0, 1) := by decide +kernel
theorem dM_nameRead_243 : decode prog_11_method_11_code 243 = .ok (.getfield 29, 3) := by decide +kernel
theorem dM_nameRead_246 : decode prog_11_method_11_code 246 = .ok (.aload_n 0, 1) := by decide +kernel
theorem dM_nameRead_247 : decode prog_11_method_11_code 247 = .ok (.getfield 151, 3) := by decide +kernel
theorem dM_nameRead_250 : decode prog_11_method_11_code 250 = .ok (.iload_n 3, 1) := by decide +kernel
theorem dM_nameRead_251 : decode prog_11_method_11_code 251 = .ok (.iastore, 1) := by decide +kernel
theorem dM_nameRead_252 : decode prog_11_method_11_code 252 = .ok (.aload_n 0, 1) := by decide +kernel
theorem dM_nameRead_253 : decode prog_11_method_11_code 253 = .ok (.getfield 23, 3) := by decide +kernel
theorem dM_nameRead_256 : decode prog_11_method_11_code 256 = .ok (.aload_n 0, 1) := by decide +kernel
theorem dM_nameRead_257 : decode prog_11_method_11_code 257 = .ok (.getfield 151, 3) := by decide +kernel
theorem dM_nameRead_260 : decode prog_11_method_11_code 260 = .ok (.aload_n 0, 1) := by decide +kernel
theorem dM_nameRead_261 : decode prog_11_method_11_code 261 = .ok (.getfield 140, 3) := by decide +kernel
theorem dM_nameRead_264 : decode prog_11_method_11_code 264 = .ok (.iastore, 1) := by decide +kernel
theorem dM_nameRead_265 : decode prog_11_method_11_code 265 = .ok (.aload_n 0, 1) := by decide +kernel
theorem dM_nameRead_266 : decode prog_11_method_11_code 266 = .ok (.dup, 1) := by decide +kernel
theorem dM_nameRead_267 : decode prog_11_method_11_code 267 = .ok (.getfield 151, 3) := by decide +kernel
theorem dM_nameRead_270 : decode prog_11_method_11_code 270 = .ok (.iconst 1, 1) := by decide +kernel
theorem dM_nameRead_271 : decode prog_11_method_11_code 271 = .ok (.iadd, 1) := by decide +kernel
theorem dM_nameRead_272 : decode prog_11_method_11_code 272 = .ok (.putfield 151, 3) := by decide +kernel
theorem dM_nameRead_275 : decode prog_11_method_11_code 275 = .ok (.return_, 1) := by decide +kernel
set_option maxRecDepth 100000 in
set_option maxHeartbeats 4000000 in
theorem tM_nameRead_J242 {X : KC} {q : Int × KM} (hX : kOk X 3 prog_11_method_11_code 6 "KeyPathModel") (hR : kRet X none q) (x3 : Int) (σ : KM) {Θ : (Int × KM) → Prop} (hT : ∀ z, Θ (z) → z = q) : kJ X 242 [lq 10, none, none, li x3, none, none] [] σ (fM_nameRead_J242 x3 σ) Θ := by
  refine k_aload_n hX dM_nameRead_242 rfl ?_
  refine gf_205 hX dM_nameRead_243 ?_
  refine k_aload_n hX dM_nameRead_246 rfl ?_
  refine gf_202 hX dM_nameRead_247 ?_
  refine k_iload_n hX dM_nameRead_250 rfl ?_
  refine k_iast hX (by decide) rfl dM_nameRead_251 rfl (fun τ1 => ?_)
  refine k_aload_n hX dM_nameRead_252 rfl ?_
  refine gf_203 hX dM_nameRead_253 ?_
  refine k_aload_n hX dM_nameRead_256 rfl ?_
  refine gf_202 hX dM_nameRead_257 ?_
  refine k_aload_n hX dM_nameRead_260 rfl ?_
  refine gf_208 hX dM_nameRead_261 ?_
  refine k_iast hX (by decide) rfl dM_nameRead_264 rfl (fun τ2 => ?_)
  refine k_aload_n hX dM_nameRead_265 rfl ?_
  refine k_dupr hX dM_nameRead_266 ?_
  refine gf_202 hX dM_nameRead_267 ?_
  refine k_iconst hX dM_nameRead_270 ?_
  refine k_iadd hX dM_nameRead_271 ?_
  refine gp_201 hX dM_nameRead_272 (fun τ3 => ?_)
  exact k_vret hX hR hT dM_nameRead_275
set_option maxRecDepth 100000 in
set_option maxHeartbeats 4000000 in
theorem tM_nameRead_J236 {X : KC} {q : Int × KM} (hX : kOk X 3 prog_11_method_11_code 6 "KeyPathModel") (hR : kRet X none q) (x2 x3 x5 : Int) (σ : KM) {Θ : ((Int × KM) ⊕ (Int × KM)) → Prop} (hT : ∀ z, Θ (.inr (z)) → z = q) (hb0 : ∀ s : Int × KM, Θ (.inl s) → kW X 210 [lq 10, none, li x2, li x3, none, li s.1] [] s.2) : kJ X 236 [lq 10, none, li x2, li x3, none, li x5] [] σ (fM_nameRead_J236 x2 x3 x5 σ) Θ := by
  refine k_iincL (Lf := fun y1 => [lq 10, none, li x2, li x3, none, li y1]) hX dM_nameRead_236 rfl (by decide) rfl (fun _ => rfl) (fun y1 => ?_)
  refine k_goto (tgt := 210) hX dM_nameRead_239 (by decide) ?_
  exact k_back (hb0 (y1, σ))
set_option maxRecDepth 100000 in
set_option maxHeartbeats 4000000 in
theorem tM_nameRead_B210 {X : KC} {q : Int × KM} (hX : kOk X 3 prog_11_method_11_code 6 "KeyPathModel") (hR : kRet X none q) (x2 x3 x5 : Int) (σ : KM) {Θ : ((Int × KM) ⊕ (Int × KM)) → Prop} (hT : ∀ z, Θ (.inr (z)) → z = q) (hb0 : ∀ s : Int × KM, Θ (.inl s) → kW X 210 [lq 10, none, li x2, li x3, none, li s.1] [] s.2) : kJ X 210 [lq 10, none, li x2, li x3, none, li x5] [] σ (fM_nameRead_B210 x2 x3 x5 σ) Θ := by
  refine k_iload hX dM_nameRead_210 rfl ?_
  refine k_aload_n hX dM_nameRead_212 rfl ?_
  refine gf_202 hX dM_nameRead_213 ?_
  refine k_icmp_ge (tgt := 242) hX dM_nameRead_216 (by decide) ?_ ?_
  · refine k_exit ?_
    refine k_less [true, true, false, true, true, false] (L' := [lq 10, none, none, li x3, none, none]) rfl ?_
    exact tM_nameRead_J242 hX hR x3 σ hT
  · refine k_aload_n hX dM_nameRead_219 rfl ?_
    refine gf_205 hX dM_nameRead_220 ?_
    refine k_iload hX dM_nameRead_223 rfl ?_
    refine k_iald hX (by decide) rfl dM_nameRead_225 rfl (fun y1 => ?_)
    refine k_iload_n hX dM_nameRead_226 rfl ?_
    refine k_icmp_ne (tgt := 236) hX dM_nameRead_227 (by decide) ?_ ?_
    · exact tM_nameRead_J236 hX hR x2 x3 x5 σ hT hb0
    · refine k_aload_n hX dM_nameRead_230 rfl ?_
      refine k_iconst hX dM_nameRead_231 ?_
      refine k_iload_n hX dM_nameRead_232 rfl ?_
      refine cl_153 hX (by decide) (Nat.le_of_ble_eq_true rfl) dM_nameRead_233 (fun _ τ2 => ?_)
      exact tM_nameRead_J236 hX hR x2 x3 x5 τ2 hT hb0
set_option maxRecDepth 100000 in
set_option maxHeartbeats 4000000 in
theorem tM_nameRead_L210 {X : KC} {q : Int × KM} (hX : kOk X 3 prog_11_method_11_code 6 "KeyPathModel") (hR : kRet X none q) (x2 x3 x5 : Int) (σ : KM) {Θ : (Int × KM) → Prop} (hT : ∀ z, Θ (z) → z = q) : kJ X 210 [lq 10, none, li x2, li x3, none, li x5] [] σ (fM_nameRead_L210 x2 x3 x5 σ) Θ :=
  k_iter (f := fun s => fM_nameRead_B210 x2 x3 s.1 s.2) (Lf := fun s => [lq 10, none, li x2, li x3, none, li s.1]) (mf := fun s => s.2) (Θ := Θ) (fun s => tM_nameRead_B210 hX hR x2 x3 s.1 s.2 hT (fun _ h9 => h9)) kF (x5, σ)
set_option maxRecDepth 100000 in
set_option maxHeartbeats 4000000 in
theorem tM_nameRead_J207 {X : KC} {q : Int × KM} (hX : kOk X 3 prog_11_method_11_code 6 "KeyPathModel") (hR : kRet X none q) (x1 x2 x3 : Int) (σ : KM) {Θ : (Int × KM) → Prop} (hT : ∀ z, Θ (z) → z = q) : kJ X 207 [lq 10, li x1, li x2, li x3, none, none] [] σ (fM_nameRead_J207 x1 x2 x3 σ) Θ := by
  refine k_iload_n hX dM_nameRead_207 rfl ?_
  refine k_istore (L' := [lq 10, li x1, li x2, li x3, none, li x1]) hX dM_nameRead_208 rfl (by decide) rfl ?_
  refine k_less [true, false, true, true, true, true] (L' := [lq 10, none, li x2, li x3, none, li x1]) rfl ?_
  exact tM_nameRead_L210 hX hR x2 x3 x1 σ hT
set_option maxRecDepth 100000 in
set_option maxHeartbeats 4000000 in
theorem tM_nameRead_J132 {X : KC} {q : Int × KM} (hX : kOk X 3 prog_11_method_11_code 6 "KeyPathModel") (hR : kRet X none q) (x1 x2 x3 : Int) (σ : KM) {Θ : (Int × KM) → Prop} (hT : ∀ z, Θ (z) → z = q) : kJ X 132 [lq 10, li x1, li x2, li x3, none, none] [] σ (fM_nameRead_J132 x1 x2 x3 σ) Θ := by
  refine k_aload_n hX dM_nameRead_132 rfl ?_
  refine cl_151 hX (by decide) (Nat.le_of_ble_eq_true rfl) dM_nameRead_133 (fun r2 τ1 => ?_)
  refine k_i2l hX dM_nameRead_136 ?_
  refine k_ldc2 (v := 48) hX dM_nameRead_137 tw_1150 ?_
  refine k_ldc2 (v := 57) hX dM_nameRead_140 tw_1151 ?_
  refine cl_120 hX (by decide) (Nat.le_of_ble_eq_true rfl) dM_nameRead_143 (fun r4 τ3 => ?_)
  refine k_if_ne (tgt := 159) hX dM_nameRead_146 (by decide) ?_ ?_
  · refine k_iload_n hX dM_nameRead_159 rfl ?_
    refine k_bipush hX dM_nameRead_160 (by decide) ?_
    refine k_aload_n hX dM_nameRead_162 rfl ?_
    refine gf_192 hX dM_nameRead_163 ?_
    refine k_aload_n hX dM_nameRead_166 rfl ?_
    refine gf_206 hX dM_nameRead_167 ?_
    refine k_bald hX (by decide) rfl dM_nameRead_170 rfl (fun y5 => ?_)
    refine k_bipush hX dM_nameRead_171 (by decide) ?_
    refine k_isub hX dM_nameRead_173 ?_
    refine k_iconst hX dM_nameRead_174 ?_
    refine k_iadd hX dM_nameRead_175 ?_
    refine k_imul hX dM_nameRead_176 ?_
    refine k_iadd hX dM_nameRead_177 ?_
    refine k_istoreL_n (Lf := fun y6 => [lq 10, li x1, li x2, li y6, none, none]) hX dM_nameRead_178 rfl (by decide) (fun _ => rfl) (fun y6 => ?_)
    refine k_aload_n hX dM_nameRead_179 rfl ?_
    refine k_dupr hX dM_nameRead_180 ?_
    refine gf_206 hX dM_nameRead_181 ?_
    refine k_iconst hX dM_nameRead_184 ?_
    refine k_iadd hX dM_nameRead_185 ?_
    refine gp_197 hX dM_nameRead_186 (fun τ7 => ?_)
    refine k_iload_n hX dM_nameRead_189 rfl ?_
    refine k_i2l hX dM_nameRead_190 ?_
    refine k_lconst0 hX dM_nameRead_191 ?_
    refine k_ldc2 (v := 127) hX dM_nameRead_192 tw_1152 ?_
    refine cl_120 hX (by decide) (Nat.le_of_ble_eq_true rfl) dM_nameRead_195 (fun r9 τ8 => ?_)
    refine k_if_ne (tgt := 207) hX dM_nameRead_198 (by decide) ?_ ?_
    · exact tM_nameRead_J207 hX hR x1 x2 y6 τ8 hT
    · refine k_aload_n hX dM_nameRead_201 rfl ?_
      refine k_iconst hX dM_nameRead_202 ?_
      refine k_iload_n hX dM_nameRead_203 rfl ?_
      refine cl_153 hX (by decide) (Nat.le_of_ble_eq_true rfl) dM_nameRead_204 (fun _ τ10 => ?_)
      exact tM_nameRead_J207 hX hR x1 x2 y6 τ10 hT
  · refine k_aload_n hX dM_nameRead_149 rfl ?_
    refine k_iconst hX dM_nameRead_150 ?_
    refine k_aload_n hX dM_nameRead_151 rfl ?_
    refine gf_206 hX dM_nameRead_152 ?_
    refine cl_153 hX (by decide) (Nat.le_of_ble_eq_true rfl) dM_nameRead_155 (fun _ τ11 => ?_)
    exact k_vret hX hR hT dM_nameRead_158
set_option maxRecDepth 100000 in
set_option maxHeartbeats 4000000 in
theorem tM_nameRead_J120 {X : KC} {q : Int × KM} (hX : kOk X 3 prog_11_method_11_code 6 "KeyPathModel") (hR : kRet X none q) (x1 x2 t0 t1 : Int) (σ : KM) {Θ : (Int × KM) → Prop} (hT : ∀ z, Θ (z) → z = q) : kJ X 120 [lq 10, li x1, li x2, none, none, none] [ki t0, ki t1] σ (fM_nameRead_J120 x1 x2 t0 t1 σ) Θ := by
  refine k_iadd hX dM_nameRead_120 ?_
  refine k_istoreL_n (Lf := fun y1 => [lq 10, li x1, li x2, li y1, none, none]) hX dM_nameRead_121 rfl (by decide) (fun _ => rfl) (fun y1 => ?_)
  refine k_aload_n hX dM_nameRead_122 rfl ?_
  refine k_dupr hX dM_nameRead_123 ?_
  refine gf_206 hX dM_nameRead_124 ?_
  refine k_iconst hX dM_nameRead_127 ?_
  refine k_iadd hX dM_nameRead_128 ?_
  refine gp_197 hX dM_nameRead_129 (fun τ2 => ?_)
  exact tM_nameRead_J132 hX hR x1 x2 y1 τ2 hT
set_option maxRecDepth 100000 in
set_option maxHeartbeats 4000000 in
theorem tM_nameRead_J107 {X : KC} {q : Int × KM} (hX : kOk X 3 prog_11_method_11_code 6 "KeyPathModel") (hR : kRet X none q) (x1 x2 x3 x4 : Int) (σ : KM) {Θ : (Int × KM) → Prop} (hT : ∀ z, Θ (z) → z = q) : kJ X 107 [lq 10, li x1, li x2, li x3, li x4, none] [] σ (fM_nameRead_J107 x1 x2 x3 x4 σ) Θ := by
  refine k_iload_n hX dM_nameRead_107 rfl ?_
  refine k_iload hX dM_nameRead_108 rfl ?_
  refine k_bipush hX dM_nameRead_110 (by decide) ?_
  refine k_icmp_ne (tgt := 119) hX dM_nameRead_112 (by decide) ?_ ?_
  · refine k_iconst hX dM_nameRead_119 ?_
    refine k_less [true, true, true, false, false, true] (L' := [lq 10, li x1, li x2, none, none, none]) rfl ?_
    exact tM_nameRead_J120 hX hR x1 x2 (-1) x3 σ hT
  · refine k_iconst hX dM_nameRead_115 ?_
    refine k_goto (tgt := 120) hX dM_nameRead_116 (by decide) ?_
    refine k_less [true, true, true, false, false, true] (L' := [lq 10, li x1, li x2, none, none, none]) rfl ?_
    exact tM_nameRead_J120 hX hR x1 x2 1 x3 σ hT
set_option maxRecDepth 100000 in
set_option maxHeartbeats 4000000 in
theorem tM_nameRead_J56 {X : KC} {q : Int × KM} (hX : kOk X 3 prog_11_method_11_code 6 "KeyPathModel") (hR : kRet X none q) (x1 x2 : Int) (σ : KM) {Θ : (Int × KM) → Prop} (hT : ∀ z, Θ (z) → z = q) : kJ X 56 [lq 10, li x1, li x2, none, none, none] [] σ (fM_nameRead_J56 x1 x2 σ) Θ := by
  refine k_aload_n hX dM_nameRead_56 rfl ?_
  refine gf_191 hX dM_nameRead_57 ?_
  refine k_if_eq (tgt := 64) hX dM_nameRead_60 (by decide) ?_ ?_
  · refine k_aload_n hX dM_nameRead_64 rfl ?_
    refine gf_192 hX dM_nameRead_65 ?_
    refine k_aload_n hX dM_nameRead_68 rfl ?_
    refine gf_206 hX dM_nameRead_69 ?_
    refine k_bald hX (by decide) rfl dM_nameRead_72 rfl (fun y1 => ?_)
    refine cl_154 hX (by decide) (Nat.le_of_ble_eq_true rfl) dM_nameRead_73 (fun r3 τ2 => ?_)
    refine k_istore_n (L' := [lq 10, li x1, li x2, li r3, none, none]) hX dM_nameRead_76 rfl (by decide) rfl ?_
    refine k_aload_n hX dM_nameRead_77 rfl ?_
    refine k_dupr hX dM_nameRead_78 ?_
    refine gf_206 hX dM_nameRead_79 ?_
    refine k_iconst hX dM_nameRead_82 ?_
    refine k_iadd hX dM_nameRead_83 ?_
    refine gp_197 hX dM_nameRead_84 (fun τ4 => ?_)
    refine k_aload_n hX dM_nameRead_87 rfl ?_
    refine cl_151 hX (by decide) (Nat.le_of_ble_eq_true rfl) dM_nameRead_88 (fun r6 τ5 => ?_)
    refine k_istore (L' := [lq 10, li x1, li x2, li r3, li r6, none]) hX dM_nameRead_91 rfl (by decide) rfl ?_
    refine k_iload hX dM_nameRead_93 rfl ?_
    refine k_bipush hX dM_nameRead_95 (by decide) ?_
    refine k_icmp_eq (tgt := 107) hX dM_nameRead_97 (by decide) ?_ ?_
    · exact tM_nameRead_J107 hX hR x1 x2 r3 r6 τ5 hT
    · refine k_iload hX dM_nameRead_100 rfl ?_
      refine k_bipush hX dM_nameRead_102 (by decide) ?_
      refine k_icmp_ne (tgt := 132) hX dM_nameRead_104 (by decide) ?_ ?_
      · refine k_less [true, true, true, true, false, true] (L' := [lq 10, li x1, li x2, li r3, none, none]) rfl ?_
        exact tM_nameRead_J132 hX hR x1 x2 r3 τ5 hT
      · exact tM_nameRead_J107 hX hR x1 x2 r3 r6 τ5 hT
  · exact k_vret hX hR hT dM_nameRead_63
set_option maxRecDepth 100000 in
set_option maxHeartbeats 4000000 in
theorem tM_nameRead_J50 {X : KC} {q : Int × KM} (hX : kOk X 3 prog_11_method_11_code 6 "KeyPathModel") (hR : kRet X none q) (x1 x2 : Int) (σ : KM) {Θ : (Int × KM) → Prop} (hT : ∀ z, Θ (z) → z = q) : kJ X 50 [lq 10, li x1, li x2, none, none, none] [] σ (fM_nameRead_J50 x1 x2 σ) Θ := by
  refine k_aload_n hX dM_nameRead_50 rfl ?_
  refine k_iconst hX dM_nameRead_51 ?_
  refine k_iload_n hX dM_nameRead_52 rfl ?_
  refine cl_153 hX (by decide) (Nat.le_of_ble_eq_true rfl) dM_nameRead_53 (fun _ τ1 => ?_)
  exact tM_nameRead_J56 hX hR x1 x2 τ1 hT
set_option maxRecDepth 100000 in
set_option maxHeartbeats 4000000 in
theorem sM_nameRead (x1 : Int) (σ : KM) : kSem 3 (⟨"KeyPathModel", "nameRead", "(I)V"⟩ : MethodName) prog_11_method_11_code 6 none [kr 10, ki x1] σ (fM_nameRead x1 σ) := by
  refine kSem.of (L0 := [lq 10, li x1, none, none, none, none]) (by decide) (Nat.le_of_ble_eq_true rfl) rfl (fun X q hX hR => ?_)
  have hT : ∀ z : Int × KM, (fun z => z = q) z → z = q := fun _ h => h
  refine k_aload_n hX dM_nameRead_0 rfl ?_
  refine gf_191 hX dM_nameRead_1 ?_
  refine k_if_eq (tgt := 8) hX dM_nameRead_4 (by decide) ?_ ?_
  · refine k_aload_n hX dM_nameRead_8 rfl ?_
    refine cl_152 hX (by decide) (Nat.le_of_ble_eq_true rfl) dM_nameRead_9 (fun r2 τ1 => ?_)
    refine k_if_ne (tgt := 25) hX dM_nameRead_12 (by decide) ?_ ?_
    · refine k_aload_n hX dM_nameRead_25 rfl ?_
      refine gf_206 hX dM_nameRead_26 ?_
      refine k_istoreL_n (Lf := fun y3 => [lq 10, li x1, li y3, none, none, none]) hX dM_nameRead_29 rfl (by decide) (fun _ => rfl) (fun y3 => ?_)
      refine k_aload_n hX dM_nameRead_30 rfl ?_
      refine gf_202 hX dM_nameRead_31 ?_
      refine k_bipush hX dM_nameRead_34 (by decide) ?_
      refine k_icmp_eq (tgt := 50) hX dM_nameRead_36 (by decide) ?_ ?_
      · exact tM_nameRead_J50 hX hR x1 y3 τ1 hT
      · refine k_aload_n hX dM_nameRead_39 rfl ?_
        refine gf_202 hX dM_nameRead_40 ?_
        refine k_iload_n hX dM_nameRead_43 rfl ?_
        refine k_isub hX dM_nameRead_44 ?_
        refine k_bipush hX dM_nameRead_45 (by decide) ?_
        refine k_icmp_ne (tgt := 56) hX dM_nameRead_47 (by decide) ?_ ?_
        · exact tM_nameRead_J56 hX hR x1 y3 τ1 hT
        · exact tM_nameRead_J50 hX hR x1 y3 τ1 hT
    · refine k_aload_n hX dM_nameRead_15 rfl ?_
      refine k_iconst hX dM_nameRead_16 ?_
      refine k_aload_n hX dM_nameRead_17 rfl ?_
      refine gf_206 hX dM_nameRead_18 ?_
      refine cl_153 hX (by decide) (Nat.le_of_ble_eq_true rfl) dM_nameRead_21 (fun _ τ4 => ?_)
      exact k_vret hX hR hT dM_nameRead_24
  · exact k_vret hX hR hT dM_nameRead_7
theorem cl_155 {X : KC} {d n : Nat} {cc : ByteArray} {pc : Nat} {L : List (Option KV)} {st : List KV} {σ : KM} {Z : Type} {Θ : Z → Prop} {G : Int → KM → Option Z} {x1 : Int} (hX : kOk X d cc n "KeyPathModel") (hdd : 3 + 1 ≤ d) (hst : k_cat st ≤ 8) (hd : decode cc pc = .ok (.invokevirtual 160, 3)) (h : ∀ r τ, kJ X (pc + 3) L (st) τ (G r τ) Θ) : kJ X pc L (ki x1 :: kr 10 :: st) σ (kCall (fM_nameRead x1 σ) G) Θ :=
  k_callV (np := 1) (av := [ki x1]) (ret := none) hX (by decide) rfl rfl rfl (sM_nameRead _ σ) ⟨⟨hdd, by decide⟩, tw_1136, tw_11, by decide +kernel⟩ rfl tw_1133 tw_1135 ts_40 hst hd h
theorem dM_must_0 : decode prog_11_method_7_code 0 = .ok (.aload_n 0, 1) := by decide +kernel
theorem dM_must_1 : decode prog_11_method_7_code 1 = .ok (.getfield 115, 3) := by decide +kernel
theorem dM_must_4 : decode prog_11_method_7_code 4 = .ok (.ifCond .ne 20, 3) := by decide +kernel
theorem dM_must_7 : decode prog_11_method_7_code 7 = .ok (.aload_n 0, 1) := by decide +kernel
theorem dM_must_8 : decode prog_11_method_7_code 8 = .ok (.invokevirtual 118, 3) := by decide +kernel
theorem dM_must_11 : decode prog_11_method_7_code 11 = .ok (.iload_n 1, 1) := by decide +kernel
theorem dM_must_12 : decode prog_11_method_7_code 12 = .ok (.if_icmp .eq 12, 3) := by decide +kernel
theorem dM_must_15 : decode prog_11_method_7_code 15 = .ok (.aload_n 0, 1) := by decide +kernel
theorem dM_must_16 : decode prog_11_method_7_code 16 = .ok (.iconst 1, 1) := by decide +kernel
theorem dM_must_17 : decode prog_11_method_7_code 17 = .ok (.aload_n 0, 1) := by decide +kernel
theorem dM_must_18 : decode prog_11_method_7_code 18 = .ok (.getfield 109, 3) := by decide +kernel
theorem dM_must_21 : decode prog_11_method_7_code 21 = .ok (.invokevirtual 122, 3) := by decide +kernel
theorem dM_must_24 : decode prog_11_method_7_code 24 = .ok (.aload_n 0, 1) := by decide +kernel
theorem dM_must_25 : decode prog_11_method_7_code 25 = .ok (.dup, 1) := by decide +kernel
theorem dM_must_26 : decode prog_11_method_7_code 26 = .ok (.getfield 109, 3) := by decide +kernel
theorem dM_must_29 : decode prog_11_method_7_code 29 = .ok (.iconst 1, 1) := by decide +kernel
theorem dM_must_30 : decode prog_11_method_7_code 30 = .ok (.iadd, 1) := by decide +kernel
theorem dM_must_31 : decode prog_11_method_7_code 31 = .ok (.putfield 109, 3) := by decide +kernel
theorem dM_must_34 : decode prog_11_method_7_code 34 = .ok (.return_, 1) := by decide +kernel
set_option maxRecDepth 100000 in
set_option maxHeartbeats 4000000 in
theorem tM_must_J24 {X : KC} {q : Int × KM} (hX : kOk X 2 prog_11_method_7_code 2 "KeyPathModel") (hR : kRet X none q) (σ : KM) {Θ : (Int × KM) → Prop} (hT : ∀ z, Θ (z) → z = q) : kJ X 24 [lq 10, none] [] σ (fM_must_J24 σ) Θ := by
  refine k_aload_n hX dM_must_24 rfl ?_
  refine k_dupr hX dM_must_25 ?_
  refine gf_206 hX dM_must_26 ?_
  refine k_iconst hX dM_must_29 ?_
  refine k_iadd hX dM_must_30 ?_
  refine gp_197 hX dM_must_31 (fun τ1 => ?_)
  exact k_vret hX hR hT dM_must_34
set_option maxRecDepth 100000 in
set_option maxHeartbeats 4000000 in
theorem sM_must (x1 : Int) (σ : KM) : kSem 2 (⟨"KeyPathModel", "must", "(I)V"⟩ : MethodName) prog_11_method_7_code 2 none [kr 10, ki x1] σ (fM_must x1 σ) := by
  refine kSem.of (L0 := [lq 10, li x1]) (by decide) (Nat.le_of_ble_eq_true rfl) rfl (fun X q hX hR => ?_)
  have hT : ∀ z : Int × KM, (fun z => z = q) z → z = q := fun _ h => h
  refine k_aload_n hX dM_must_0 rfl ?_
  refine gf_191 hX dM_must_1 ?_
  refine k_if_ne (tgt := 24) hX dM_must_4 (by decide) ?_ ?_
  · refine k_less [true, false] (L' := [lq 10, none]) rfl ?_
    exact tM_must_J24 hX hR σ hT
  · refine k_aload_n hX dM_must_7 rfl ?_
    refine cl_151 hX (by decide) (Nat.le_of_ble_eq_true rfl) dM_must_8 (fun r2 τ1 => ?_)
    refine k_iload_n hX dM_must_11 rfl ?_
    refine k_icmp_eq (tgt := 24) hX dM_must_12 (by decide) ?_ ?_
    · refine k_less [true, false] (L' := [lq 10, none]) rfl ?_
      exact tM_must_J24 hX hR τ1 hT
    · refine k_aload_n hX dM_must_15 rfl ?_
      refine k_iconst hX dM_must_16 ?_
      refine k_aload_n hX dM_must_17 rfl ?_
      refine gf_206 hX dM_must_18 ?_
      refine cl_153 hX (by decide) (Nat.le_of_ble_eq_true rfl) dM_must_21 (fun _ τ3 => ?_)
      refine k_less [true, false] (L' := [lq 10, none]) rfl ?_
      exact tM_must_J24 hX hR τ3 hT
theorem cl_156 {X : KC} {d n : Nat} {cc : ByteArray} {pc : Nat} {L : List (Option KV)} {st : List KV} {σ : KM} {Z : Type} {Θ : Z → Prop} {G : Int → KM → Option Z} {x1 : Int} (hX : kOk X d cc n "KeyPathModel") (hdd : 2 + 1 ≤ d) (hst : k_cat st ≤ 8) (hd : decode cc pc = .ok (.invokevirtual 126, 3)) (h : ∀ r τ, kJ X (pc + 3) L (st) τ (G r τ) Θ) : kJ X pc L (ki x1 :: kr 10 :: st) σ (kCall (fM_must x1 σ) G) Θ :=
  k_callV (np := 1) (av := [ki x1]) (ret := none) hX (by decide) rfl rfl rfl (sM_must _ σ) ⟨⟨hdd, by decide⟩, tw_1156, tw_11, by decide +kernel⟩ rfl tw_1153 tw_1155 ts_43 hst hd h
theorem dM_lengthRead_0 : decode prog_11_method_8_code 0 = .ok (.aload_n 0, 1) := by decide +kernel
theorem dM_lengthRead_1 : decode prog_11_method_8_code 1 = .ok (.bipush 58, 2) := by decide +kernel
theorem dM_lengthRead_3 : decode prog_11_method_8_code 3 = .ok (.invokevirtual 126, 3) := by decide +kernel
theorem dM_lengthRead_6 : decode prog_11_method_8_code 6 = .ok (.aload_n 0, 1) := by decide +kernel
theorem dM_lengthRead_7 : decode prog_11_method_8_code 7 = .ok (.getfield 115, 3) := by decide +kernel
theorem dM_lengthRead_10 : decode prog_11_method_8_code 10 = .ok (.ifCond .eq 5, 3) := by decide +kernel
theorem dM_lengthRead_13 : decode prog_11_method_8_code 13 = .ok (.iconst 0, 1) := by decide +kernel
theorem dM_lengthRead_14 : decode prog_11_method_8_code 14 = .ok (.ireturn, 1) := by decide +kernel
theorem dM_lengthRead_15 : decode prog_11_method_8_code 15 = .ok (.aload_n 0, 1) := by decide +kernel
theorem dM_lengthRead_16 : decode prog_11_method_8_code 16 = .ok (.invokevirtual 118, 3) := by decide +kernel
theorem dM_lengthRead_19 : decode prog_11_method_8_code 19 = .ok (.istore_n 1, 1) := by decide +kernel
theorem dM_lengthRead_20 : decode prog_11_method_8_code 20 = .ok (.aload_n 0, 1) := by decide +kernel
theorem dM_lengthRead_21 : decode prog_11_method_8_code 21 = .ok (.getfield 109, 3) := by decide +kernel
theorem dM_lengthRead_24 : decode prog_11_method_8_code 24 = .ok (.istore_n 2, 1) := by decide +kernel
theorem dM_lengthRead_25 : decode prog_11_method_8_code 25 = .ok (.iconst 0, 1) := by decide +kernel
theorem dM_lengthRead_26 : decode prog_11_method_8_code 26 = .ok (.istore_n 3, 1) := by decide +kernel
theorem dM_lengthRead_27 : decode prog_11_method_8_code 27 = .ok (.aload_n 0, 1) := by decide +kernel
theorem dM_lengthRead_28 : decode prog_11_method_8_code 28 = .ok (.getfield 109, 3) := by decide +kernel
theorem dM_lengthRead_31 : decode prog_11_method_8_code 31 = .ok (.aload_n 0, 1) := by decide +kernel
theorem dM_lengthRead_32 : decode prog_11_method_8_code 32 = .ok (.getfield 112, 3) := by decide +kernel
theorem dM_lengthRead_35 : decode prog_11_method_8_code 35 = .ok (.if_icmp .ge 66, 3) := by decide +kernel
theorem dM_lengthRead_38 : decode prog_11_method_8_code 38 = .ok (.aload_n 0, 1) := by decide +kernel
theorem dM_lengthRead_39 : decode prog_11_method_8_code 39 = .ok (.getfield 59, 3) := by decide +kernel
theorem dM_lengthRead_42 : decode prog_11_method_8_code 42 = .ok (.aload_n 0, 1) := by decide +kernel
theorem dM_lengthRead_43 : decode prog_11_method_8_code 43 = .ok (.getfield 109, 3) := by decide +kernel
theorem dM_lengthRead_46 : decode prog_11_method_8_code 46 = .ok (.baload, 1) := by decide +kernel
theorem dM_lengthRead_47 : decode prog_11_method_8_code 47 = .ok (.i2l, 1) := by decide +kernel
theorem dM_lengthRead_48 : decode prog_11_method_8_code 48 = .ok (.ldc2_w 130, 3) := by decide +kernel
theorem dM_lengthRead_51 : decode prog_11_method_8_code 51 = .ok (.ldc2_w 132, 3) := by decide +kernel
theorem dM_lengthRead_54 : decode prog_11_method_8_code 54 = .ok (.invokestatic 134, 3) := by decide +kernel
theorem dM_lengthRead_57 : decode prog_11_method_8_code 57 = .ok (.ifCond .eq 44, 3) := by decide +kernel
theorem dM_lengthRead_60 : decode prog_11_method_8_code 60 = .ok (.aload_n 0, 1) := by decide +kernel
theorem dM_lengthRead_61 : decode prog_11_method_8_code 61 = .ok (.getfield 109, 3) := by decide +kernel
theorem dM_lengthRead_64 : decode prog_11_method_8_code 64 = .ok (.iload_n 2, 1) := by decide +kernel
theorem dM_lengthRead_65 : decode prog_11_method_8_code 65 = .ok (.isub, 1) := by decide +kernel
theorem dM_lengthRead_66 : decode prog_11_method_8_code 66 = .ok (.iconst 2, 1) := by decide +kernel
theorem dM_lengthRead_67 : decode prog_11_method_8_code 67 = .ok (.if_icmp .ge 21, 3) := by decide +kernel
theorem dM_lengthRead_70 : decode prog_11_method_8_code 70 = .ok (.bipush 10, 2) := by decide +kernel
theorem dM_lengthRead_72 : decode prog_11_method_8_code 72 = .ok (.iload_n 3, 1) := by decide +kernel
theorem dM_lengthRead_73 : decode prog_11_method_8_code 73 = .ok (.imul, 1) := by decide +kernel
theorem dM_lengthRead_74 : decode prog_11_method_8_code 74 = .ok (.aload_n 0, 1) := by decide +kernel
theorem dM_lengthRead_75 : decode prog_11_method_8_code 75 = .ok (.getfield 59, 3) := by decide +kernel
theorem dM_lengthRead_78 : decode prog_11_method_8_code 78 = .ok (.aload_n 0, 1) := by decide +kernel
theorem dM_lengthRead_79 : decode prog_11_method_8_code 79 = .ok (.getfield 109, 3) := by decide +kernel
theorem dM_lengthRead_82 : decode prog_11_method_8_code 82 = .ok (.baload, 1) := by decide +kernel
theorem dM_lengthRead_83 : decode prog_11_method_8_code 83 = .ok (.iadd, 1) := by decide +kernel
theorem dM_lengthRead_84 : decode prog_11_method_8_code 84 = .ok (.bipush 48, 2) := by decide +kernel
theorem dM_lengthRead_86 : decode prog_11_method_8_code 86 = .ok (.isub, 1) := by decide +kernel
theorem dM_lengthRead_87 : decode prog_11_method_8_code 87 = .ok (.istore_n 3, 1) := by decide +kernel
theorem dM_lengthRead_88 : decode prog_11_method_8_code 88 = .ok (.aload_n 0, 1) := by decide +kernel
theorem dM_lengthRead_89 : decode prog_11_method_8_code 89 = .ok (.dup, 1) := by decide +kernel
theorem dM_lengthRead_90 : decode prog_11_method_8_code 90 = .ok (.getfield 109, 3) := by decide +kernel
theorem dM_lengthRead_93 : decode prog_11_method_8_code 93 = .ok (.iconst 1, 1) := by decide +kernel
theorem dM_lengthRead_94 : decode prog_11_method_8_code 94 = .ok (.iadd, 1) := by decide +kernel
theorem dM_lengthRead_95 : decode prog_11_method_8_code 95 = .ok (.putfield 109, 3) := by decide +kernel
theorem dM_lengthRead_98 : decode prog_11_method_8_code 98 = .ok (.goto (-71), 3) := by decide +kernel
theorem dM_lengthRead_101 : decode prog_11_method_8_code 101 = .ok (.aload_n 0, 1) := by decide +kernel
theorem dM_lengthRead_102 : decode prog_11_method_8_code 102 = .ok (.getfield 109, 3) := by decide +kernel
theorem dM_lengthRead_105 : decode prog_11_method_8_code 105 = .ok (.iload_n 2, 1) := by decide +kernel
theorem dM_lengthRead_106 : decode prog_11_method_8_code 106 = .ok (.if_icmp .ne 12, 3) := by decide +kernel
theorem dM_lengthRead_109 : decode prog_11_method_8_code 109 = .ok (.aload_n 0, 1) := by decide +kernel
theorem dM_lengthRead_110 : decode prog_11_method_8_code 110 = .ok (.iconst 1, 1) := by decide +kernel
theorem dM_lengthRead_111 : decode prog_11_method_8_code 111 = .ok (.iload_n 2, 1) := by decide +kernel
theorem dM_lengthRead_112 : decode prog_11_method_8_code 112 = .ok (.invokevirtual 122, 3) := by decide +kernel
theorem dM_lengthRead_115 : decode prog_11_method_8_code 115 = .ok (.goto 52, 3) := by decide +kernel
theorem dM_lengthRead_118 : decode prog_11_method_8_code 118 = .ok (.aload_n 0, 1) := by decide +kernel
theorem dM_lengthRead_119 : decode prog_11_method_8_code 119 = .ok (.getfield 109, 3) := by decide +kernel
theorem dM_lengthRead_122 : decode prog_11_method_8_code 122 = .ok (.iload_n 2, 1) := by decide +kernel
theorem dM_lengthRead_123 : decode prog_11_method_8_code 123 = .ok (.isub, 1) := by decide +kernel
theorem dM_lengthRead_124 : decode prog_11_method_8_code 124 = .ok (.iconst 2, 1) := by decide +kernel
theorem dM_lengthRead_125 : decode prog_11_method_8_code 125 = .ok (.if_icmp .gt 15, 3) := by decide +kernel
theorem dM_lengthRead_128 : decode prog_11_method_8_code 128 = .ok (.iload_n 3, 1) := by decide +kernel
theorem dM_lengthRead_129 : decode prog_11_method_8_code 129 = .ok (.i2l, 1) := by decide +kernel
theorem dM_lengthRead_130 : decode prog_11_method_8_code 130 = .ok (.lconst 1, 1) := by decide +kernel
theorem dM_lengthRead_131 : decode prog_11_method_8_code 131 = .ok (.ldc2_w 138, 3) := by decide +kernel
theorem dM_lengthRead_134 : decode prog_11_method_8_code 134 = .ok (.invokestatic 134, 3) := by decide +kernel
theorem dM_lengthRead_137 : decode prog_11_method_8_code 137 = .ok (.ifCond .ne 12, 3) := by decide +kernel
theorem dM_lengthRead_140 : decode prog_11_method_8_code 140 = .ok (.aload_n 0, 1) := by decide +kernel
theorem dM_lengthRead_141 : decode prog_11_method_8_code 141 = .ok (.iconst 2, 1) := by decide +kernel
theorem dM_lengthRead_142 : decode prog_11_method_8_code 142 = .ok (.iload_n 2, 1) := by decide +kernel
theorem dM_lengthRead_143 : decode prog_11_method_8_code 143 = .ok (.invokevirtual 122, 3) := by decide +kernel
theorem dM_lengthRead_146 : decode prog_11_method_8_code 146 = .ok (.goto 21, 3) := by decide +kernel
theorem dM_lengthRead_149 : decode prog_11_method_8_code 149 = .ok (.aload_n 0, 1) := by decide +kernel
theorem dM_lengthRead_150 : decode prog_11_method_8_code 150 = .ok (.getfield 140, 3) := by decide +kernel
theorem dM_lengthRead_153 : decode prog_11_method_8_code 153 = .ok (.iload_n 3, 1) := by decide +kernel
theorem dM_lengthRead_154 : decode prog_11_method_8_code 154 = .ok (.iadd, 1) := by decide +kernel
theorem dM_lengthRead_155 : decode prog_11_method_8_code 155 = .ok (.sipush 512, 3) := by decide +kernel
theorem dM_lengthRead_158 : decode prog_11_method_8_code 158 = .ok (.if_icmp .le 9, 3) := by decide +kernel
theorem dM_lengthRead_161 : decode prog_11_method_8_code 161 = .ok (.aload_n 0, 1) := by decide +kernel
theorem dM_lengthRead_162 : decode prog_11_method_8_code 162 = .ok (.iconst 4, 1) := by decide +kernel
theorem dM_lengthRead_163 : decode prog_11_method_8_code 163 = .ok (.iload_n 2, 1) := by decide +kernel
theorem dM_lengthRead_164 : decode prog_11_method_8_code 164 = .ok (.invokevirtual 122, 3) := by decide +kernel
theorem dM_lengthRead_167 : decode prog_11_method_8_code 167 = .ok (.iload_n 3, 1) := by decide +kernel
theorem dM_lengthRead_168 : decode prog_11_method_8_code 168 = .ok (.ireturn, 1) := by decide +kernel
set_option maxRecDepth 100000 in
set_option maxHeartbeats 4000000 in
theorem tM_lengthRead_J167 {X : KC} {q : Int × KM} (hX : kOk X 3 prog_11_method_8_code 4 "KeyPathModel") (hR : kRet X (some .int) q) (x3 : Int) (σ : KM) {Θ : (Int × KM) → Prop} (hT : ∀ z, Θ (z) → z = q) : kJ X 167 [lq 10, none, none, li x3] [] σ (fM_lengthRead_J167 x3 σ) Θ := by
  refine k_iload_n hX dM_lengthRead_167 rfl ?_
  exact k_iret hX hR hT dM_lengthRead_168
set_option maxRecDepth 100000 in
set_option maxHeartbeats 4000000 in
theorem tM_lengthRead_J140 {X : KC} {q : Int × KM} (hX : kOk X 3 prog_11_method_8_code 4 "KeyPathModel") (hR : kRet X (some .int) q) (x2 x3 : Int) (σ : KM) {Θ : (Int × KM) → Prop} (hT : ∀ z, Θ (z) → z = q) : kJ X 140 [lq 10, none, li x2, li x3] [] σ (fM_lengthRead_J140 x2 x3 σ) Θ := by
  refine k_aload_n hX dM_lengthRead_140 rfl ?_
  refine k_iconst hX dM_lengthRead_141 ?_
  refine k_iload_n hX dM_lengthRead_142 rfl ?_
  refine cl_153 hX (by decide) (Nat.le_of_ble_eq_true rfl) dM_lengthRead_143 (fun _ τ1 => ?_)
  refine k_goto (tgt := 167) hX dM_lengthRead_146 (by decide) ?_
  refine k_less [true, true, false, true] (L' := [lq 10, none, none, li x3]) rfl ?_
  exact tM_lengthRead_J167 hX hR x3 τ1 hT
set_option maxRecDepth 100000 in
set_option maxHeartbeats 4000000 in
theorem tM_lengthRead_J101 {X : KC} {q : Int × KM} (hX : kOk X 3 prog_11_method_8_code 4 "KeyPathModel") (hR : kRet X (some .int) q) (x2 x3 : Int) (σ : KM) {Θ : (Int × KM) → Prop} (hT : ∀ z, Θ (z) → z = q) : kJ X 101 [lq 10, none, li x2, li x3] [] σ (fM_lengthRead_J101 x2 x3 σ) Θ := by
  refine k_aload_n hX dM_lengthRead_101 rfl ?_
  refine gf_206 hX dM_lengthRead_102 ?_
  refine k_iload_n hX dM_lengthRead_105 rfl ?_
  refine k_icmp_ne (tgt := 118) hX dM_lengthRead_106 (by decide) ?_ ?_
  · refine k_aload_n hX dM_lengthRead_118 rfl ?_
    refine gf_206 hX dM_lengthRead_119 ?_
    refine k_iload_n hX dM_lengthRead_122 rfl ?_
    refine k_isub hX dM_lengthRead_123 ?_
    refine k_iconst hX dM_lengthRead_124 ?_
    refine k_icmp_gt (tgt := 140) hX dM_lengthRead_125 (by decide) ?_ ?_
    · exact tM_lengthRead_J140 hX hR x2 x3 σ hT
    · refine k_iload_n hX dM_lengthRead_128 rfl ?_
      refine k_i2l hX dM_lengthRead_129 ?_
      refine k_lconst1 hX dM_lengthRead_130 ?_
      refine k_ldc2 (v := 64) hX dM_lengthRead_131 tw_1161 ?_
      refine cl_120 hX (by decide) (Nat.le_of_ble_eq_true rfl) dM_lengthRead_134 (fun r2 τ1 => ?_)
      refine k_if_ne (tgt := 149) hX dM_lengthRead_137 (by decide) ?_ ?_
      · refine k_aload_n hX dM_lengthRead_149 rfl ?_
        refine gf_208 hX dM_lengthRead_150 ?_
        refine k_iload_n hX dM_lengthRead_153 rfl ?_
        refine k_iadd hX dM_lengthRead_154 ?_
        refine k_sipush hX dM_lengthRead_155 (by decide) ?_
        refine k_icmp_le (tgt := 167) hX dM_lengthRead_158 (by decide) ?_ ?_
        · refine k_less [true, true, false, true] (L' := [lq 10, none, none, li x3]) rfl ?_
          exact tM_lengthRead_J167 hX hR x3 τ1 hT
        · refine k_aload_n hX dM_lengthRead_161 rfl ?_
          refine k_iconst hX dM_lengthRead_162 ?_
          refine k_iload_n hX dM_lengthRead_163 rfl ?_
          refine cl_153 hX (by decide) (Nat.le_of_ble_eq_true rfl) dM_lengthRead_164 (fun _ τ3 => ?_)
          refine k_less [true, true, false, true] (L' := [lq 10, none, none, li x3]) rfl ?_
          exact tM_lengthRead_J167 hX hR x3 τ3 hT
      · exact tM_lengthRead_J140 hX hR x2 x3 τ1 hT
  · refine k_aload_n hX dM_lengthRead_109 rfl ?_
    refine k_iconst hX dM_lengthRead_110 ?_
    refine k_iload_n hX dM_lengthRead_111 rfl ?_
    refine cl_153 hX (by decide) (Nat.le_of_ble_eq_true rfl) dM_lengthRead_112 (fun _ τ4 => ?_)
    refine k_goto (tgt := 167) hX dM_lengthRead_115 (by decide) ?_
    refine k_less [true, true, false, true] (L' := [lq 10, none, none, li x3]) rfl ?_
    exact tM_lengthRead_J167 hX hR x3 τ4 hT
set_option maxRecDepth 100000 in
set_option maxHeartbeats 4000000 in
theorem tM_lengthRead_J88 {X : KC} {q : Int × KM} (hX : kOk X 3 prog_11_method_8_code 4 "KeyPathModel") (hR : kRet X (some .int) q) (x2 x3 : Int) (σ : KM) {Θ : ((Int × KM) ⊕ (Int × KM)) → Prop} (hT : ∀ z, Θ (.inr (z)) → z = q) (hb0 : ∀ s : Int × KM, Θ (.inl s) → kW X 27 [lq 10, none, li x2, li s.1] [] s.2) : kJ X 88 [lq 10, none, li x2, li x3] [] σ (fM_lengthRead_J88 x2 x3 σ) Θ := by
  refine k_aload_n hX dM_lengthRead_88 rfl ?_
  refine k_dupr hX dM_lengthRead_89 ?_
  refine gf_206 hX dM_lengthRead_90 ?_
  refine k_iconst hX dM_lengthRead_93 ?_
  refine k_iadd hX dM_lengthRead_94 ?_
  refine gp_197 hX dM_lengthRead_95 (fun τ1 => ?_)
  refine k_goto (tgt := 27) hX dM_lengthRead_98 (by decide) ?_
  exact k_back (hb0 (x3, τ1))
set_option maxRecDepth 100000 in
set_option maxHeartbeats 4000000 in
theorem tM_lengthRead_B27 {X : KC} {q : Int × KM} (hX : kOk X 3 prog_11_method_8_code 4 "KeyPathModel") (hR : kRet X (some .int) q) (x2 x3 : Int) (σ : KM) {Θ : ((Int × KM) ⊕ (Int × KM)) → Prop} (hT : ∀ z, Θ (.inr (z)) → z = q) (hb0 : ∀ s : Int × KM, Θ (.inl s) → kW X 27 [lq 10, none, li x2, li s.1] [] s.2) : kJ X 27 [lq 10, none, li x2, li x3] [] σ (fM_lengthRead_B27 x2 x3 σ) Θ := by
  refine k_aload_n hX dM_lengthRead_27 rfl ?_
  refine gf_206 hX dM_lengthRead_28 ?_
  refine k_aload_n hX dM_lengthRead_31 rfl ?_
  refine gf_207 hX dM_lengthRead_32 ?_
  refine k_icmp_ge (tgt := 101) hX dM_lengthRead_35 (by decide) ?_ ?_
  · refine k_exit ?_
    exact tM_lengthRead_J101 hX hR x2 x3 σ hT
  · refine k_aload_n hX dM_lengthRead_38 rfl ?_
    refine gf_192 hX dM_lengthRead_39 ?_
    refine k_aload_n hX dM_lengthRead_42 rfl ?_
    refine gf_206 hX dM_lengthRead_43 ?_
    refine k_bald hX (by decide) rfl dM_lengthRead_46 rfl (fun y1 => ?_)
    refine k_i2l hX dM_lengthRead_47 ?_
    refine k_ldc2 (v := 48) hX dM_lengthRead_48 tw_1150 ?_
    refine k_ldc2 (v := 57) hX dM_lengthRead_51 tw_1151 ?_
    refine cl_120 hX (by decide) (Nat.le_of_ble_eq_true rfl) dM_lengthRead_54 (fun r3 τ2 => ?_)
    refine k_if_eq (tgt := 101) hX dM_lengthRead_57 (by decide) ?_ ?_
    · refine k_exit ?_
      exact tM_lengthRead_J101 hX hR x2 x3 τ2 hT
    · refine k_aload_n hX dM_lengthRead_60 rfl ?_
      refine gf_206 hX dM_lengthRead_61 ?_
      refine k_iload_n hX dM_lengthRead_64 rfl ?_
      refine k_isub hX dM_lengthRead_65 ?_
      refine k_iconst hX dM_lengthRead_66 ?_
      refine k_icmp_ge (tgt := 88) hX dM_lengthRead_67 (by decide) ?_ ?_
      · exact tM_lengthRead_J88 hX hR x2 x3 τ2 hT hb0
      · refine k_bipush hX dM_lengthRead_70 (by decide) ?_
        refine k_iload_n hX dM_lengthRead_72 rfl ?_
        refine k_imul hX dM_lengthRead_73 ?_
        refine k_aload_n hX dM_lengthRead_74 rfl ?_
        refine gf_192 hX dM_lengthRead_75 ?_
        refine k_aload_n hX dM_lengthRead_78 rfl ?_
        refine gf_206 hX dM_lengthRead_79 ?_
        refine k_bald hX (by decide) rfl dM_lengthRead_82 rfl (fun y4 => ?_)
        refine k_iadd hX dM_lengthRead_83 ?_
        refine k_bipush hX dM_lengthRead_84 (by decide) ?_
        refine k_isub hX dM_lengthRead_86 ?_
        refine k_istoreL_n (Lf := fun y5 => [lq 10, none, li x2, li y5]) hX dM_lengthRead_87 rfl (by decide) (fun _ => rfl) (fun y5 => ?_)
        exact tM_lengthRead_J88 hX hR x2 y5 τ2 hT hb0
set_option maxRecDepth 100000 in
set_option maxHeartbeats 4000000 in
theorem tM_lengthRead_L27 {X : KC} {q : Int × KM} (hX : kOk X 3 prog_11_method_8_code 4 "KeyPathModel") (hR : kRet X (some .int) q) (x2 x3 : Int) (σ : KM) {Θ : (Int × KM) → Prop} (hT : ∀ z, Θ (z) → z = q) : kJ X 27 [lq 10, none, li x2, li x3] [] σ (fM_lengthRead_L27 x2 x3 σ) Θ :=
  k_iter (f := fun s => fM_lengthRead_B27 x2 s.1 s.2) (Lf := fun s => [lq 10, none, li x2, li s.1]) (mf := fun s => s.2) (Θ := Θ) (fun s => tM_lengthRead_B27 hX hR x2 s.1 s.2 hT (fun _ h9 => h9)) kF (x3, σ)
set_option maxRecDepth 100000 in
set_option maxHeartbeats 4000000 in
theorem sM_lengthRead (σ : KM) : kSem 3 (⟨"KeyPathModel", "lengthRead", "()I"⟩ : MethodName) prog_11_method_8_code 4 (some .int) [kr 10] σ (fM_lengthRead σ) := by
  refine kSem.of (L0 := [lq 10, none, none, none]) (by decide) (Nat.le_of_ble_eq_true rfl) rfl (fun X q hX hR => ?_)
  have hT : ∀ z : Int × KM, (fun z => z = q) z → z = q := fun _ h => h
  refine k_aload_n hX dM_lengthRead_0 rfl ?_
  refine k_bipush hX dM_lengthRead_1 (by decide) ?_
  refine cl_156 hX (by decide) (Nat.le_of_ble_eq_true rfl) dM_lengthRead_3 (fun _ τ1 => ?_)
  refine k_aload_n hX dM_lengthRead_6 rfl ?_
  refine gf_191 hX dM_lengthRead_7 ?_
  refine k_if_eq (tgt := 15) hX dM_lengthRead_10 (by decide) ?_ ?_
  · refine k_aload_n hX dM_lengthRead_15 rfl ?_
    refine cl_151 hX (by decide) (Nat.le_of_ble_eq_true rfl) dM_lengthRead_16 (fun r3 τ2 => ?_)
    refine k_istore_n (L' := [lq 10, li r3, none, none]) hX dM_lengthRead_19 rfl (by decide) rfl ?_
    refine k_aload_n hX dM_lengthRead_20 rfl ?_
    refine gf_206 hX dM_lengthRead_21 ?_
    refine k_istoreL_n (Lf := fun y4 => [lq 10, li r3, li y4, none]) hX dM_lengthRead_24 rfl (by decide) (fun _ => rfl) (fun y4 => ?_)
    refine k_iconst hX dM_lengthRead_25 ?_
    refine k_istore_n (L' := [lq 10, li r3, li y4, li 0]) hX dM_lengthRead_26 rfl (by decide) rfl ?_
    refine k_less [true, false, true, true] (L' := [lq 10, none, li y4, li 0]) rfl ?_
    exact tM_lengthRead_L27 hX hR y4 0 τ2 hT
  · refine k_iconst hX dM_lengthRead_13 ?_
    exact k_iret hX hR hT dM_lengthRead_14
theorem cl_157 {X : KC} {d n : Nat} {cc : ByteArray} {pc : Nat} {L : List (Option KV)} {st : List KV} {σ : KM} {Z : Type} {Θ : Z → Prop} {G : Int → KM → Option Z} (hX : kOk X d cc n "KeyPathModel") (hdd : 3 + 1 ≤ d) (hst : k_cat st ≤ 8) (hd : decode cc pc = .ok (.invokevirtual 163, 3)) (h : ∀ r τ, kJ X (pc + 3) L (ki r :: st) τ (G r τ) Θ) : kJ X pc L (kr 10 :: st) σ (kCall (fM_lengthRead σ) G) Θ :=
  k_callV (np := 0) (av := []) (ret := (some .int)) hX (by decide) rfl rfl rfl (sM_lengthRead σ) ⟨⟨hdd, by decide⟩, tw_1160, tw_11, by decide +kernel⟩ rfl tw_1157 tw_1159 ts_44 hst hd h
theorem dM_readOne_0 : decode prog_11_method_12_code 0 = .ok (.aload_n 0, 1) := by decide +kernel
theorem dM_readOne_1 : decode prog_11_method_12_code 1 = .ok (.invokevirtual 118, 3) := by decide +kernel
theorem dM_readOne_4 : decode prog_11_method_12_code 4 = .ok (.istore_n 1, 1) := by decide +kernel
theorem dM_readOne_5 : decode prog_11_method_12_code 5 = .ok (.iload_n 1, 1) := by decide +kernel
theorem dM_readOne_6 : decode prog_11_method_12_code 6 = .ok (.bipush 124, 2) := by decide +kernel
theorem dM_readOne_8 : decode prog_11_method_12_code 8 = .ok (.if_icmp .ne 14, 3) := by decide +kernel
theorem dM_readOne_11 : decode prog_11_method_12_code 11 = .ok (.aload_n 0, 1) := by decide +kernel
theorem dM_readOne_12 : decode prog_11_method_12_code 12 = .ok (.dup, 1) := by decide +kernel
theorem dM_readOne_13 : decode prog_11_method_12_code 13 = .ok (.getfield 109, 3) := by decide +kernel
theorem dM_readOne_16 : decode prog_11_method_12_code 16 = .ok (.iconst 1, 1) := by decide +kernel
theorem dM_readOne_17 : decode prog_11_method_12_code 17 = .ok (.iadd, 1) := by decide +kernel
theorem dM_readOne_18 : decode prog_11_method_12_code 18 = .ok (.putfield 109, 3) := by decide +kernel
theorem dM_readOne_21 : decode prog_11_method_12_code 21 = .ok (.return_, 1) := by decide +kernel
theorem dM_readOne_22 : decode prog_11_method_12_code 22 = .ok (.aload_n 0, 1) := by decide +kernel
theorem dM_readOne_23 : decode prog_11_method_12_code 23 = .ok (.getfield 151, 3) := by decide +kernel
theorem dM_readOne_26 : decode prog_11_method_12_code 26 = .ok (.istore_n 2, 1) := by decide +kernel
theorem dM_readOne_27 : decode prog_11_method_12_code 27 = .ok (.iload_n 1, 1) := by decide +kernel
theorem dM_readOne_28 : decode prog_11_method_12_code 28 = .ok (.bipush 45, 2) := by decide +kernel
theorem dM_readOne_30 : decode prog_11_method_12_code 30 = .ok (.if_icmp .ne 16, 3) := by decide +kernel
theorem dM_readOne_33 : decode prog_11_method_12_code 33 = .ok (.aload_n 0, 1) := by decide +kernel
theorem dM_readOne_34 : decode prog_11_method_12_code 34 = .ok (.dup, 1) := by decide +kernel
theorem dM_readOne_35 : decode prog_11_method_12_code 35 = .ok (.getfield 109, 3) := by decide +kernel
theorem dM_readOne_38 : decode prog_11_method_12_code 38 = .ok (.iconst 1, 1) := by decide +kernel
theorem dM_readOne_39 : decode prog_11_method_12_code 39 = .ok (.iadd, 1) := by decide +kernel
theorem dM_readOne_40 : decode prog_11_method_12_code 40 = .ok (.putfield 109, 3) := by decide +kernel
theorem dM_readOne_43 : decode prog_11_method_12_code 43 = .ok (.goto 60, 3) := by decide +kernel
theorem dM_readOne_46 : decode prog_11_method_12_code 46 = .ok (.iload_n 1, 1) := by decide +kernel
theorem dM_readOne_47 : decode prog_11_method_12_code 47 = .ok (.bipush 40, 2) := by decide +kernel
theorem dM_readOne_49 : decode prog_11_method_12_code 49 = .ok (.if_icmp .ne 49, 3) := by decide +kernel
theorem dM_readOne_52 : decode prog_11_method_12_code 52 = .ok (.aload_n 0, 1) := by decide +kernel
theorem dM_readOne_53 : decode prog_11_method_12_code 53 = .ok (.dup, 1) := by decide +kernel
theorem dM_readOne_54 : decode prog_11_method_12_code 54 = .ok (.getfield 109, 3) := by decide +kernel
theorem dM_readOne_57 : decode prog_11_method_12_code 57 = .ok (.iconst 1, 1) := by decide +kernel
theorem dM_readOne_58 : decode prog_11_method_12_code 58 = .ok (.iadd, 1) := by decide +kernel
theorem dM_readOne_59 : decode prog_11_method_12_code 59 = .ok (.putfield 109, 3) := by decide +kernel
theorem dM_readOne_62 : decode prog_11_method_12_code 62 = .ok (.aload_n 0, 1) := by decide +kernel
theorem dM_readOne_63 : decode prog_11_method_12_code 63 = .ok (.iload_n 2, 1) := by decide +kernel
theorem dM_readOne_64 : decode prog_11_method_12_code 64 = .ok (.invokevirtual 160, 3) := by decide +kernel
theorem dM_readOne_67 : decode prog_11_method_12_code 67 = .ok (.aload_n 0, 1) := by decide +kernel
theorem dM_readOne_68 : decode prog_11_method_12_code 68 = .ok (.getfield 115, 3) := by decide +kernel
theorem dM_readOne_71 : decode prog_11_method_12_code 71 = .ok (.ifCond .ne 18, 3) := by decide +kernel
theorem dM_readOne_74 : decode prog_11_method_12_code 74 = .ok (.aload_n 0, 1) := by decide +kernel
theorem dM_readOne_75 : decode prog_11_method_12_code 75 = .ok (.invokevirtual 147, 3) := by decide +kernel
theorem dM_readOne_78 : decode prog_11_method_12_code 78 = .ok (.ifCond .eq 11, 3) := by decide +kernel
theorem dM_readOne_81 : decode prog_11_method_12_code 81 = .ok (.aload_n 0, 1) := by decide +kernel
theorem dM_readOne_82 : decode prog_11_method_12_code 82 = .ok (.iload_n 2, 1) := by decide +kernel
theorem dM_readOne_83 : decode prog_11_method_12_code 83 = .ok (.invokevirtual 160, 3) := by decide +kernel
theorem dM_readOne_86 : decode prog_11_method_12_code 86 = .ok (.goto (-19), 3) := by decide +kernel
theorem dM_readOne_89 : decode prog_11_method_12_code 89 = .ok (.aload_n 0, 1) := by decide +kernel
theorem dM_readOne_90 : decode prog_11_method_12_code 90 = .ok (.bipush 41, 2) := by decide +kernel
theorem dM_readOne_92 : decode prog_11_method_12_code 92 = .ok (.invokevirtual 126, 3) := by decide +kernel
theorem dM_readOne_95 : decode prog_11_method_12_code 95 = .ok (.goto 8, 3) := by decide +kernel
theorem dM_readOne_98 : decode prog_11_method_12_code 98 = .ok (.aload_n 0, 1) := by decide +kernel
theorem dM_readOne_99 : decode prog_11_method_12_code 99 = .ok (.iload_n 2, 1) := by decide +kernel
theorem dM_readOne_100 : decode prog_11_method_12_code 100 = .ok (.invokevirtual 160, 3) := by decide +kernel
theorem dM_readOne_103 : decode prog_11_method_12_code 103 = .ok (.aload_n 0, 1) := by decide +kernel
theorem dM_readOne_104 : decode prog_11_method_12_code 104 = .ok (.invokevirtual 163, 3) := by decide +kernel
theorem dM_readOne_107 : decode prog_11_method_12_code 107 = .ok (.istore_n 3, 1) := by decide +kernel
theorem dM_readOne_108 : decode prog_11_method_12_code 108 = .ok (.aload_n 0, 1) := by decide +kernel
theorem dM_readOne_109 : decode prog_11_method_12_code 109 = .ok (.getfield 115, 3) := by decide +kernel
theorem dM_readOne_112 : decode prog_11_method_12_code 112 = .ok (.ifCond .eq 4, 3) := by decide +kernel
theorem dM_readOne_115 : decode prog_11_method_12_code 115 = .ok (.return_, 1) := by decide +kernel
theorem dM_readOne_116 : decode prog_11_method_12_code 116 = .ok (.iload_n 2, 1) := by decide +kernel
theorem dM_readOne_117 : decode prog_11_method_12_code 117 = .ok (.istore 4, 2) := by decide +kernel
theorem dM_readOne_119 : decode prog_11_method_12_code 119 = .ok (.iload 4, 2) := by decide +kernel
theorem dM_readOne_121 : decode prog_11_method_12_code 121 = .ok (.aload_n 0, 1) := by decide +kernel
theorem dM_readOne_122 : decode prog_11_method_12_code 122 = .ok (.getfield 151, 3) := by decide +kernel
theorem dM_readOne_125 : decode prog_11_method_12_code 125 = .ok (.if_icmp .ge 17, 3) := by decide +kernel
theorem dM_readOne_128 : decode prog_11_method_12_code 128 = .ok (.aload_n 0, 1) := by decide +kernel
theorem dM_readOne_129 : decode prog_11_method_12_code 129 = .ok (.getfield 26, 3) := by decide +kernel
theorem dM_readOne_132 : decode prog_11_method_12_code 132 = .ok (.iload 4, 2) := by decide +kernel
theorem dM_readOne_134 : decode prog_11_method_12_code 134 = .ok (.iload_n 3, 1) := by decide +kernel
theorem dM_readOne_135 : decode prog_11_method_12_code 135 = .ok (.iastore, 1) := by decide +kernel
theorem dM_readOne_136 : decode prog_11_method_12_code 136 = .ok (.iinc 4 1, 3) := by decide +kernel
theorem dM_readOne_139 : decode prog_11_method_12_code 139 = .ok (.goto (-20), 3) := by decide +kernel
theorem dM_readOne_142 : decode prog_11_method_12_code 142 = .ok (.aload_n 0, 1) := by decide +kernel
theorem dM_readOne_143 : decode prog_11_method_12_code 143 = .ok (.dup, 1) := by decide +kernel
theorem dM_readOne_144 : decode prog_11_method_12_code 144 = .ok (.getfield 140, 3) := by decide +kernel
theorem dM_readOne_147 : decode prog_11_method_12_code 147 = .ok (.iload_n 3, 1) := by decide +kernel
theorem dM_readOne_148 : decode prog_11_method_12_code 148 = .ok (.iadd, 1) := by decide +kernel
theorem dM_readOne_149 : decode prog_11_method_12_code 149 = .ok (.putfield 140, 3) := by decide +kernel
theorem dM_readOne_152 : decode prog_11_method_12_code 152 = .ok (.return_, 1) := by decide +kernel
set_option maxRecDepth 100000 in
set_option maxHeartbeats 4000000 in
theorem tM_readOne_J142 {X : KC} {q : Int × KM} (hX : kOk X 4 prog_11_method_12_code 5 "KeyPathModel") (hR : kRet X none q) (x3 : Int) (σ : KM) {Θ : (Int × KM) → Prop} (hT : ∀ z, Θ (z) → z = q) : kJ X 142 [lq 10, none, none, li x3, none] [] σ (fM_readOne_J142 x3 σ) Θ := by
  refine k_aload_n hX dM_readOne_142 rfl ?_
  refine k_dupr hX dM_readOne_143 ?_
  refine gf_208 hX dM_readOne_144 ?_
  refine k_iload_n hX dM_readOne_147 rfl ?_
  refine k_iadd hX dM_readOne_148 ?_
  refine gp_200 hX dM_readOne_149 (fun τ1 => ?_)
  exact k_vret hX hR hT dM_readOne_152
set_option maxRecDepth 100000 in
set_option maxHeartbeats 4000000 in
theorem tM_readOne_B119 {X : KC} {q : Int × KM} (hX : kOk X 4 prog_11_method_12_code 5 "KeyPathModel") (hR : kRet X none q) (x3 x4 : Int) (σ : KM) {Θ : ((Int × KM) ⊕ (Int × KM)) → Prop} (hT : ∀ z, Θ (.inr (z)) → z = q) (hb0 : ∀ s : Int × KM, Θ (.inl s) → kW X 119 [lq 10, none, none, li x3, li s.1] [] s.2) : kJ X 119 [lq 10, none, none, li x3, li x4] [] σ (fM_readOne_B119 x3 x4 σ) Θ := by
  refine k_iload hX dM_readOne_119 rfl ?_
  refine k_aload_n hX dM_readOne_121 rfl ?_
  refine gf_202 hX dM_readOne_122 ?_
  refine k_icmp_ge (tgt := 142) hX dM_readOne_125 (by decide) ?_ ?_
  · refine k_exit ?_
    refine k_less [true, true, true, true, false] (L' := [lq 10, none, none, li x3, none]) rfl ?_
    exact tM_readOne_J142 hX hR x3 σ hT
  · refine k_aload_n hX dM_readOne_128 rfl ?_
    refine gf_204 hX dM_readOne_129 ?_
    refine k_iload hX dM_readOne_132 rfl ?_
    refine k_iload_n hX dM_readOne_134 rfl ?_
    refine k_iast hX (by decide) rfl dM_readOne_135 rfl (fun τ1 => ?_)
    refine k_iincL (Lf := fun y2 => [lq 10, none, none, li x3, li y2]) hX dM_readOne_136 rfl (by decide) rfl (fun _ => rfl) (fun y2 => ?_)
    refine k_goto (tgt := 119) hX dM_readOne_139 (by decide) ?_
    exact k_back (hb0 (y2, τ1))
set_option maxRecDepth 100000 in
set_option maxHeartbeats 4000000 in
theorem tM_readOne_L119 {X : KC} {q : Int × KM} (hX : kOk X 4 prog_11_method_12_code 5 "KeyPathModel") (hR : kRet X none q) (x3 x4 : Int) (σ : KM) {Θ : (Int × KM) → Prop} (hT : ∀ z, Θ (z) → z = q) : kJ X 119 [lq 10, none, none, li x3, li x4] [] σ (fM_readOne_L119 x3 x4 σ) Θ :=
  k_iter (f := fun s => fM_readOne_B119 x3 s.1 s.2) (Lf := fun s => [lq 10, none, none, li x3, li s.1]) (mf := fun s => s.2) (Θ := Θ) (fun s => tM_readOne_B119 hX hR x3 s.1 s.2 hT (fun _ h9 => h9)) kF (x4, σ)
set_option maxRecDepth 100000 in
set_option maxHeartbeats 4000000 in
theorem tM_readOne_J103 {X : KC} {q : Int × KM} (hX : kOk X 4 prog_11_method_12_code 5 "KeyPathModel") (hR : kRet X none q) (x2 : Int) (σ : KM) {Θ : (Int × KM) → Prop} (hT : ∀ z, Θ (z) → z = q) : kJ X 103 [lq 10, none, li x2, none, none] [] σ (fM_readOne_J103 x2 σ) Θ := by
  refine k_aload_n hX dM_readOne_103 rfl ?_
  refine cl_157 hX (by decide) (Nat.le_of_ble_eq_true rfl) dM_readOne_104 (fun r2 τ1 => ?_)
  refine k_istore_n (L' := [lq 10, none, li x2, li r2, none]) hX dM_readOne_107 rfl (by decide) rfl ?_
  refine k_aload_n hX dM_readOne_108 rfl ?_
  refine gf_191 hX dM_readOne_109 ?_
  refine k_if_eq (tgt := 116) hX dM_readOne_112 (by decide) ?_ ?_
  · refine k_iload_n hX dM_readOne_116 rfl ?_
    refine k_istore (L' := [lq 10, none, li x2, li r2, li x2]) hX dM_readOne_117 rfl (by decide) rfl ?_
    refine k_less [true, true, false, true, true] (L' := [lq 10, none, none, li r2, li x2]) rfl ?_
    exact tM_readOne_L119 hX hR r2 x2 τ1 hT
  · exact k_vret hX hR hT dM_readOne_115
set_option maxRecDepth 100000 in
set_option maxHeartbeats 4000000 in
theorem tM_readOne_J89 {X : KC} {q : Int × KM} (hX : kOk X 4 prog_11_method_12_code 5 "KeyPathModel") (hR : kRet X none q) (x2 : Int) (σ : KM) {Θ : (Int × KM) → Prop} (hT : ∀ z, Θ (z) → z = q) : kJ X 89 [lq 10, none, li x2, none, none] [] σ (fM_readOne_J89 x2 σ) Θ := by
  refine k_aload_n hX dM_readOne_89 rfl ?_
  refine k_bipush hX dM_readOne_90 (by decide) ?_
  refine cl_156 hX (by decide) (Nat.le_of_ble_eq_true rfl) dM_readOne_92 (fun _ τ1 => ?_)
  refine k_goto (tgt := 103) hX dM_readOne_95 (by decide) ?_
  exact tM_readOne_J103 hX hR x2 τ1 hT
set_option maxRecDepth 100000 in
set_option maxHeartbeats 4000000 in
theorem tM_readOne_B67 {X : KC} {q : Int × KM} (hX : kOk X 4 prog_11_method_12_code 5 "KeyPathModel") (hR : kRet X none q) (x2 : Int) (σ : KM) {Θ : ((KM) ⊕ (Int × KM)) → Prop} (hT : ∀ z, Θ (.inr (z)) → z = q) (hb0 : ∀ s : KM, Θ (.inl s) → kW X 67 [lq 10, none, li x2, none, none] [] s) : kJ X 67 [lq 10, none, li x2, none, none] [] σ (fM_readOne_B67 x2 σ) Θ := by
  refine k_aload_n hX dM_readOne_67 rfl ?_
  refine gf_191 hX dM_readOne_68 ?_
  refine k_if_ne (tgt := 89) hX dM_readOne_71 (by decide) ?_ ?_
  · refine k_exit ?_
    exact tM_readOne_J89 hX hR x2 σ hT
  · refine k_aload_n hX dM_readOne_74 rfl ?_
    refine cl_152 hX (by decide) (Nat.le_of_ble_eq_true rfl) dM_readOne_75 (fun r2 τ1 => ?_)
    refine k_if_eq (tgt := 89) hX dM_readOne_78 (by decide) ?_ ?_
    · refine k_exit ?_
      exact tM_readOne_J89 hX hR x2 τ1 hT
    · refine k_aload_n hX dM_readOne_81 rfl ?_
      refine k_iload_n hX dM_readOne_82 rfl ?_
      refine cl_155 hX (by decide) (Nat.le_of_ble_eq_true rfl) dM_readOne_83 (fun _ τ3 => ?_)
      refine k_goto (tgt := 67) hX dM_readOne_86 (by decide) ?_
      exact k_back (hb0 (τ3))
set_option maxRecDepth 100000 in
set_option maxHeartbeats 4000000 in
theorem tM_readOne_L67 {X : KC} {q : Int × KM} (hX : kOk X 4 prog_11_method_12_code 5 "KeyPathModel") (hR : kRet X none q) (x2 : Int) (σ : KM) {Θ : (Int × KM) → Prop} (hT : ∀ z, Θ (z) → z = q) : kJ X 67 [lq 10, none, li x2, none, none] [] σ (fM_readOne_L67 x2 σ) Θ :=
  k_iter (f := fun s => fM_readOne_B67 x2 s) (Lf := fun s => [lq 10, none, li x2, none, none]) (mf := fun s => s) (Θ := Θ) (fun s => tM_readOne_B67 hX hR x2 s hT (fun _ h9 => h9)) kF (σ)
set_option maxRecDepth 100000 in
set_option maxHeartbeats 4000000 in
theorem sM_readOne (σ : KM) : kSem 4 (⟨"KeyPathModel", "readOne", "()V"⟩ : MethodName) prog_11_method_12_code 5 none [kr 10] σ (fM_readOne σ) := by
  refine kSem.of (L0 := [lq 10, none, none, none, none]) (by decide) (Nat.le_of_ble_eq_true rfl) rfl (fun X q hX hR => ?_)
  have hT : ∀ z : Int × KM, (fun z => z = q) z → z = q := fun _ h => h
  refine k_aload_n hX dM_readOne_0 rfl ?_
  refine cl_151 hX (by decide) (Nat.le_of_ble_eq_true rfl) dM_readOne_1 (fun r2 τ1 => ?_)
  refine k_istore_n (L' := [lq 10, li r2, none, none, none]) hX dM_readOne_4 rfl (by decide) rfl ?_
  refine k_iload_n hX dM_readOne_5 rfl ?_
  refine k_bipush hX dM_readOne_6 (by decide) ?_
  refine k_icmp_ne (tgt := 22) hX dM_readOne_8 (by decide) ?_ ?_
  · refine k_aload_n hX dM_readOne_22 rfl ?_
    refine gf_202 hX dM_readOne_23 ?_
    refine k_istoreL_n (Lf := fun y3 => [lq 10, li r2, li y3, none, none]) hX dM_readOne_26 rfl (by decide) (fun _ => rfl) (fun y3 => ?_)
    refine k_iload_n hX dM_readOne_27 rfl ?_
    refine k_bipush hX dM_readOne_28 (by decide) ?_
    refine k_icmp_ne (tgt := 46) hX dM_readOne_30 (by decide) ?_ ?_
    · refine k_iload_n hX dM_readOne_46 rfl ?_
      refine k_bipush hX dM_readOne_47 (by decide) ?_
      refine k_icmp_ne (tgt := 98) hX dM_readOne_49 (by decide) ?_ ?_
      · refine k_aload_n hX dM_readOne_98 rfl ?_
        refine k_iload_n hX dM_readOne_99 rfl ?_
        refine cl_155 hX (by decide) (Nat.le_of_ble_eq_true rfl) dM_readOne_100 (fun _ τ4 => ?_)
        refine k_less [true, false, true, true, true] (L' := [lq 10, none, li y3, none, none]) rfl ?_
        exact tM_readOne_J103 hX hR y3 τ4 hT
      · refine k_aload_n hX dM_readOne_52 rfl ?_
        refine k_dupr hX dM_readOne_53 ?_
        refine gf_206 hX dM_readOne_54 ?_
        refine k_iconst hX dM_readOne_57 ?_
        refine k_iadd hX dM_readOne_58 ?_
        refine gp_197 hX dM_readOne_59 (fun τ5 => ?_)
        refine k_aload_n hX dM_readOne_62 rfl ?_
        refine k_iload_n hX dM_readOne_63 rfl ?_
        refine cl_155 hX (by decide) (Nat.le_of_ble_eq_true rfl) dM_readOne_64 (fun _ τ6 => ?_)
        refine k_less [true, false, true, true, true] (L' := [lq 10, none, li y3, none, none]) rfl ?_
        exact tM_readOne_L67 hX hR y3 τ6 hT
    · refine k_aload_n hX dM_readOne_33 rfl ?_
      refine k_dupr hX dM_readOne_34 ?_
      refine gf_206 hX dM_readOne_35 ?_
      refine k_iconst hX dM_readOne_38 ?_
      refine k_iadd hX dM_readOne_39 ?_
      refine gp_197 hX dM_readOne_40 (fun τ7 => ?_)
      refine k_goto (tgt := 103) hX dM_readOne_43 (by decide) ?_
      refine k_less [true, false, true, true, true] (L' := [lq 10, none, li y3, none, none]) rfl ?_
      exact tM_readOne_J103 hX hR y3 τ7 hT
  · refine k_aload_n hX dM_readOne_11 rfl ?_
    refine k_dupr hX dM_readOne_12 ?_
    refine gf_206 hX dM_readOne_13 ?_
    refine k_iconst hX dM_readOne_16 ?_
    refine k_iadd hX dM_readOne_17 ?_
    refine gp_197 hX dM_readOne_18 (fun τ8 => ?_)
    exact k_vret hX hR hT dM_readOne_21
theorem cl_158 {X : KC} {d n : Nat} {cc : ByteArray} {pc : Nat} {L : List (Option KV)} {st : List KV} {σ : KM} {Z : Type} {Θ : Z → Prop} {G : Int → KM → Option Z} (hX : kOk X d cc n "KeyPathModel") (hdd : 4 + 1 ≤ d) (hst : k_cat st ≤ 8) (hd : decode cc pc = .ok (.invokevirtual 166, 3)) (h : ∀ r τ, kJ X (pc + 3) L (st) τ (G r τ) Θ) : kJ X pc L (kr 10 :: st) σ (kCall (fM_readOne σ) G) Θ :=
  k_callV (np := 0) (av := []) (ret := none) hX (by decide) rfl rfl rfl (sM_readOne σ) ⟨⟨hdd, by decide⟩, tw_1132, tw_11, by decide +kernel⟩ rfl tw_1129 tw_1131 ts_39 hst hd h
theorem dM_load_0 : decode prog_11_method_13_code 0 = .ok (.aload_n 0, 1) := by decide +kernel
theorem dM_load_1 : decode prog_11_method_13_code 1 = .ok (.iconst 0, 1) := by decide +kernel
theorem dM_load_2 : decode prog_11_method_13_code 2 = .ok (.putfield 1, 3) := by decide +kernel
theorem dM_load_5 : decode prog_11_method_13_code 5 = .ok (.iload_n 1, 1) := by decide +kernel
theorem dM_load_6 : decode prog_11_method_13_code 6 = .ok (.i2l, 1) := by decide +kernel
theorem dM_load_7 : decode prog_11_method_13_code 7 = .ok (.lconst 0, 1) := by decide +kernel
theorem dM_load_8 : decode prog_11_method_13_code 8 = .ok (.aload_n 0, 1) := by decide +kernel
theorem dM_load_9 : decode prog_11_method_13_code 9 = .ok (.getfield 106, 3) := by decide +kernel
theorem dM_load_12 : decode prog_11_method_13_code 12 = .ok (.i2l, 1) := by decide +kernel
theorem dM_load_13 : decode prog_11_method_13_code 13 = .ok (.invokestatic 134, 3) := by decide +kernel
theorem dM_load_16 : decode prog_11_method_13_code 16 = .ok (.ifCond .ne 6, 3) := by decide +kernel
theorem dM_load_19 : decode prog_11_method_13_code 19 = .ok (.bipush (-3), 2) := by decide +kernel
theorem dM_load_21 : decode prog_11_method_13_code 21 = .ok (.ireturn, 1) := by decide +kernel
theorem dM_load_22 : decode prog_11_method_13_code 22 = .ok (.aload_n 0, 1) := by decide +kernel
theorem dM_load_23 : decode prog_11_method_13_code 23 = .ok (.iconst 0, 1) := by decide +kernel
theorem dM_load_24 : decode prog_11_method_13_code 24 = .ok (.putfield 106, 3) := by decide +kernel
theorem dM_load_27 : decode prog_11_method_13_code 27 = .ok (.aload_n 0, 1) := by decide +kernel
theorem dM_load_28 : decode prog_11_method_13_code 28 = .ok (.iload_n 1, 1) := by decide +kernel
theorem dM_load_29 : decode prog_11_method_13_code 29 = .ok (.putfield 112, 3) := by decide +kernel
theorem dM_load_32 : decode prog_11_method_13_code 32 = .ok (.aload_n 0, 1) := by decide +kernel
theorem dM_load_33 : decode prog_11_method_13_code 33 = .ok (.iconst 0, 1) := by decide +kernel
theorem dM_load_34 : decode prog_11_method_13_code 34 = .ok (.putfield 109, 3) := by decide +kernel
theorem dM_load_37 : decode prog_11_method_13_code 37 = .ok (.aload_n 0, 1) := by decide +kernel
theorem dM_load_38 : decode prog_11_method_13_code 38 = .ok (.iconst 0, 1) := by decide +kernel
theorem dM_load_39 : decode prog_11_method_13_code 39 = .ok (.putfield 115, 3) := by decide +kernel
theorem dM_load_42 : decode prog_11_method_13_code 42 = .ok (.aload_n 0, 1) := by decide +kernel
theorem dM_load_43 : decode prog_11_method_13_code 43 = .ok (.iconst (-1), 1) := by decide +kernel
theorem dM_load_44 : decode prog_11_method_13_code 44 = .ok (.putfield 63, 3) := by decide +kernel
theorem dM_load_47 : decode prog_11_method_13_code 47 = .ok (.aload_n 0, 1) := by decide +kernel
theorem dM_load_48 : decode prog_11_method_13_code 48 = .ok (.iconst 0, 1) := by decide +kernel
theorem dM_load_49 : decode prog_11_method_13_code 49 = .ok (.putfield 140, 3) := by decide +kernel
theorem dM_load_52 : decode prog_11_method_13_code 52 = .ok (.aload_n 0, 1) := by decide +kernel
theorem dM_load_53 : decode prog_11_method_13_code 53 = .ok (.iconst 0, 1) := by decide +kernel
theorem dM_load_54 : decode prog_11_method_13_code 54 = .ok (.putfield 151, 3) := by decide +kernel
theorem dM_load_57 : decode prog_11_method_13_code 57 = .ok (.aload_n 0, 1) := by decide +kernel
theorem dM_load_58 : decode prog_11_method_13_code 58 = .ok (.getfield 115, 3) := by decide +kernel
theorem dM_load_61 : decode prog_11_method_13_code 61 = .ok (.ifCond .ne 18, 3) := by decide +kernel
theorem dM_load_64 : decode prog_11_method_13_code 64 = .ok (.aload_n 0, 1) := by decide +kernel
theorem dM_load_65 : decode prog_11_method_13_code 65 = .ok (.invokevirtual 118, 3) := by decide +kernel
theorem dM_load_68 : decode prog_11_method_13_code 68 = .ok (.iconst (-1), 1) := by decide +kernel
theorem dM_load_69 : decode prog_11_method_13_code 69 = .ok (.if_icmp .eq 10, 3) := by decide +kernel
theorem dM_load_72 : decode prog_11_method_13_code 72 = .ok (.aload_n 0, 1) := by decide +kernel
theorem dM_load_73 : decode prog_11_method_13_code 73 = .ok (.invokevirtual 166, 3) := by decide +kernel
theorem dM_load_76 : decode prog_11_method_13_code 76 = .ok (.goto (-19), 3) := by decide +kernel
theorem dM_load_79 : decode prog_11_method_13_code 79 = .ok (.aload_n 0, 1) := by decide +kernel
theorem dM_load_80 : decode prog_11_method_13_code 80 = .ok (.getfield 115, 3) := by decide +kernel
theorem dM_load_83 : decode prog_11_method_13_code 83 = .ok (.ifCond .eq 11, 3) := by decide +kernel
theorem dM_load_86 : decode prog_11_method_13_code 86 = .ok (.bipush (-30), 2) := by decide +kernel
theorem dM_load_88 : decode prog_11_method_13_code 88 = .ok (.aload_n 0, 1) := by decide +kernel
theorem dM_load_89 : decode prog_11_method_13_code 89 = .ok (.getfield 115, 3) := by decide +kernel
theorem dM_load_92 : decode prog_11_method_13_code 92 = .ok (.isub, 1) := by decide +kernel
theorem dM_load_93 : decode prog_11_method_13_code 93 = .ok (.ireturn, 1) := by decide +kernel
theorem dM_load_94 : decode prog_11_method_13_code 94 = .ok (.aload_n 0, 1) := by decide +kernel
theorem dM_load_95 : decode prog_11_method_13_code 95 = .ok (.iconst 0, 1) := by decide +kernel
theorem dM_load_96 : decode prog_11_method_13_code 96 = .ok (.putfield 169, 3) := by decide +kernel
theorem dM_load_99 : decode prog_11_method_13_code 99 = .ok (.iconst 0, 1) := by decide +kernel
theorem dM_load_100 : decode prog_11_method_13_code 100 = .ok (.istore_n 2, 1) := by decide +kernel
theorem dM_load_101 : decode prog_11_method_13_code 101 = .ok (.iload_n 2, 1) := by decide +kernel
theorem dM_load_102 : decode prog_11_method_13_code 102 = .ok (.aload_n 0, 1) := by decide +kernel
theorem dM_load_103 : decode prog_11_method_13_code 103 = .ok (.getfield 151, 3) := by decide +kernel
theorem dM_load_106 : decode prog_11_method_13_code 106 = .ok (.if_icmp .ge 32, 3) := by decide +kernel
theorem dM_load_109 : decode prog_11_method_13_code 109 = .ok (.aload_n 0, 1) := by decide +kernel
theorem dM_load_110 : decode prog_11_method_13_code 110 = .ok (.aload_n 0, 1) := by decide +kernel
theorem dM_load_111 : decode prog_11_method_13_code 111 = .ok (.getfield 23, 3) := by decide +kernel
theorem dM_load_114 : decode prog_11_method_13_code 114 = .ok (.iload_n 2, 1) := by decide +kernel
theorem dM_load_115 : decode prog_11_method_13_code 115 = .ok (.iaload, 1) := by decide +kernel
theorem dM_load_116 : decode prog_11_method_13_code 116 = .ok (.aload_n 0, 1) := by decide +kernel
theorem dM_load_117 : decode prog_11_method_13_code 117 = .ok (.getfield 26, 3) := by decide +kernel
theorem dM_load_120 : decode prog_11_method_13_code 120 = .ok (.iload_n 2, 1) := by decide +kernel
theorem dM_load_121 : decode prog_11_method_13_code 121 = .ok (.iaload, 1) := by decide +kernel
theorem dM_load_122 : decode prog_11_method_13_code 122 = .ok (.aload_n 0, 1) := by decide +kernel
theorem dM_load_123 : decode prog_11_method_13_code 123 = .ok (.getfield 29, 3) := by decide +kernel
theorem dM_load_126 : decode prog_11_method_13_code 126 = .ok (.iload_n 2, 1) := by decide +kernel
theorem dM_load_127 : decode prog_11_method_13_code 127 = .ok (.iaload, 1) := by decide +kernel
theorem dM_load_128 : decode prog_11_method_13_code 128 = .ok (.invokevirtual 172, 3) := by decide +kernel
theorem dM_load_131 : decode prog_11_method_13_code 131 = .ok (.istore_n 3, 1) := by decide +kernel
theorem dM_load_132 : decode prog_11_method_13_code 132 = .ok (.iinc 2 1, 3) := by decide +kernel
theorem dM_load_135 : decode prog_11_method_13_code 135 = .ok (.goto (-34), 3) := by decide +kernel
theorem dM_load_138 : decode prog_11_method_13_code 138 = .ok (.aload_n 0, 1) := by decide +kernel
theorem dM_load_139 : decode prog_11_method_13_code 139 = .ok (.iconst 0, 1) := by decide +kernel
theorem dM_load_140 : decode prog_11_method_13_code 140 = .ok (.putfield 176, 3) := by decide +kernel
theorem dM_load_143 : decode prog_11_method_13_code 143 = .ok (.aload_n 0, 1) := by decide +kernel
theorem dM_load_144 : decode prog_11_method_13_code 144 = .ok (.getfield 169, 3) := by decide +kernel
theorem dM_load_147 : decode prog_11_method_13_code 147 = .ok (.ireturn, 1) := by decide +kernel
set_option maxRecDepth 100000 in
set_option maxHeartbeats 4000000 in
theorem tM_load_J138 {X : KC} {q : Int × KM} (hX : kOk X 5 prog_11_method_13_code 4 "KeyPathModel") (hR : kRet X (some .int) q) (σ : KM) {Θ : (Int × KM) → Prop} (hT : ∀ z, Θ (z) → z = q) : kJ X 138 [lq 10, none, none, none] [] σ (fM_load_J138 σ) Θ := by
  refine k_aload_n hX dM_load_138 rfl ?_
  refine k_iconst hX dM_load_139 ?_
  refine gp_188 hX dM_load_140 (fun τ1 => ?_)
  refine k_aload_n hX dM_load_143 rfl ?_
  refine gf_159 hX dM_load_144 ?_
  exact k_iret hX hR hT dM_load_147
set_option maxRecDepth 100000 in
set_option maxHeartbeats 4000000 in
theorem tM_load_B101 {X : KC} {q : Int × KM} (hX : kOk X 5 prog_11_method_13_code 4 "KeyPathModel") (hR : kRet X (some .int) q) (x2 : Int) (σ : KM) {Θ : ((Int × KM) ⊕ (Int × KM)) → Prop} (hT : ∀ z, Θ (.inr (z)) → z = q) (hb0 : ∀ s : Int × KM, Θ (.inl s) → kW X 101 [lq 10, none, li s.1, none] [] s.2) : kJ X 101 [lq 10, none, li x2, none] [] σ (fM_load_B101 x2 σ) Θ := by
  refine k_iload_n hX dM_load_101 rfl ?_
  refine k_aload_n hX dM_load_102 rfl ?_
  refine gf_202 hX dM_load_103 ?_
  refine k_icmp_ge (tgt := 138) hX dM_load_106 (by decide) ?_ ?_
  · refine k_exit ?_
    refine k_less [true, true, false, true] (L' := [lq 10, none, none, none]) rfl ?_
    exact tM_load_J138 hX hR σ hT
  · refine k_aload_n hX dM_load_109 rfl ?_
    refine k_aload_n hX dM_load_110 rfl ?_
    refine gf_203 hX dM_load_111 ?_
    refine k_iload_n hX dM_load_114 rfl ?_
    refine k_iald hX (by decide) rfl dM_load_115 rfl (fun y1 => ?_)
    refine k_aload_n hX dM_load_116 rfl ?_
    refine gf_204 hX dM_load_117 ?_
    refine k_iload_n hX dM_load_120 rfl ?_
    refine k_iald hX (by decide) rfl dM_load_121 rfl (fun y2 => ?_)
    refine k_aload_n hX dM_load_122 rfl ?_
    refine gf_205 hX dM_load_123 ?_
    refine k_iload_n hX dM_load_126 rfl ?_
    refine k_iald hX (by decide) rfl dM_load_127 rfl (fun y3 => ?_)
    refine cl_150 hX (by decide) (Nat.le_of_ble_eq_true rfl) dM_load_128 (fun r5 τ4 => ?_)
    refine k_istore_n (L' := [lq 10, none, li x2, li r5]) hX dM_load_131 rfl (by decide) rfl ?_
    refine k_iincL (Lf := fun y6 => [lq 10, none, li y6, li r5]) hX dM_load_132 rfl (by decide) rfl (fun _ => rfl) (fun y6 => ?_)
    refine k_goto (tgt := 101) hX dM_load_135 (by decide) ?_
    refine k_less [true, true, true, false] (L' := [lq 10, none, li y6, none]) rfl ?_
    exact k_back (hb0 (y6, τ4))
set_option maxRecDepth 100000 in
set_option maxHeartbeats 4000000 in
theorem tM_load_L101 {X : KC} {q : Int × KM} (hX : kOk X 5 prog_11_method_13_code 4 "KeyPathModel") (hR : kRet X (some .int) q) (x2 : Int) (σ : KM) {Θ : (Int × KM) → Prop} (hT : ∀ z, Θ (z) → z = q) : kJ X 101 [lq 10, none, li x2, none] [] σ (fM_load_L101 x2 σ) Θ :=
  k_iter (f := fun s => fM_load_B101 s.1 s.2) (Lf := fun s => [lq 10, none, li s.1, none]) (mf := fun s => s.2) (Θ := Θ) (fun s => tM_load_B101 hX hR s.1 s.2 hT (fun _ h9 => h9)) kF (x2, σ)
set_option maxRecDepth 100000 in
set_option maxHeartbeats 4000000 in
theorem tM_load_J79 {X : KC} {q : Int × KM} (hX : kOk X 5 prog_11_method_13_code 4 "KeyPathModel") (hR : kRet X (some .int) q) (σ : KM) {Θ : (Int × KM) → Prop} (hT : ∀ z, Θ (z) → z = q) : kJ X 79 [lq 10, none, none, none] [] σ (fM_load_J79 σ) Θ := by
  refine k_aload_n hX dM_load_79 rfl ?_
  refine gf_191 hX dM_load_80 ?_
  refine k_if_eq (tgt := 94) hX dM_load_83 (by decide) ?_ ?_
  · refine k_aload_n hX dM_load_94 rfl ?_
    refine k_iconst hX dM_load_95 ?_
    refine gp_189 hX dM_load_96 (fun τ1 => ?_)
    refine k_iconst hX dM_load_99 ?_
    refine k_istore_n (L' := [lq 10, none, li 0, none]) hX dM_load_100 rfl (by decide) rfl ?_
    exact tM_load_L101 hX hR 0 τ1 hT
  · refine k_bipush hX dM_load_86 (by decide) ?_
    refine k_aload_n hX dM_load_88 rfl ?_
    refine gf_191 hX dM_load_89 ?_
    refine k_isub hX dM_load_92 ?_
    exact k_iret hX hR hT dM_load_93
set_option maxRecDepth 100000 in
set_option maxHeartbeats 4000000 in
theorem tM_load_B57 {X : KC} {q : Int × KM} (hX : kOk X 5 prog_11_method_13_code 4 "KeyPathModel") (hR : kRet X (some .int) q) (σ : KM) {Θ : ((KM) ⊕ (Int × KM)) → Prop} (hT : ∀ z, Θ (.inr (z)) → z = q) (hb0 : ∀ s : KM, Θ (.inl s) → kW X 57 [lq 10, none, none, none] [] s) : kJ X 57 [lq 10, none, none, none] [] σ (fM_load_B57 σ) Θ := by
  refine k_aload_n hX dM_load_57 rfl ?_
  refine gf_191 hX dM_load_58 ?_
  refine k_if_ne (tgt := 79) hX dM_load_61 (by decide) ?_ ?_
  · refine k_exit ?_
    exact tM_load_J79 hX hR σ hT
  · refine k_aload_n hX dM_load_64 rfl ?_
    refine cl_151 hX (by decide) (Nat.le_of_ble_eq_true rfl) dM_load_65 (fun r2 τ1 => ?_)
    refine k_iconst hX dM_load_68 ?_
    refine k_icmp_eq (tgt := 79) hX dM_load_69 (by decide) ?_ ?_
    · refine k_exit ?_
      exact tM_load_J79 hX hR τ1 hT
    · refine k_aload_n hX dM_load_72 rfl ?_
      refine cl_158 hX (by decide) (Nat.le_of_ble_eq_true rfl) dM_load_73 (fun _ τ3 => ?_)
      refine k_goto (tgt := 57) hX dM_load_76 (by decide) ?_
      exact k_back (hb0 (τ3))
set_option maxRecDepth 100000 in
set_option maxHeartbeats 4000000 in
theorem tM_load_L57 {X : KC} {q : Int × KM} (hX : kOk X 5 prog_11_method_13_code 4 "KeyPathModel") (hR : kRet X (some .int) q) (σ : KM) {Θ : (Int × KM) → Prop} (hT : ∀ z, Θ (z) → z = q) : kJ X 57 [lq 10, none, none, none] [] σ (fM_load_L57 σ) Θ :=
  k_iter (f := fun s => fM_load_B57 s) (Lf := fun s => [lq 10, none, none, none]) (mf := fun s => s) (Θ := Θ) (fun s => tM_load_B57 hX hR s hT (fun _ h9 => h9)) kF (σ)
set_option maxRecDepth 100000 in
set_option maxHeartbeats 4000000 in
theorem sM_load (x1 : Int) (σ : KM) : kSem 5 (⟨"KeyPathModel", "load", "(I)I"⟩ : MethodName) prog_11_method_13_code 4 (some .int) [kr 10, ki x1] σ (fM_load x1 σ) := by
  refine kSem.of (L0 := [lq 10, li x1, none, none]) (by decide) (Nat.le_of_ble_eq_true rfl) rfl (fun X q hX hR => ?_)
  have hT : ∀ z : Int × KM, (fun z => z = q) z → z = q := fun _ h => h
  refine k_aload_n hX dM_load_0 rfl ?_
  refine k_iconst hX dM_load_1 ?_
  refine gp_157 hX dM_load_2 (fun τ1 => ?_)
  refine k_iload_n hX dM_load_5 rfl ?_
  refine k_i2l hX dM_load_6 ?_
  refine k_lconst0 hX dM_load_7 ?_
  refine k_aload_n hX dM_load_8 rfl ?_
  refine gf_186 hX dM_load_9 ?_
  refine k_i2l hX dM_load_12 ?_
  refine cl_120 hX (by decide) (Nat.le_of_ble_eq_true rfl) dM_load_13 (fun r3 τ2 => ?_)
  refine k_if_ne (tgt := 22) hX dM_load_16 (by decide) ?_ ?_
  · refine k_aload_n hX dM_load_22 rfl ?_
    refine k_iconst hX dM_load_23 ?_
    refine gp_193 hX dM_load_24 (fun τ4 => ?_)
    refine k_aload_n hX dM_load_27 rfl ?_
    refine k_iload_n hX dM_load_28 rfl ?_
    refine gp_196 hX dM_load_29 (fun τ5 => ?_)
    refine k_aload_n hX dM_load_32 rfl ?_
    refine k_iconst hX dM_load_33 ?_
    refine gp_197 hX dM_load_34 (fun τ6 => ?_)
    refine k_aload_n hX dM_load_37 rfl ?_
    refine k_iconst hX dM_load_38 ?_
    refine gp_198 hX dM_load_39 (fun τ7 => ?_)
    refine k_aload_n hX dM_load_42 rfl ?_
    refine k_iconst hX dM_load_43 ?_
    refine gp_199 hX dM_load_44 (fun τ8 => ?_)
    refine k_aload_n hX dM_load_47 rfl ?_
    refine k_iconst hX dM_load_48 ?_
    refine gp_200 hX dM_load_49 (fun τ9 => ?_)
    refine k_aload_n hX dM_load_52 rfl ?_
    refine k_iconst hX dM_load_53 ?_
    refine gp_201 hX dM_load_54 (fun τ10 => ?_)
    refine k_less [true, false, true, true] (L' := [lq 10, none, none, none]) rfl ?_
    exact tM_load_L57 hX hR τ10 hT
  · refine k_bipush hX dM_load_19 (by decide) ?_
    exact k_iret hX hR hT dM_load_21
theorem dM_common_0 : decode prog_11_method_37_code 0 = .ok (.iload_n 1, 1) := by decide +kernel
theorem dM_common_1 : decode prog_11_method_37_code 1 = .ok (.ifCond .ne 7, 3) := by decide +kernel
theorem dM_common_4 : decode prog_11_method_37_code 4 = .ok (.iload_n 0, 1) := by decide +kernel
theorem dM_common_5 : decode prog_11_method_37_code 5 = .ok (.goto 10, 3) := by decide +kernel
theorem dM_common_8 : decode prog_11_method_37_code 8 = .ok (.iload_n 1, 1) := by decide +kernel
theorem dM_common_9 : decode prog_11_method_37_code 9 = .ok (.iload_n 0, 1) := by decide +kernel
theorem dM_common_10 : decode prog_11_method_37_code 10 = .ok (.iload_n 1, 1) := by decide +kernel
theorem dM_common_11 : decode prog_11_method_37_code 11 = .ok (.irem, 1) := by decide +kernel
theorem dM_common_12 : decode prog_11_method_37_code 12 = .ok (.invokestatic 235, 3) := by decide +kernel
theorem dM_common_15 : decode prog_11_method_37_code 15 = .ok (.ireturn, 1) := by decide +kernel
set_option maxRecDepth 100000 in
set_option maxHeartbeats 4000000 in
theorem tM_common_J15 {n : Nat} {R : Int → Int → KM → Option (Int × KM)} {X : KC} {q : Int × KM} (hX : kOk X (n + 2) prog_11_method_37_code 2 "KeyPathModel") (hR : kRet X (some .int) q) (ih : ∀ a b σ, kSem (n + 1) (⟨"KeyPathModel", "common", "(II)I"⟩ : MethodName) prog_11_method_37_code 2 (some .int) [ki a, ki b] σ (R a b σ)) (t0 : Int) (σ : KM) {Θ : (Int × KM) → Prop} (hT : ∀ z, Θ (z) → z = q) : kJ X 15 [none, none] [ki t0] σ (fM_common_J15 R t0 σ) Θ := by
  exact k_iret hX hR hT dM_common_15
set_option maxRecDepth 100000 in
set_option maxHeartbeats 4000000 in
theorem sM_common : ∀ (n : Nat) (x0 x1 : Int) (σ : KM), kSem (n + 1) (⟨"KeyPathModel", "common", "(II)I"⟩ : MethodName) prog_11_method_37_code 2 (some .int) [ki x0, ki x1] σ (fM_common n x0 x1 σ)
  | 0, _, _, σ => fun _ _ h => by cases h
  | n + 1, x0, x1, σ => by
    have ih := sM_common n
    refine kSem.of (L0 := [li x0, li x1]) (by decide) (Nat.le_of_ble_eq_true rfl) rfl (fun X q hX hR => ?_)
    have hT : ∀ z : Int × KM, (fun z => z = q) z → z = q := fun _ h => h
    refine k_iload_n hX dM_common_0 rfl ?_
    refine k_if_ne (tgt := 8) hX dM_common_1 (by decide) ?_ ?_
    · refine k_iload_n hX dM_common_8 rfl ?_
      refine k_iload_n hX dM_common_9 rfl ?_
      refine k_iload_n hX dM_common_10 rfl ?_
      refine k_irem hX dM_common_11 (fun y1 => ?_)
      refine k_callS (np := 2) (av := [ki x1, ki y1]) hX (ih _ _ _) ⟨⟨by omega, by decide⟩, tw_1269, tw_11, by decide +kernel⟩ rfl tw_1267 tw_1268 (Nat.le_of_ble_eq_true rfl) dM_common_12 (fun r3 τ2 => ?_)
      refine k_less [false, false] (L' := [none, none]) rfl ?_
      exact tM_common_J15 hX hR ih r3 τ2 hT
    · refine k_iload_n hX dM_common_4 rfl ?_
      refine k_goto (tgt := 15) hX dM_common_5 (by decide) ?_
      refine k_less [false, false] (L' := [none, none]) rfl ?_
      exact tM_common_J15 hX hR ih x0 σ hT
theorem cl_159 {X : KC} {d n : Nat} {cc : ByteArray} {pc : Nat} {L : List (Option KV)} {st : List KV} {σ : KM} {Z : Type} {Θ : Z → Prop} {G : Int → KM → Option Z} {x0 x1 : Int} (hX : kOk X d cc n "KeyPathModel") (hdd : 41 + 1 ≤ d) (hst : k_cat st ≤ 8) (hd : decode cc pc = .ok (.invokestatic 235, 3)) (h : ∀ r τ, kJ X (pc + 3) L (ki r :: st) τ (G r τ) Θ) : kJ X pc L (ki x1 :: ki x0 :: st) σ (kCall (fM_common 40 x0 x1 σ) G) Θ :=
  k_callS (np := 2) (av := [ki x0, ki x1]) (ret := (some .int)) hX (sM_common 40 _ _ σ) ⟨⟨hdd, by decide⟩, tw_1269, tw_11, by decide +kernel⟩ rfl tw_1267 tw_1268 hst hd h
theorem dM_match_0 : decode prog_11_method_38_code 0 = .ok (.aload_n 0, 1) := by decide +kernel
theorem dM_match_1 : decode prog_11_method_38_code 1 = .ok (.iconst 0, 1) := by decide +kernel
theorem dM_match_2 : decode prog_11_method_38_code 2 = .ok (.putfield 1, 3) := by decide +kernel
theorem dM_match_5 : decode prog_11_method_38_code 5 = .ok (.aload_n 0, 1) := by decide +kernel
theorem dM_match_6 : decode prog_11_method_38_code 6 = .ok (.iload_n 1, 1) := by decide +kernel
theorem dM_match_7 : decode prog_11_method_38_code 7 = .ok (.invokevirtual 229, 3) := by decide +kernel
theorem dM_match_10 : decode prog_11_method_38_code 10 = .ok (.ifCond .eq 20, 3) := by decide +kernel
theorem dM_match_13 : decode prog_11_method_38_code 13 = .ok (.iload_n 2, 1) := by decide +kernel
theorem dM_match_14 : decode prog_11_method_38_code 14 = .ok (.invokestatic 220, 3) := by decide +kernel
theorem dM_match_17 : decode prog_11_method_38_code 17 = .ok (.ifCond .eq 13, 3) := by decide +kernel
theorem dM_match_20 : decode prog_11_method_38_code 20 = .ok (.iload_n 3, 1) := by decide +kernel
theorem dM_match_21 : decode prog_11_method_38_code 21 = .ok (.i2l, 1) := by decide +kernel
theorem dM_match_22 : decode prog_11_method_38_code 22 = .ok (.lconst 0, 1) := by decide +kernel
theorem dM_match_23 : decode prog_11_method_38_code 23 = .ok (.lconst 1, 1) := by decide +kernel
theorem dM_match_24 : decode prog_11_method_38_code 24 = .ok (.invokestatic 134, 3) := by decide +kernel
theorem dM_match_27 : decode prog_11_method_38_code 27 = .ok (.ifCond .ne 6, 3) := by decide +kernel
theorem dM_match_30 : decode prog_11_method_38_code 30 = .ok (.bipush (-2), 2) := by decide +kernel
theorem dM_match_32 : decode prog_11_method_38_code 32 = .ok (.ireturn, 1) := by decide +kernel
theorem dM_match_33 : decode prog_11_method_38_code 33 = .ok (.aload_n 0, 1) := by decide +kernel
theorem dM_match_34 : decode prog_11_method_38_code 34 = .ok (.iload_n 1, 1) := by decide +kernel
theorem dM_match_35 : decode prog_11_method_38_code 35 = .ok (.invokevirtual 232, 3) := by decide +kernel
theorem dM_match_38 : decode prog_11_method_38_code 38 = .ok (.aload_n 0, 1) := by decide +kernel
theorem dM_match_39 : decode prog_11_method_38_code 39 = .ok (.getfield 223, 3) := by decide +kernel
theorem dM_match_42 : decode prog_11_method_38_code 42 = .ok (.ifCond .ne 5, 3) := by decide +kernel
theorem dM_match_45 : decode prog_11_method_38_code 45 = .ok (.iload_n 3, 1) := by decide +kernel
theorem dM_match_46 : decode prog_11_method_38_code 46 = .ok (.ireturn, 1) := by decide +kernel
theorem dM_match_47 : decode prog_11_method_38_code 47 = .ok (.aload_n 0, 1) := by decide +kernel
theorem dM_match_48 : decode prog_11_method_38_code 48 = .ok (.iload_n 2, 1) := by decide +kernel
theorem dM_match_49 : decode prog_11_method_38_code 49 = .ok (.invokevirtual 239, 3) := by decide +kernel
theorem dM_match_52 : decode prog_11_method_38_code 52 = .ok (.aload_n 0, 1) := by decide +kernel
theorem dM_match_53 : decode prog_11_method_38_code 53 = .ok (.getfield 223, 3) := by decide +kernel
theorem dM_match_56 : decode prog_11_method_38_code 56 = .ok (.invokestatic 235, 3) := by decide +kernel
theorem dM_match_59 : decode prog_11_method_38_code 59 = .ok (.istore 4, 2) := by decide +kernel
theorem dM_match_61 : decode prog_11_method_38_code 61 = .ok (.iload_n 3, 1) := by decide +kernel
theorem dM_match_62 : decode prog_11_method_38_code 62 = .ok (.ifCond .ne 11, 3) := by decide +kernel
theorem dM_match_65 : decode prog_11_method_38_code 65 = .ok (.aload_n 0, 1) := by decide +kernel
theorem dM_match_66 : decode prog_11_method_38_code 66 = .ok (.iload_n 2, 1) := by decide +kernel
theorem dM_match_67 : decode prog_11_method_38_code 67 = .ok (.invokevirtual 239, 3) := by decide +kernel
theorem dM_match_70 : decode prog_11_method_38_code 70 = .ok (.goto 7, 3) := by decide +kernel
theorem dM_match_73 : decode prog_11_method_38_code 73 = .ok (.aload_n 0, 1) := by decide +kernel
theorem dM_match_74 : decode prog_11_method_38_code 74 = .ok (.getfield 223, 3) := by decide +kernel
theorem dM_match_77 : decode prog_11_method_38_code 77 = .ok (.iload 4, 2) := by decide +kernel
theorem dM_match_79 : decode prog_11_method_38_code 79 = .ok (.idiv, 1) := by decide +kernel
theorem dM_match_80 : decode prog_11_method_38_code 80 = .ok (.ireturn, 1) := by decide +kernel
set_option maxRecDepth 100000 in
set_option maxHeartbeats 4000000 in
theorem tM_match_J30 {X : KC} {q : Int × KM} (hX : kOk X 42 prog_11_method_38_code 5 "KeyPathModel") (hR : kRet X (some .int) q) (σ : KM) {Θ : (Int × KM) → Prop} (hT : ∀ z, Θ (z) → z = q) : kJ X 30 [lq 10, none, none, none, none] [] σ (fM_match_J30 σ) Θ := by
  refine k_bipush hX dM_match_30 (by decide) ?_
  exact k_iret hX hR hT dM_match_32
set_option maxRecDepth 100000 in
set_option maxHeartbeats 4000000 in
theorem tM_match_J77 {X : KC} {q : Int × KM} (hX : kOk X 42 prog_11_method_38_code 5 "KeyPathModel") (hR : kRet X (some .int) q) (x4 t0 : Int) (σ : KM) {Θ : (Int × KM) → Prop} (hT : ∀ z, Θ (z) → z = q) : kJ X 77 [lq 10, none, none, none, li x4] [ki t0] σ (fM_match_J77 x4 t0 σ) Θ := by
  refine k_iload hX dM_match_77 rfl ?_
  refine k_idiv hX dM_match_79 (fun y1 => ?_)
  exact k_iret hX hR hT dM_match_80
set_option maxRecDepth 100000 in
set_option maxHeartbeats 4000000 in
theorem sM_match (x1 x2 x3 : Int) (σ : KM) : kSem 42 (⟨"KeyPathModel", "match", "(III)I"⟩ : MethodName) prog_11_method_38_code 5 (some .int) [kr 10, ki x1, ki x2, ki x3] σ (fM_match x1 x2 x3 σ) := by
  refine kSem.of (L0 := [lq 10, li x1, li x2, li x3, none]) (by decide) (Nat.le_of_ble_eq_true rfl) rfl (fun X q hX hR => ?_)
  have hT : ∀ z : Int × KM, (fun z => z = q) z → z = q := fun _ h => h
  refine k_aload_n hX dM_match_0 rfl ?_
  refine k_iconst hX dM_match_1 ?_
  refine gp_157 hX dM_match_2 (fun τ1 => ?_)
  refine k_aload_n hX dM_match_5 rfl ?_
  refine k_iload_n hX dM_match_6 rfl ?_
  refine cl_121 hX (by decide) (Nat.le_of_ble_eq_true rfl) dM_match_7 (fun r3 τ2 => ?_)
  refine k_if_eq (tgt := 30) hX dM_match_10 (by decide) ?_ ?_
  · refine k_less [true, false, false, false, true] (L' := [lq 10, none, none, none, none]) rfl ?_
    exact tM_match_J30 hX hR τ2 hT
  · refine k_iload_n hX dM_match_13 rfl ?_
    refine cl_143 hX (by decide) (Nat.le_of_ble_eq_true rfl) dM_match_14 (fun r5 τ4 => ?_)
    refine k_if_eq (tgt := 30) hX dM_match_17 (by decide) ?_ ?_
    · refine k_less [true, false, false, false, true] (L' := [lq 10, none, none, none, none]) rfl ?_
      exact tM_match_J30 hX hR τ4 hT
    · refine k_iload_n hX dM_match_20 rfl ?_
      refine k_i2l hX dM_match_21 ?_
      refine k_lconst0 hX dM_match_22 ?_
      refine k_lconst1 hX dM_match_23 ?_
      refine cl_120 hX (by decide) (Nat.le_of_ble_eq_true rfl) dM_match_24 (fun r7 τ6 => ?_)
      refine k_if_ne (tgt := 33) hX dM_match_27 (by decide) ?_ ?_
      · refine k_aload_n hX dM_match_33 rfl ?_
        refine k_iload_n hX dM_match_34 rfl ?_
        refine cl_123 hX (by decide) (Nat.le_of_ble_eq_true rfl) dM_match_35 (fun _ τ8 => ?_)
        refine k_aload_n hX dM_match_38 rfl ?_
        refine gf_166 hX dM_match_39 ?_
        refine k_if_ne (tgt := 47) hX dM_match_42 (by decide) ?_ ?_
        · refine k_aload_n hX dM_match_47 rfl ?_
          refine k_iload_n hX dM_match_48 rfl ?_
          refine cl_130 hX (by decide) (Nat.le_of_ble_eq_true rfl) dM_match_49 (fun r10 τ9 => ?_)
          refine k_aload_n hX dM_match_52 rfl ?_
          refine gf_166 hX dM_match_53 ?_
          refine cl_159 hX (by decide) (Nat.le_of_ble_eq_true rfl) dM_match_56 (fun r12 τ11 => ?_)
          refine k_istore (L' := [lq 10, li x1, li x2, li x3, li r12]) hX dM_match_59 rfl (by decide) rfl ?_
          refine k_iload_n hX dM_match_61 rfl ?_
          refine k_if_ne (tgt := 73) hX dM_match_62 (by decide) ?_ ?_
          · refine k_aload_n hX dM_match_73 rfl ?_
            refine gf_166 hX dM_match_74 ?_
            refine k_less [true, false, false, false, true] (L' := [lq 10, none, none, none, li r12]) rfl ?_
            exact tM_match_J77 hX hR r12 (τ11 10 27) τ11 hT
          · refine k_aload_n hX dM_match_65 rfl ?_
            refine k_iload_n hX dM_match_66 rfl ?_
            refine cl_130 hX (by decide) (Nat.le_of_ble_eq_true rfl) dM_match_67 (fun r14 τ13 => ?_)
            refine k_goto (tgt := 77) hX dM_match_70 (by decide) ?_
            refine k_less [true, false, false, false, true] (L' := [lq 10, none, none, none, li r12]) rfl ?_
            exact tM_match_J77 hX hR r12 r14 τ13 hT
        · refine k_iload_n hX dM_match_45 rfl ?_
          exact k_iret hX hR hT dM_match_46
      · refine k_less [true, false, false, false, true] (L' := [lq 10, none, none, none, none]) rfl ?_
        exact tM_match_J30 hX hR τ6 hT
theorem dM_letter_0 : decode prog_11_method_89_code 0 = .ok (.iload_n 0, 1) := by decide +kernel
theorem dM_letter_1 : decode prog_11_method_89_code 1 = .ok (.tableswitch 77 0 10 #[59, 59, 62, 62, 65, 68, 68, 71, 71, 74, 74], 59) := by decide +kernel
theorem dM_letter_60 : decode prog_11_method_89_code 60 = .ok (.bipush 99, 2) := by decide +kernel
theorem dM_letter_62 : decode prog_11_method_89_code 62 = .ok (.ireturn, 1) := by decide +kernel
theorem dM_letter_63 : decode prog_11_method_89_code 63 = .ok (.bipush 100, 2) := by decide +kernel
theorem dM_letter_65 : decode prog_11_method_89_code 65 = .ok (.ireturn, 1) := by decide +kernel
theorem dM_letter_66 : decode prog_11_method_89_code 66 = .ok (.bipush 101, 2) := by decide +kernel
theorem dM_letter_68 : decode prog_11_method_89_code 68 = .ok (.ireturn, 1) := by decide +kernel
theorem dM_letter_69 : decode prog_11_method_89_code 69 = .ok (.bipush 102, 2) := by decide +kernel
theorem dM_letter_71 : decode prog_11_method_89_code 71 = .ok (.ireturn, 1) := by decide +kernel
theorem dM_letter_72 : decode prog_11_method_89_code 72 = .ok (.bipush 103, 2) := by decide +kernel
theorem dM_letter_74 : decode prog_11_method_89_code 74 = .ok (.ireturn, 1) := by decide +kernel
theorem dM_letter_75 : decode prog_11_method_89_code 75 = .ok (.bipush 97, 2) := by decide +kernel
theorem dM_letter_77 : decode prog_11_method_89_code 77 = .ok (.ireturn, 1) := by decide +kernel
theorem dM_letter_78 : decode prog_11_method_89_code 78 = .ok (.bipush 98, 2) := by decide +kernel
theorem dM_letter_80 : decode prog_11_method_89_code 80 = .ok (.ireturn, 1) := by decide +kernel
set_option maxRecDepth 100000 in
set_option maxHeartbeats 4000000 in
theorem tM_letter_J60 {X : KC} {q : Int × KM} (hX : kOk X 1 prog_11_method_89_code 1 "KeyPathModel") (hR : kRet X (some .int) q) (σ : KM) {Θ : (Int × KM) → Prop} (hT : ∀ z, Θ (z) → z = q) : kJ X 60 [none] [] σ (fM_letter_J60 σ) Θ := by
  refine k_bipush hX dM_letter_60 (by decide) ?_
  exact k_iret hX hR hT dM_letter_62
set_option maxRecDepth 100000 in
set_option maxHeartbeats 4000000 in
theorem tM_letter_J63 {X : KC} {q : Int × KM} (hX : kOk X 1 prog_11_method_89_code 1 "KeyPathModel") (hR : kRet X (some .int) q) (σ : KM) {Θ : (Int × KM) → Prop} (hT : ∀ z, Θ (z) → z = q) : kJ X 63 [none] [] σ (fM_letter_J63 σ) Θ := by
  refine k_bipush hX dM_letter_63 (by decide) ?_
  exact k_iret hX hR hT dM_letter_65
set_option maxRecDepth 100000 in
set_option maxHeartbeats 4000000 in
theorem tM_letter_J69 {X : KC} {q : Int × KM} (hX : kOk X 1 prog_11_method_89_code 1 "KeyPathModel") (hR : kRet X (some .int) q) (σ : KM) {Θ : (Int × KM) → Prop} (hT : ∀ z, Θ (z) → z = q) : kJ X 69 [none] [] σ (fM_letter_J69 σ) Θ := by
  refine k_bipush hX dM_letter_69 (by decide) ?_
  exact k_iret hX hR hT dM_letter_71
set_option maxRecDepth 100000 in
set_option maxHeartbeats 4000000 in
theorem tM_letter_J72 {X : KC} {q : Int × KM} (hX : kOk X 1 prog_11_method_89_code 1 "KeyPathModel") (hR : kRet X (some .int) q) (σ : KM) {Θ : (Int × KM) → Prop} (hT : ∀ z, Θ (z) → z = q) : kJ X 72 [none] [] σ (fM_letter_J72 σ) Θ := by
  refine k_bipush hX dM_letter_72 (by decide) ?_
  exact k_iret hX hR hT dM_letter_74
set_option maxRecDepth 100000 in
set_option maxHeartbeats 4000000 in
theorem tM_letter_J75 {X : KC} {q : Int × KM} (hX : kOk X 1 prog_11_method_89_code 1 "KeyPathModel") (hR : kRet X (some .int) q) (σ : KM) {Θ : (Int × KM) → Prop} (hT : ∀ z, Θ (z) → z = q) : kJ X 75 [none] [] σ (fM_letter_J75 σ) Θ := by
  refine k_bipush hX dM_letter_75 (by decide) ?_
  exact k_iret hX hR hT dM_letter_77
set_option maxRecDepth 100000 in
set_option maxHeartbeats 4000000 in
theorem sM_letter (x0 : Int) (σ : KM) : kSem 1 (⟨"KeyPathModel", "letter", "(I)I"⟩ : MethodName) prog_11_method_89_code 1 (some .int) [ki x0] σ (fM_letter x0 σ) := by
  refine kSem.of (L0 := [li x0]) (by decide) (Nat.le_of_ble_eq_true rfl) rfl (fun X q hX hR => ?_)
  have hT : ∀ z : Int × KM, (fun z => z = q) z → z = q := fun _ h => h
  refine k_iload_n hX dM_letter_0 rfl ?_
  refine k_tsw (ts := [60, 60, 63, 63, 66, 69, 69, 72, 72, 75, 75]) (te := 78) hX dM_letter_1 (by decide) (by decide) rfl (by decide) (k_ts_c ?_ (k_ts_c ?_ (k_ts_c ?_ (k_ts_c ?_ (k_ts_c ?_ (k_ts_c ?_ (k_ts_c ?_ (k_ts_c ?_ (k_ts_c ?_ (k_ts_c ?_ (k_ts_c ?_ (k_ts_n)))))))))))) ?_
  · refine k_less [false] (L' := [none]) rfl ?_
    exact tM_letter_J60 hX hR σ hT
  · refine k_less [false] (L' := [none]) rfl ?_
    exact tM_letter_J60 hX hR σ hT
  · refine k_less [false] (L' := [none]) rfl ?_
    exact tM_letter_J63 hX hR σ hT
  · refine k_less [false] (L' := [none]) rfl ?_
    exact tM_letter_J63 hX hR σ hT
  · refine k_bipush hX dM_letter_66 (by decide) ?_
    exact k_iret hX hR hT dM_letter_68
  · refine k_less [false] (L' := [none]) rfl ?_
    exact tM_letter_J69 hX hR σ hT
  · refine k_less [false] (L' := [none]) rfl ?_
    exact tM_letter_J69 hX hR σ hT
  · refine k_less [false] (L' := [none]) rfl ?_
    exact tM_letter_J72 hX hR σ hT
  · refine k_less [false] (L' := [none]) rfl ?_
    exact tM_letter_J72 hX hR σ hT
  · refine k_less [false] (L' := [none]) rfl ?_
    exact tM_letter_J75 hX hR σ hT
  · refine k_less [false] (L' := [none]) rfl ?_
    exact tM_letter_J75 hX hR σ hT
  · refine k_bipush hX dM_letter_78 (by decide) ?_
    exact k_iret hX hR hT dM_letter_80
theorem cl_160 {X : KC} {d n : Nat} {cc : ByteArray} {pc : Nat} {L : List (Option KV)} {st : List KV} {σ : KM} {Z : Type} {Θ : Z → Prop} {G : Int → KM → Option Z} {x0 : Int} (hX : kOk X d cc n "KeyPathModel") (hdd : 1 + 1 ≤ d) (hst : k_cat st ≤ 8) (hd : decode cc pc = .ok (.invokestatic 331, 3)) (h : ∀ r τ, kJ X (pc + 3) L (ki r :: st) τ (G r τ) Θ) : kJ X pc L (ki x0 :: st) σ (kCall (fM_letter x0 σ) G) Θ :=
  k_callS (np := 1) (av := [ki x0]) (ret := (some .int)) hX (sM_letter _ σ) ⟨⟨hdd, by decide⟩, tw_1475, tw_11, by decide +kernel⟩ rfl tw_1473 tw_1474 hst hd h
theorem dM_name_0 : decode prog_11_method_90_code 0 = .ok (.aload_n 0, 1) := by decide +kernel
theorem dM_name_1 : decode prog_11_method_90_code 1 = .ok (.iconst 0, 1) := by decide +kernel
theorem dM_name_2 : decode prog_11_method_90_code 2 = .ok (.putfield 1, 3) := by decide +kernel
theorem dM_name_5 : decode prog_11_method_90_code 5 = .ok (.iload_n 1, 1) := by decide +kernel
theorem dM_name_6 : decode prog_11_method_90_code 6 = .ok (.invokestatic 220, 3) := by decide +kernel
theorem dM_name_9 : decode prog_11_method_90_code 9 = .ok (.ifCond .ne 6, 3) := by decide +kernel
theorem dM_name_12 : decode prog_11_method_90_code 12 = .ok (.bipush (-2), 2) := by decide +kernel
theorem dM_name_14 : decode prog_11_method_90_code 14 = .ok (.ireturn, 1) := by decide +kernel
theorem dM_name_15 : decode prog_11_method_90_code 15 = .ok (.iload_n 2, 1) := by decide +kernel
theorem dM_name_16 : decode prog_11_method_90_code 16 = .ok (.ifCond .ge 6, 3) := by decide +kernel
theorem dM_name_19 : decode prog_11_method_90_code 19 = .ok (.bipush (-3), 2) := by decide +kernel
theorem dM_name_21 : decode prog_11_method_90_code 21 = .ok (.ireturn, 1) := by decide +kernel
theorem dM_name_22 : decode prog_11_method_90_code 22 = .ok (.iload_n 1, 1) := by decide +kernel
theorem dM_name_23 : decode prog_11_method_90_code 23 = .ok (.bipush 12, 2) := by decide +kernel
theorem dM_name_25 : decode prog_11_method_90_code 25 = .ok (.irem, 1) := by decide +kernel
theorem dM_name_26 : decode prog_11_method_90_code 26 = .ok (.istore_n 3, 1) := by decide +kernel
theorem dM_name_27 : decode prog_11_method_90_code 27 = .ok (.iload_n 3, 1) := by decide +kernel
theorem dM_name_28 : decode prog_11_method_90_code 28 = .ok (.iconst 1, 1) := by decide +kernel
theorem dM_name_29 : decode prog_11_method_90_code 29 = .ok (.if_icmp .eq 26, 3) := by decide +kernel
theorem dM_name_32 : decode prog_11_method_90_code 32 = .ok (.iload_n 3, 1) := by decide +kernel
theorem dM_name_33 : decode prog_11_method_90_code 33 = .ok (.iconst 3, 1) := by decide +kernel
theorem dM_name_34 : decode prog_11_method_90_code 34 = .ok (.if_icmp .eq 21, 3) := by decide +kernel
theorem dM_name_37 : decode prog_11_method_90_code 37 = .ok (.iload_n 3, 1) := by decide +kernel
theorem dM_name_38 : decode prog_11_method_90_code 38 = .ok (.bipush 6, 2) := by decide +kernel
theorem dM_name_40 : decode prog_11_method_90_code 40 = .ok (.if_icmp .eq 15, 3) := by decide +kernel
theorem dM_name_43 : decode prog_11_method_90_code 43 = .ok (.iload_n 3, 1) := by decide +kernel
theorem dM_name_44 : decode prog_11_method_90_code 44 = .ok (.bipush 8, 2) := by decide +kernel
theorem dM_name_46 : decode prog_11_method_90_code 46 = .ok (.if_icmp .eq 9, 3) := by decide +kernel
theorem dM_name_49 : decode prog_11_method_90_code 49 = .ok (.iload_n 3, 1) := by decide +kernel
theorem dM_name_50 : decode prog_11_method_90_code 50 = .ok (.bipush 10, 2) := by decide +kernel
theorem dM_name_52 : decode prog_11_method_90_code 52 = .ok (.if_icmp .ne 7, 3) := by decide +kernel
theorem dM_name_55 : decode prog_11_method_90_code 55 = .ok (.iconst 1, 1) := by decide +kernel
theorem dM_name_56 : decode prog_11_method_90_code 56 = .ok (.goto 4, 3) := by decide +kernel
theorem dM_name_59 : decode prog_11_method_90_code 59 = .ok (.iconst 0, 1) := by decide +kernel
theorem dM_name_60 : decode prog_11_method_90_code 60 = .ok (.istore 4, 2) := by decide +kernel
theorem dM_name_62 : decode prog_11_method_90_code 62 = .ok (.iload_n 2, 1) := by decide +kernel
theorem dM_name_63 : decode prog_11_method_90_code 63 = .ok (.ifCond .ne 8, 3) := by decide +kernel
theorem dM_name_66 : decode prog_11_method_90_code 66 = .ok (.iload_n 3, 1) := by decide +kernel
theorem dM_name_67 : decode prog_11_method_90_code 67 = .ok (.invokestatic 331, 3) := by decide +kernel
theorem dM_name_70 : decode prog_11_method_90_code 70 = .ok (.ireturn, 1) := by decide +kernel
theorem dM_name_71 : decode prog_11_method_90_code 71 = .ok (.iload_n 2, 1) := by decide +kernel
theorem dM_name_72 : decode prog_11_method_90_code 72 = .ok (.iconst 1, 1) := by decide +kernel
theorem dM_name_73 : decode prog_11_method_90_code 73 = .ok (.if_icmp .ne 11, 3) := by decide +kernel
theorem dM_name_76 : decode prog_11_method_90_code 76 = .ok (.iload 4, 2) := by decide +kernel
theorem dM_name_78 : decode prog_11_method_90_code 78 = .ok (.ifCond .eq 6, 3) := by decide +kernel
theorem dM_name_81 : decode prog_11_method_90_code 81 = .ok (.bipush 35, 2) := by decide +kernel
theorem dM_name_83 : decode prog_11_method_90_code 83 = .ok (.ireturn, 1) := by decide +kernel
theorem dM_name_84 : decode prog_11_method_90_code 84 = .ok (.iload_n 1, 1) := by decide +kernel
theorem dM_name_85 : decode prog_11_method_90_code 85 = .ok (.bipush 12, 2) := by decide +kernel
theorem dM_name_87 : decode prog_11_method_90_code 87 = .ok (.if_icmp .lt 22, 3) := by decide +kernel
theorem dM_name_90 : decode prog_11_method_90_code 90 = .ok (.iload_n 2, 1) := by decide +kernel
theorem dM_name_91 : decode prog_11_method_90_code 91 = .ok (.iload 4, 2) := by decide +kernel
theorem dM_name_93 : decode prog_11_method_90_code 93 = .ok (.ifCond .eq 7, 3) := by decide +kernel
theorem dM_name_96 : decode prog_11_method_90_code 96 = .ok (.iconst 2, 1) := by decide +kernel
theorem dM_name_97 : decode prog_11_method_90_code 97 = .ok (.goto 4, 3) := by decide +kernel
theorem dM_name_100 : decode prog_11_method_90_code 100 = .ok (.iconst 1, 1) := by decide +kernel
theorem dM_name_101 : decode prog_11_method_90_code 101 = .ok (.if_icmp .ne 8, 3) := by decide +kernel
theorem dM_name_104 : decode prog_11_method_90_code 104 = .ok (.bipush 109, 2) := by decide +kernel
theorem dM_name_106 : decode prog_11_method_90_code 106 = .ok (.goto 4, 3) := by decide +kernel
theorem dM_name_109 : decode prog_11_method_90_code 109 = .ok (.iconst (-1), 1) := by decide +kernel
theorem dM_name_110 : decode prog_11_method_90_code 110 = .ok (.ireturn, 1) := by decide +kernel
set_option maxRecDepth 100000 in
set_option maxHeartbeats 4000000 in
theorem tM_name_J110 {X : KC} {q : Int × KM} (hX : kOk X 3 prog_11_method_90_code 5 "KeyPathModel") (hR : kRet X (some .int) q) (t0 : Int) (σ : KM) {Θ : (Int × KM) → Prop} (hT : ∀ z, Θ (z) → z = q) : kJ X 110 [lq 10, none, none, none, none] [ki t0] σ (fM_name_J110 t0 σ) Θ := by
  exact k_iret hX hR hT dM_name_110
set_option maxRecDepth 100000 in
set_option maxHeartbeats 4000000 in
theorem tM_name_J109 {X : KC} {q : Int × KM} (hX : kOk X 3 prog_11_method_90_code 5 "KeyPathModel") (hR : kRet X (some .int) q) (σ : KM) {Θ : (Int × KM) → Prop} (hT : ∀ z, Θ (z) → z = q) : kJ X 109 [lq 10, none, none, none, none] [] σ (fM_name_J109 σ) Θ := by
  refine k_iconst hX dM_name_109 ?_
  exact tM_name_J110 hX hR (-1) σ hT
set_option maxRecDepth 100000 in
set_option maxHeartbeats 4000000 in
theorem tM_name_J101 {X : KC} {q : Int × KM} (hX : kOk X 3 prog_11_method_90_code 5 "KeyPathModel") (hR : kRet X (some .int) q) (t0 t1 : Int) (σ : KM) {Θ : (Int × KM) → Prop} (hT : ∀ z, Θ (z) → z = q) : kJ X 101 [lq 10, none, none, none, none] [ki t0, ki t1] σ (fM_name_J101 t0 t1 σ) Θ := by
  refine k_icmp_ne (tgt := 109) hX dM_name_101 (by decide) ?_ ?_
  · exact tM_name_J109 hX hR σ hT
  · refine k_bipush hX dM_name_104 (by decide) ?_
    refine k_goto (tgt := 110) hX dM_name_106 (by decide) ?_
    exact tM_name_J110 hX hR 109 σ hT
set_option maxRecDepth 100000 in
set_option maxHeartbeats 4000000 in
theorem tM_name_J84 {X : KC} {q : Int × KM} (hX : kOk X 3 prog_11_method_90_code 5 "KeyPathModel") (hR : kRet X (some .int) q) (x1 x2 x4 : Int) (σ : KM) {Θ : (Int × KM) → Prop} (hT : ∀ z, Θ (z) → z = q) : kJ X 84 [lq 10, li x1, li x2, none, li x4] [] σ (fM_name_J84 x1 x2 x4 σ) Θ := by
  refine k_iload_n hX dM_name_84 rfl ?_
  refine k_bipush hX dM_name_85 (by decide) ?_
  refine k_icmp_lt (tgt := 109) hX dM_name_87 (by decide) ?_ ?_
  · refine k_less [true, false, false, true, false] (L' := [lq 10, none, none, none, none]) rfl ?_
    exact tM_name_J109 hX hR σ hT
  · refine k_iload_n hX dM_name_90 rfl ?_
    refine k_iload hX dM_name_91 rfl ?_
    refine k_if_eq (tgt := 100) hX dM_name_93 (by decide) ?_ ?_
    · refine k_iconst hX dM_name_100 ?_
      refine k_less [true, false, false, true, false] (L' := [lq 10, none, none, none, none]) rfl ?_
      exact tM_name_J101 hX hR 1 x2 σ hT
    · refine k_iconst hX dM_name_96 ?_
      refine k_goto (tgt := 101) hX dM_name_97 (by decide) ?_
      refine k_less [true, false, false, true, false] (L' := [lq 10, none, none, none, none]) rfl ?_
      exact tM_name_J101 hX hR 2 x2 σ hT
set_option maxRecDepth 100000 in
set_option maxHeartbeats 4000000 in
theorem tM_name_J60 {X : KC} {q : Int × KM} (hX : kOk X 3 prog_11_method_90_code 5 "KeyPathModel") (hR : kRet X (some .int) q) (x1 x2 x3 t0 : Int) (σ : KM) {Θ : (Int × KM) → Prop} (hT : ∀ z, Θ (z) → z = q) : kJ X 60 [lq 10, li x1, li x2, li x3, none] [ki t0] σ (fM_name_J60 x1 x2 x3 t0 σ) Θ := by
  refine k_istore (L' := [lq 10, li x1, li x2, li x3, li t0]) hX dM_name_60 rfl (by decide) rfl ?_
  refine k_iload_n hX dM_name_62 rfl ?_
  refine k_if_ne (tgt := 71) hX dM_name_63 (by decide) ?_ ?_
  · refine k_iload_n hX dM_name_71 rfl ?_
    refine k_iconst hX dM_name_72 ?_
    refine k_icmp_ne (tgt := 84) hX dM_name_73 (by decide) ?_ ?_
    · refine k_less [true, true, true, false, true] (L' := [lq 10, li x1, li x2, none, li t0]) rfl ?_
      exact tM_name_J84 hX hR x1 x2 t0 σ hT
    · refine k_iload hX dM_name_76 rfl ?_
      refine k_if_eq (tgt := 84) hX dM_name_78 (by decide) ?_ ?_
      · refine k_less [true, true, true, false, true] (L' := [lq 10, li x1, li x2, none, li t0]) rfl ?_
        exact tM_name_J84 hX hR x1 x2 t0 σ hT
      · refine k_bipush hX dM_name_81 (by decide) ?_
        exact k_iret hX hR hT dM_name_83
  · refine k_iload_n hX dM_name_66 rfl ?_
    refine cl_160 hX (by decide) (Nat.le_of_ble_eq_true rfl) dM_name_67 (fun r2 τ1 => ?_)
    exact k_iret hX hR hT dM_name_70
set_option maxRecDepth 100000 in
set_option maxHeartbeats 4000000 in
theorem tM_name_J55 {X : KC} {q : Int × KM} (hX : kOk X 3 prog_11_method_90_code 5 "KeyPathModel") (hR : kRet X (some .int) q) (x1 x2 x3 : Int) (σ : KM) {Θ : (Int × KM) → Prop} (hT : ∀ z, Θ (z) → z = q) : kJ X 55 [lq 10, li x1, li x2, li x3, none] [] σ (fM_name_J55 x1 x2 x3 σ) Θ := by
  refine k_iconst hX dM_name_55 ?_
  refine k_goto (tgt := 60) hX dM_name_56 (by decide) ?_
  exact tM_name_J60 hX hR x1 x2 x3 1 σ hT
set_option maxRecDepth 100000 in
set_option maxHeartbeats 4000000 in
theorem sM_name (x1 x2 : Int) (σ : KM) : kSem 3 (⟨"KeyPathModel", "name", "(II)I"⟩ : MethodName) prog_11_method_90_code 5 (some .int) [kr 10, ki x1, ki x2] σ (fM_name x1 x2 σ) := by
  refine kSem.of (L0 := [lq 10, li x1, li x2, none, none]) (by decide) (Nat.le_of_ble_eq_true rfl) rfl (fun X q hX hR => ?_)
  have hT : ∀ z : Int × KM, (fun z => z = q) z → z = q := fun _ h => h
  refine k_aload_n hX dM_name_0 rfl ?_
  refine k_iconst hX dM_name_1 ?_
  refine gp_157 hX dM_name_2 (fun τ1 => ?_)
  refine k_iload_n hX dM_name_5 rfl ?_
  refine cl_143 hX (by decide) (Nat.le_of_ble_eq_true rfl) dM_name_6 (fun r3 τ2 => ?_)
  refine k_if_ne (tgt := 15) hX dM_name_9 (by decide) ?_ ?_
  · refine k_iload_n hX dM_name_15 rfl ?_
    refine k_if_ge (tgt := 22) hX dM_name_16 (by decide) ?_ ?_
    · refine k_iload_n hX dM_name_22 rfl ?_
      refine k_bipush hX dM_name_23 (by decide) ?_
      refine k_irem hX dM_name_25 (fun y4 => ?_)
      refine k_istore_n (L' := [lq 10, li x1, li x2, li y4, none]) hX dM_name_26 rfl (by decide) rfl ?_
      refine k_iload_n hX dM_name_27 rfl ?_
      refine k_iconst hX dM_name_28 ?_
      refine k_icmp_eq (tgt := 55) hX dM_name_29 (by decide) ?_ ?_
      · exact tM_name_J55 hX hR x1 x2 y4 τ2 hT
      · refine k_iload_n hX dM_name_32 rfl ?_
        refine k_iconst hX dM_name_33 ?_
        refine k_icmp_eq (tgt := 55) hX dM_name_34 (by decide) ?_ ?_
        · exact tM_name_J55 hX hR x1 x2 y4 τ2 hT
        · refine k_iload_n hX dM_name_37 rfl ?_
          refine k_bipush hX dM_name_38 (by decide) ?_
          refine k_icmp_eq (tgt := 55) hX dM_name_40 (by decide) ?_ ?_
          · exact tM_name_J55 hX hR x1 x2 y4 τ2 hT
          · refine k_iload_n hX dM_name_43 rfl ?_
            refine k_bipush hX dM_name_44 (by decide) ?_
            refine k_icmp_eq (tgt := 55) hX dM_name_46 (by decide) ?_ ?_
            · exact tM_name_J55 hX hR x1 x2 y4 τ2 hT
            · refine k_iload_n hX dM_name_49 rfl ?_
              refine k_bipush hX dM_name_50 (by decide) ?_
              refine k_icmp_ne (tgt := 59) hX dM_name_52 (by decide) ?_ ?_
              · refine k_iconst hX dM_name_59 ?_
                exact tM_name_J60 hX hR x1 x2 y4 0 τ2 hT
              · exact tM_name_J55 hX hR x1 x2 y4 τ2 hT
    · refine k_bipush hX dM_name_19 (by decide) ?_
      exact k_iret hX hR hT dM_name_21
  · refine k_bipush hX dM_name_12 (by decide) ?_
    exact k_iret hX hR hT dM_name_14
theorem dM_net_0 : decode prog_11_method_29_code 0 = .ok (.aload_n 0, 1) := by decide +kernel
theorem dM_net_1 : decode prog_11_method_29_code 1 = .ok (.iconst 0, 1) := by decide +kernel
theorem dM_net_2 : decode prog_11_method_29_code 2 = .ok (.putfield 1, 3) := by decide +kernel
theorem dM_net_5 : decode prog_11_method_29_code 5 = .ok (.iload_n 1, 1) := by decide +kernel
theorem dM_net_6 : decode prog_11_method_29_code 6 = .ok (.i2l, 1) := by decide +kernel
theorem dM_net_7 : decode prog_11_method_29_code 7 = .ok (.lconst 0, 1) := by decide +kernel
theorem dM_net_8 : decode prog_11_method_29_code 8 = .ok (.ldc2_w 212, 3) := by decide +kernel
theorem dM_net_11 : decode prog_11_method_29_code 11 = .ok (.invokestatic 134, 3) := by decide +kernel
theorem dM_net_14 : decode prog_11_method_29_code 14 = .ok (.ifCond .eq 40, 3) := by decide +kernel
theorem dM_net_17 : decode prog_11_method_29_code 17 = .ok (.iload_n 2, 1) := by decide +kernel
theorem dM_net_18 : decode prog_11_method_29_code 18 = .ok (.i2l, 1) := by decide +kernel
theorem dM_net_19 : decode prog_11_method_29_code 19 = .ok (.lconst 0, 1) := by decide +kernel
theorem dM_net_20 : decode prog_11_method_29_code 20 = .ok (.ldc2_w 212, 3) := by decide +kernel
theorem dM_net_23 : decode prog_11_method_29_code 23 = .ok (.invokestatic 134, 3) := by decide +kernel
theorem dM_net_26 : decode prog_11_method_29_code 26 = .ok (.ifCond .eq 28, 3) := by decide +kernel
theorem dM_net_29 : decode prog_11_method_29_code 29 = .ok (.iload_n 3, 1) := by decide +kernel
theorem dM_net_30 : decode prog_11_method_29_code 30 = .ok (.i2l, 1) := by decide +kernel
theorem dM_net_31 : decode prog_11_method_29_code 31 = .ok (.lconst 0, 1) := by decide +kernel
theorem dM_net_32 : decode prog_11_method_29_code 32 = .ok (.ldc2_w 212, 3) := by decide +kernel
theorem dM_net_35 : decode prog_11_method_29_code 35 = .ok (.invokestatic 134, 3) := by decide +kernel
theorem dM_net_38 : decode prog_11_method_29_code 38 = .ok (.ifCond .eq 16, 3) := by decide +kernel
theorem dM_net_41 : decode prog_11_method_29_code 41 = .ok (.iload 4, 2) := by decide +kernel
theorem dM_net_43 : decode prog_11_method_29_code 43 = .ok (.i2l, 1) := by decide +kernel
theorem dM_net_44 : decode prog_11_method_29_code 44 = .ok (.lconst 0, 1) := by decide +kernel
theorem dM_net_45 : decode prog_11_method_29_code 45 = .ok (.ldc2_w 214, 3) := by decide +kernel
theorem dM_net_48 : decode prog_11_method_29_code 48 = .ok (.invokestatic 134, 3) := by decide +kernel
theorem dM_net_51 : decode prog_11_method_29_code 51 = .ok (.ifCond .ne 6, 3) := by decide +kernel
theorem dM_net_54 : decode prog_11_method_29_code 54 = .ok (.bipush (-3), 2) := by decide +kernel
theorem dM_net_56 : decode prog_11_method_29_code 56 = .ok (.ireturn, 1) := by decide +kernel
theorem dM_net_57 : decode prog_11_method_29_code 57 = .ok (.aload_n 0, 1) := by decide +kernel
theorem dM_net_58 : decode prog_11_method_29_code 58 = .ok (.getfield 50, 3) := by decide +kernel
theorem dM_net_61 : decode prog_11_method_29_code 61 = .ok (.istore 5, 2) := by decide +kernel
theorem dM_net_63 : decode prog_11_method_29_code 63 = .ok (.aload_n 0, 1) := by decide +kernel
theorem dM_net_64 : decode prog_11_method_29_code 64 = .ok (.iload_n 1, 1) := by decide +kernel
theorem dM_net_65 : decode prog_11_method_29_code 65 = .ok (.putfield 41, 3) := by decide +kernel
theorem dM_net_68 : decode prog_11_method_29_code 68 = .ok (.aload_n 0, 1) := by decide +kernel
theorem dM_net_69 : decode prog_11_method_29_code 69 = .ok (.iload_n 2, 1) := by decide +kernel
theorem dM_net_70 : decode prog_11_method_29_code 70 = .ok (.putfield 44, 3) := by decide +kernel
theorem dM_net_73 : decode prog_11_method_29_code 73 = .ok (.aload_n 0, 1) := by decide +kernel
theorem dM_net_74 : decode prog_11_method_29_code 74 = .ok (.iload_n 3, 1) := by decide +kernel
theorem dM_net_75 : decode prog_11_method_29_code 75 = .ok (.putfield 47, 3) := by decide +kernel
theorem dM_net_78 : decode prog_11_method_29_code 78 = .ok (.aload_n 0, 1) := by decide +kernel
theorem dM_net_79 : decode prog_11_method_29_code 79 = .ok (.iload 4, 2) := by decide +kernel
theorem dM_net_81 : decode prog_11_method_29_code 81 = .ok (.putfield 50, 3) := by decide +kernel
theorem dM_net_84 : decode prog_11_method_29_code 84 = .ok (.iload 5, 2) := by decide +kernel
theorem dM_net_86 : decode prog_11_method_29_code 86 = .ok (.ireturn, 1) := by decide +kernel
set_option maxRecDepth 100000 in
set_option maxHeartbeats 4000000 in
theorem tM_net_J54 {X : KC} {q : Int × KM} (hX : kOk X 2 prog_11_method_29_code 6 "KeyPathModel") (hR : kRet X (some .int) q) (σ : KM) {Θ : (Int × KM) → Prop} (hT : ∀ z, Θ (z) → z = q) : kJ X 54 [lq 10, none, none, none, none, none] [] σ (fM_net_J54 σ) Θ := by
  refine k_bipush hX dM_net_54 (by decide) ?_
  exact k_iret hX hR hT dM_net_56
set_option maxRecDepth 100000 in
set_option maxHeartbeats 4000000 in
theorem sM_net (x1 x2 x3 x4 : Int) (σ : KM) : kSem 2 (⟨"KeyPathModel", "net", "(IIII)I"⟩ : MethodName) prog_11_method_29_code 6 (some .int) [kr 10, ki x1, ki x2, ki x3, ki x4] σ (fM_net x1 x2 x3 x4 σ) := by
  refine kSem.of (L0 := [lq 10, li x1, li x2, li x3, li x4, none]) (by decide) (Nat.le_of_ble_eq_true rfl) rfl (fun X q hX hR => ?_)
  have hT : ∀ z : Int × KM, (fun z => z = q) z → z = q := fun _ h => h
  refine k_aload_n hX dM_net_0 rfl ?_
  refine k_iconst hX dM_net_1 ?_
  refine gp_157 hX dM_net_2 (fun τ1 => ?_)
  refine k_iload_n hX dM_net_5 rfl ?_
  refine k_i2l hX dM_net_6 ?_
  refine k_lconst0 hX dM_net_7 ?_
  refine k_ldc2 (v := 999) hX dM_net_8 tw_1232 ?_
  refine cl_120 hX (by decide) (Nat.le_of_ble_eq_true rfl) dM_net_11 (fun r3 τ2 => ?_)
  refine k_if_eq (tgt := 54) hX dM_net_14 (by decide) ?_ ?_
  · refine k_less [true, false, false, false, false, true] (L' := [lq 10, none, none, none, none, none]) rfl ?_
    exact tM_net_J54 hX hR τ2 hT
  · refine k_iload_n hX dM_net_17 rfl ?_
    refine k_i2l hX dM_net_18 ?_
    refine k_lconst0 hX dM_net_19 ?_
    refine k_ldc2 (v := 999) hX dM_net_20 tw_1232 ?_
    refine cl_120 hX (by decide) (Nat.le_of_ble_eq_true rfl) dM_net_23 (fun r5 τ4 => ?_)
    refine k_if_eq (tgt := 54) hX dM_net_26 (by decide) ?_ ?_
    · refine k_less [true, false, false, false, false, true] (L' := [lq 10, none, none, none, none, none]) rfl ?_
      exact tM_net_J54 hX hR τ4 hT
    · refine k_iload_n hX dM_net_29 rfl ?_
      refine k_i2l hX dM_net_30 ?_
      refine k_lconst0 hX dM_net_31 ?_
      refine k_ldc2 (v := 999) hX dM_net_32 tw_1232 ?_
      refine cl_120 hX (by decide) (Nat.le_of_ble_eq_true rfl) dM_net_35 (fun r7 τ6 => ?_)
      refine k_if_eq (tgt := 54) hX dM_net_38 (by decide) ?_ ?_
      · refine k_less [true, false, false, false, false, true] (L' := [lq 10, none, none, none, none, none]) rfl ?_
        exact tM_net_J54 hX hR τ6 hT
      · refine k_iload hX dM_net_41 rfl ?_
        refine k_i2l hX dM_net_43 ?_
        refine k_lconst0 hX dM_net_44 ?_
        refine k_ldc2 (v := 100) hX dM_net_45 tw_1233 ?_
        refine cl_120 hX (by decide) (Nat.le_of_ble_eq_true rfl) dM_net_48 (fun r9 τ8 => ?_)
        refine k_if_ne (tgt := 57) hX dM_net_51 (by decide) ?_ ?_
        · refine k_aload_n hX dM_net_57 rfl ?_
          refine gf_179 hX dM_net_58 ?_
          refine k_istoreL (Lf := fun y10 => [lq 10, li x1, li x2, li x3, li x4, li y10]) hX dM_net_61 rfl (by decide) (fun _ => rfl) (fun y10 => ?_)
          refine k_aload_n hX dM_net_63 rfl ?_
          refine k_iload_n hX dM_net_64 rfl ?_
          refine gp_209 hX dM_net_65 (fun τ11 => ?_)
          refine k_aload_n hX dM_net_68 rfl ?_
          refine k_iload_n hX dM_net_69 rfl ?_
          refine gp_210 hX dM_net_70 (fun τ12 => ?_)
          refine k_aload_n hX dM_net_73 rfl ?_
          refine k_iload_n hX dM_net_74 rfl ?_
          refine gp_211 hX dM_net_75 (fun τ13 => ?_)
          refine k_aload_n hX dM_net_78 rfl ?_
          refine k_iload hX dM_net_79 rfl ?_
          refine gp_212 hX dM_net_81 (fun τ14 => ?_)
          refine k_iload hX dM_net_84 rfl ?_
          exact k_iret hX hR hT dM_net_86
        · refine k_less [true, false, false, false, false, true] (L' := [lq 10, none, none, none, none, none]) rfl ?_
          exact tM_net_J54 hX hR τ8 hT
theorem dM_note_0 : decode prog_11_method_22_code 0 = .ok (.aload_n 0, 1) := by decide +kernel
theorem dM_note_1 : decode prog_11_method_22_code 1 = .ok (.iconst 0, 1) := by decide +kernel
theorem dM_note_2 : decode prog_11_method_22_code 2 = .ok (.putfield 1, 3) := by decide +kernel
theorem dM_note_5 : decode prog_11_method_22_code 5 = .ok (.aload_n 0, 1) := by decide +kernel
theorem dM_note_6 : decode prog_11_method_22_code 6 = .ok (.iload_n 1, 1) := by decide +kernel
theorem dM_note_7 : decode prog_11_method_22_code 7 = .ok (.invokevirtual 184, 3) := by decide +kernel
theorem dM_note_10 : decode prog_11_method_22_code 10 = .ok (.ifCond .eq 15, 3) := by decide +kernel
theorem dM_note_13 : decode prog_11_method_22_code 13 = .ok (.iload_n 2, 1) := by decide +kernel
theorem dM_note_14 : decode prog_11_method_22_code 14 = .ok (.i2l, 1) := by decide +kernel
theorem dM_note_15 : decode prog_11_method_22_code 15 = .ok (.lconst 0, 1) := by decide +kernel
theorem dM_note_16 : decode prog_11_method_22_code 16 = .ok (.ldc2_w 190, 3) := by decide +kernel
theorem dM_note_19 : decode prog_11_method_22_code 19 = .ok (.invokestatic 134, 3) := by decide +kernel
theorem dM_note_22 : decode prog_11_method_22_code 22 = .ok (.ifCond .ne 6, 3) := by decide +kernel
theorem dM_note_25 : decode prog_11_method_22_code 25 = .ok (.bipush (-2), 2) := by decide +kernel
theorem dM_note_27 : decode prog_11_method_22_code 27 = .ok (.ireturn, 1) := by decide +kernel
theorem dM_note_28 : decode prog_11_method_22_code 28 = .ok (.iload_n 2, 1) := by decide +kernel
theorem dM_note_29 : decode prog_11_method_22_code 29 = .ok (.ifCond .ne 12, 3) := by decide +kernel
theorem dM_note_32 : decode prog_11_method_22_code 32 = .ok (.aload_n 0, 1) := by decide +kernel
theorem dM_note_33 : decode prog_11_method_22_code 33 = .ok (.getfield 13, 3) := by decide +kernel
theorem dM_note_36 : decode prog_11_method_22_code 36 = .ok (.iload_n 1, 1) := by decide +kernel
theorem dM_note_37 : decode prog_11_method_22_code 37 = .ok (.iaload, 1) := by decide +kernel
theorem dM_note_38 : decode prog_11_method_22_code 38 = .ok (.goto 40, 3) := by decide +kernel
theorem dM_note_41 : decode prog_11_method_22_code 41 = .ok (.iload_n 2, 1) := by decide +kernel
theorem dM_note_42 : decode prog_11_method_22_code 42 = .ok (.iconst 1, 1) := by decide +kernel
theorem dM_note_43 : decode prog_11_method_22_code 43 = .ok (.if_icmp .ne 12, 3) := by decide +kernel
theorem dM_note_46 : decode prog_11_method_22_code 46 = .ok (.aload_n 0, 1) := by decide +kernel
theorem dM_note_47 : decode prog_11_method_22_code 47 = .ok (.getfield 17, 3) := by decide +kernel
theorem dM_note_50 : decode prog_11_method_22_code 50 = .ok (.iload_n 1, 1) := by decide +kernel
theorem dM_note_51 : decode prog_11_method_22_code 51 = .ok (.iaload, 1) := by decide +kernel
theorem dM_note_52 : decode prog_11_method_22_code 52 = .ok (.goto 26, 3) := by decide +kernel
theorem dM_note_55 : decode prog_11_method_22_code 55 = .ok (.iload_n 2, 1) := by decide +kernel
theorem dM_note_56 : decode prog_11_method_22_code 56 = .ok (.iconst 2, 1) := by decide +kernel
theorem dM_note_57 : decode prog_11_method_22_code 57 = .ok (.if_icmp .ne 12, 3) := by decide +kernel
theorem dM_note_60 : decode prog_11_method_22_code 60 = .ok (.aload_n 0, 1) := by decide +kernel
theorem dM_note_61 : decode prog_11_method_22_code 61 = .ok (.getfield 20, 3) := by decide +kernel
theorem dM_note_64 : decode prog_11_method_22_code 64 = .ok (.iload_n 1, 1) := by decide +kernel
theorem dM_note_65 : decode prog_11_method_22_code 65 = .ok (.iaload, 1) := by decide +kernel
theorem dM_note_66 : decode prog_11_method_22_code 66 = .ok (.goto 12, 3) := by decide +kernel
theorem dM_note_69 : decode prog_11_method_22_code 69 = .ok (.aload_n 0, 1) := by decide +kernel
theorem dM_note_70 : decode prog_11_method_22_code 70 = .ok (.getfield 20, 3) := by decide +kernel
theorem dM_note_73 : decode prog_11_method_22_code 73 = .ok (.iload_n 1, 1) := by decide +kernel
theorem dM_note_74 : decode prog_11_method_22_code 74 = .ok (.iaload, 1) := by decide +kernel
theorem dM_note_75 : decode prog_11_method_22_code 75 = .ok (.bipush 12, 2) := by decide +kernel
theorem dM_note_77 : decode prog_11_method_22_code 77 = .ok (.irem, 1) := by decide +kernel
theorem dM_note_78 : decode prog_11_method_22_code 78 = .ok (.ireturn, 1) := by decide +kernel
set_option maxRecDepth 100000 in
set_option maxHeartbeats 4000000 in
theorem tM_note_J25 {X : KC} {q : Int × KM} (hX : kOk X 3 prog_11_method_22_code 3 "KeyPathModel") (hR : kRet X (some .int) q) (σ : KM) {Θ : (Int × KM) → Prop} (hT : ∀ z, Θ (z) → z = q) : kJ X 25 [lq 10, none, none] [] σ (fM_note_J25 σ) Θ := by
  refine k_bipush hX dM_note_25 (by decide) ?_
  exact k_iret hX hR hT dM_note_27
set_option maxRecDepth 100000 in
set_option maxHeartbeats 4000000 in
theorem tM_note_J78 {X : KC} {q : Int × KM} (hX : kOk X 3 prog_11_method_22_code 3 "KeyPathModel") (hR : kRet X (some .int) q) (t0 : Int) (σ : KM) {Θ : (Int × KM) → Prop} (hT : ∀ z, Θ (z) → z = q) : kJ X 78 [lq 10, none, none] [ki t0] σ (fM_note_J78 t0 σ) Θ := by
  exact k_iret hX hR hT dM_note_78
set_option maxRecDepth 100000 in
set_option maxHeartbeats 4000000 in
theorem sM_note (x1 x2 : Int) (σ : KM) : kSem 3 (⟨"KeyPathModel", "note", "(II)I"⟩ : MethodName) prog_11_method_22_code 3 (some .int) [kr 10, ki x1, ki x2] σ (fM_note x1 x2 σ) := by
  refine kSem.of (L0 := [lq 10, li x1, li x2]) (by decide) (Nat.le_of_ble_eq_true rfl) rfl (fun X q hX hR => ?_)
  have hT : ∀ z : Int × KM, (fun z => z = q) z → z = q := fun _ h => h
  refine k_aload_n hX dM_note_0 rfl ?_
  refine k_iconst hX dM_note_1 ?_
  refine gp_157 hX dM_note_2 (fun τ1 => ?_)
  refine k_aload_n hX dM_note_5 rfl ?_
  refine k_iload_n hX dM_note_6 rfl ?_
  refine cl_144 hX (by decide) (Nat.le_of_ble_eq_true rfl) dM_note_7 (fun r3 τ2 => ?_)
  refine k_if_eq (tgt := 25) hX dM_note_10 (by decide) ?_ ?_
  · refine k_less [true, false, false] (L' := [lq 10, none, none]) rfl ?_
    exact tM_note_J25 hX hR τ2 hT
  · refine k_iload_n hX dM_note_13 rfl ?_
    refine k_i2l hX dM_note_14 ?_
    refine k_lconst0 hX dM_note_15 ?_
    refine k_ldc2 (v := 3) hX dM_note_16 tw_1200 ?_
    refine cl_120 hX (by decide) (Nat.le_of_ble_eq_true rfl) dM_note_19 (fun r5 τ4 => ?_)
    refine k_if_ne (tgt := 28) hX dM_note_22 (by decide) ?_ ?_
    · refine k_iload_n hX dM_note_28 rfl ?_
      refine k_if_ne (tgt := 41) hX dM_note_29 (by decide) ?_ ?_
      · refine k_iload_n hX dM_note_41 rfl ?_
        refine k_iconst hX dM_note_42 ?_
        refine k_icmp_ne (tgt := 55) hX dM_note_43 (by decide) ?_ ?_
        · refine k_iload_n hX dM_note_55 rfl ?_
          refine k_iconst hX dM_note_56 ?_
          refine k_icmp_ne (tgt := 69) hX dM_note_57 (by decide) ?_ ?_
          · refine k_aload_n hX dM_note_69 rfl ?_
            refine gf_165 hX dM_note_70 ?_
            refine k_iload_n hX dM_note_73 rfl ?_
            refine k_iald hX (by decide) rfl dM_note_74 rfl (fun y6 => ?_)
            refine k_bipush hX dM_note_75 (by decide) ?_
            refine k_irem hX dM_note_77 (fun y7 => ?_)
            refine k_less [true, false, false] (L' := [lq 10, none, none]) rfl ?_
            exact tM_note_J78 hX hR y7 τ4 hT
          · refine k_aload_n hX dM_note_60 rfl ?_
            refine gf_165 hX dM_note_61 ?_
            refine k_iload_n hX dM_note_64 rfl ?_
            refine k_iald hX (by decide) rfl dM_note_65 rfl (fun y8 => ?_)
            refine k_goto (tgt := 78) hX dM_note_66 (by decide) ?_
            refine k_less [true, false, false] (L' := [lq 10, none, none]) rfl ?_
            exact tM_note_J78 hX hR y8 τ4 hT
        · refine k_aload_n hX dM_note_46 rfl ?_
          refine gf_161 hX dM_note_47 ?_
          refine k_iload_n hX dM_note_50 rfl ?_
          refine k_iald hX (by decide) rfl dM_note_51 rfl (fun y9 => ?_)
          refine k_goto (tgt := 78) hX dM_note_52 (by decide) ?_
          refine k_less [true, false, false] (L' := [lq 10, none, none]) rfl ?_
          exact tM_note_J78 hX hR y9 τ4 hT
      · refine k_aload_n hX dM_note_32 rfl ?_
        refine gf_160 hX dM_note_33 ?_
        refine k_iload_n hX dM_note_36 rfl ?_
        refine k_iald hX (by decide) rfl dM_note_37 rfl (fun y10 => ?_)
        refine k_goto (tgt := 78) hX dM_note_38 (by decide) ?_
        refine k_less [true, false, false] (L' := [lq 10, none, none]) rfl ?_
        exact tM_note_J78 hX hR y10 τ4 hT
    · refine k_less [true, false, false] (L' := [lq 10, none, none]) rfl ?_
      exact tM_note_J25 hX hR τ4 hT
