theorem dDe_cheapestMove_41_0 : decode prog_2_method_4_code 0 = .ok (.ldc 52, 2) := by decide +kernel
theorem dDe_cheapestMove_41_2 : decode prog_2_method_4_code 2 = .ok (.istore 4, 2) := by decide +kernel
theorem dDe_cheapestMove_41_4 : decode prog_2_method_4_code 4 = .ok (.iconst 0, 1) := by decide +kernel
theorem dDe_cheapestMove_41_5 : decode prog_2_method_4_code 5 = .ok (.istore 5, 2) := by decide +kernel
theorem dDe_cheapestMove_41_7 : decode prog_2_method_4_code 7 = .ok (.iload 5, 2) := by decide +kernel
theorem dDe_cheapestMove_41_9 : decode prog_2_method_4_code 9 = .ok (.bipush 24, 2) := by decide +kernel
theorem dDe_cheapestMove_41_11 : decode prog_2_method_4_code 11 = .ok (.if_icmp .ge 35, 3) := by decide +kernel
theorem dDe_cheapestMove_41_14 : decode prog_2_method_4_code 14 = .ok (.iload 4, 2) := by decide +kernel
theorem dDe_cheapestMove_41_16 : decode prog_2_method_4_code 16 = .ok (.aload_n 1, 1) := by decide +kernel
theorem dDe_cheapestMove_41_17 : decode prog_2_method_4_code 17 = .ok (.iload_n 2, 1) := by decide +kernel
theorem dDe_cheapestMove_41_18 : decode prog_2_method_4_code 18 = .ok (.iload 5, 2) := by decide +kernel
theorem dDe_cheapestMove_41_20 : decode prog_2_method_4_code 20 = .ok (.iadd, 1) := by decide +kernel
theorem dDe_cheapestMove_41_21 : decode prog_2_method_4_code 21 = .ok (.iaload, 1) := by decide +kernel
theorem dDe_cheapestMove_41_22 : decode prog_2_method_4_code 22 = .ok (.aload_n 0, 1) := by decide +kernel
theorem dDe_cheapestMove_41_23 : decode prog_2_method_4_code 23 = .ok (.getfield 53, 3) := by decide +kernel
theorem dDe_cheapestMove_41_26 : decode prog_2_method_4_code 26 = .ok (.iload 5, 2) := by decide +kernel
theorem dDe_cheapestMove_41_28 : decode prog_2_method_4_code 28 = .ok (.bipush 24, 2) := by decide +kernel
theorem dDe_cheapestMove_41_30 : decode prog_2_method_4_code 30 = .ok (.imul, 1) := by decide +kernel
theorem dDe_cheapestMove_41_31 : decode prog_2_method_4_code 31 = .ok (.iload_n 3, 1) := by decide +kernel
theorem dDe_cheapestMove_41_32 : decode prog_2_method_4_code 32 = .ok (.iadd, 1) := by decide +kernel
theorem dDe_cheapestMove_41_33 : decode prog_2_method_4_code 33 = .ok (.iaload, 1) := by decide +kernel
theorem dDe_cheapestMove_41_34 : decode prog_2_method_4_code 34 = .ok (.iadd, 1) := by decide +kernel
theorem dDe_cheapestMove_41_35 : decode prog_2_method_4_code 35 = .ok (.invokestatic 56, 3) := by decide +kernel
theorem dDe_cheapestMove_41_38 : decode prog_2_method_4_code 38 = .ok (.istore 4, 2) := by decide +kernel
theorem dDe_cheapestMove_41_40 : decode prog_2_method_4_code 40 = .ok (.iinc 5 1, 3) := by decide +kernel
theorem dDe_cheapestMove_41_43 : decode prog_2_method_4_code 43 = .ok (.goto (-36), 3) := by decide +kernel
theorem dDe_cheapestMove_41_46 : decode prog_2_method_4_code 46 = .ok (.iload 4, 2) := by decide +kernel
theorem dDe_cheapestMove_41_48 : decode prog_2_method_4_code 48 = .ok (.ireturn, 1) := by decide +kernel
set_option maxRecDepth 100000 in
set_option maxHeartbeats 4000000 in
theorem tDe_cheapestMove_41_J46 {X : KC} {q : Int × KM} (hX : kOk X 1 prog_2_method_4_code 6 "KeyPath$Detours") (hR : kRet X (some .int) q) (x4 : Int) (σ : KM) {Θ : (Int × KM) → Prop} (hT : ∀ z, Θ (z) → z = q) : kJ X 46 [lq 8, lq 41, none, none, li x4, none] [] σ (fDe_cheapestMove_41_J46 x4 σ) Θ := by
  refine k_iload hX dDe_cheapestMove_41_46 rfl ?_
  exact k_iret hX hR hT dDe_cheapestMove_41_48
set_option maxRecDepth 100000 in
set_option maxHeartbeats 4000000 in
theorem tDe_cheapestMove_41_B7 {X : KC} {q : Int × KM} (hX : kOk X 1 prog_2_method_4_code 6 "KeyPath$Detours") (hR : kRet X (some .int) q) (x2 x3 x4 x5 : Int) (σ : KM) {Θ : ((Int × Int × KM) ⊕ (Int × KM)) → Prop} (hT : ∀ z, Θ (.inr (z)) → z = q) (hb0 : ∀ s : Int × Int × KM, Θ (.inl s) → kW X 7 [lq 8, lq 41, li x2, li x3, li s.1, li s.2.1] [] s.2.2) : kJ X 7 [lq 8, lq 41, li x2, li x3, li x4, li x5] [] σ (fDe_cheapestMove_41_B7 x2 x3 x4 x5 σ) Θ := by
  refine k_iload hX dDe_cheapestMove_41_7 rfl ?_
  refine k_bipush hX dDe_cheapestMove_41_9 (by decide) ?_
  refine k_icmp_ge (tgt := 46) hX dDe_cheapestMove_41_11 (by decide) ?_ ?_
  · refine k_exit ?_
    refine k_less [true, true, false, false, true, false] (L' := [lq 8, lq 41, none, none, li x4, none]) rfl ?_
    exact tDe_cheapestMove_41_J46 hX hR x4 σ hT
  · refine k_iload hX dDe_cheapestMove_41_14 rfl ?_
    refine k_aload_n hX dDe_cheapestMove_41_16 rfl ?_
    refine k_iload_n hX dDe_cheapestMove_41_17 rfl ?_
    refine k_iload hX dDe_cheapestMove_41_18 rfl ?_
    refine k_iadd hX dDe_cheapestMove_41_20 ?_
    refine k_iald hX (by decide) rfl dDe_cheapestMove_41_21 rfl (fun y1 => ?_)
    refine k_aload_n hX dDe_cheapestMove_41_22 rfl ?_
    refine gf_115 hX dDe_cheapestMove_41_23 ?_
    refine k_iload hX dDe_cheapestMove_41_26 rfl ?_
    refine k_bipush hX dDe_cheapestMove_41_28 (by decide) ?_
    refine k_imul hX dDe_cheapestMove_41_30 ?_
    refine k_iload_n hX dDe_cheapestMove_41_31 rfl ?_
    refine k_iadd hX dDe_cheapestMove_41_32 ?_
    refine k_iald hX (by decide) rfl dDe_cheapestMove_41_33 rfl (fun y2 => ?_)
    refine k_iadd hX dDe_cheapestMove_41_34 ?_
    refine k_mmin hX (by decide) (Nat.le_of_ble_eq_true rfl) tw_768 tw_379 tw_12 tw_380 dDe_cheapestMove_41_35 (fun y3 => ?_)
    refine k_istore (L' := [lq 8, lq 41, li x2, li x3, li y3, li x5]) hX dDe_cheapestMove_41_38 rfl (by decide) rfl ?_
    refine k_iincL (Lf := fun y4 => [lq 8, lq 41, li x2, li x3, li y3, li y4]) hX dDe_cheapestMove_41_40 rfl (by decide) rfl (fun _ => rfl) (fun y4 => ?_)
    refine k_goto (tgt := 7) hX dDe_cheapestMove_41_43 (by decide) ?_
    exact k_back (hb0 (y3, y4, σ))
set_option maxRecDepth 100000 in
set_option maxHeartbeats 4000000 in
theorem tDe_cheapestMove_41_L7 {X : KC} {q : Int × KM} (hX : kOk X 1 prog_2_method_4_code 6 "KeyPath$Detours") (hR : kRet X (some .int) q) (x2 x3 x4 x5 : Int) (σ : KM) {Θ : (Int × KM) → Prop} (hT : ∀ z, Θ (z) → z = q) : kJ X 7 [lq 8, lq 41, li x2, li x3, li x4, li x5] [] σ (fDe_cheapestMove_41_L7 x2 x3 x4 x5 σ) Θ :=
  k_iter (f := fun s => fDe_cheapestMove_41_B7 x2 x3 s.1 s.2.1 s.2.2) (Lf := fun s => [lq 8, lq 41, li x2, li x3, li s.1, li s.2.1]) (mf := fun s => s.2.2) (Θ := Θ) (fun s => tDe_cheapestMove_41_B7 hX hR x2 x3 s.1 s.2.1 s.2.2 hT (fun _ h9 => h9)) kF (x4, x5, σ)
set_option maxRecDepth 100000 in
set_option maxHeartbeats 4000000 in
theorem sDe_cheapestMove_41 (x2 x3 : Int) (σ : KM) : kSem 1 (⟨"KeyPath$Detours", "cheapestMove", "(LKeyPath$PathFinder;[III)I"⟩ : MethodName) prog_2_method_4_code 6 (some .int) [kr 8, kr 41, ki x2, ki x3] σ (fDe_cheapestMove_41 x2 x3 σ) := by
  refine kSem.of (L0 := [lq 8, lq 41, li x2, li x3, none, none]) (by decide) (Nat.le_of_ble_eq_true rfl) rfl (fun X q hX hR => ?_)
  have hT : ∀ z : Int × KM, (fun z => z = q) z → z = q := fun _ h => h
  refine k_ldc (v := 1000000000) (w := 0) hX dDe_cheapestMove_41_0 tw_767 ?_
  refine k_istore (L' := [lq 8, lq 41, li x2, li x3, li 1000000000, none]) hX dDe_cheapestMove_41_2 rfl (by decide) rfl ?_
  refine k_iconst hX dDe_cheapestMove_41_4 ?_
  refine k_istore (L' := [lq 8, lq 41, li x2, li x3, li 1000000000, li 0]) hX dDe_cheapestMove_41_5 rfl (by decide) rfl ?_
  exact tDe_cheapestMove_41_L7 hX hR x2 x3 1000000000 0 σ hT
theorem cl_95 {X : KC} {d n : Nat} {cc : ByteArray} {pc : Nat} {L : List (Option KV)} {st : List KV} {σ : KM} {Z : Type} {Θ : Z → Prop} {G : Int → KM → Option Z} {x2 x3 : Int} (hX : kOk X d cc n "KeyPath$Detours") (hdd : 1 + 1 ≤ d) (hst : k_cat st ≤ 8) (hd : decode cc pc = .ok (.invokestatic 41, 3)) (h : ∀ r τ, kJ X (pc + 3) L (ki r :: st) τ (G r τ) Θ) : kJ X pc L (ki x3 :: ki x2 :: kr 41 :: kr 8 :: st) σ (kCall (fDe_cheapestMove_41 x2 x3 σ) G) Θ :=
  k_callS (np := 4) (av := [kr 8, kr 41, ki x2, ki x3]) (ret := (some .int)) hX (sDe_cheapestMove_41 _ _ σ) ⟨⟨hdd, by decide⟩, tw_766, tw_10, by decide +kernel⟩ rfl tw_764 tw_765 hst hd h
theorem dDe_lookAhead_0 : decode prog_2_method_3_code 0 = .ok (.aload_n 0, 1) := by decide +kernel
theorem dDe_lookAhead_1 : decode prog_2_method_3_code 1 = .ok (.getfield 24, 3) := by decide +kernel
theorem dDe_lookAhead_4 : decode prog_2_method_3_code 4 = .ok (.ifCond .eq 4, 3) := by decide +kernel
theorem dDe_lookAhead_7 : decode prog_2_method_3_code 7 = .ok (.return_, 1) := by decide +kernel
theorem dDe_lookAhead_8 : decode prog_2_method_3_code 8 = .ok (.iconst 0, 1) := by decide +kernel
theorem dDe_lookAhead_9 : decode prog_2_method_3_code 9 = .ok (.istore_n 2, 1) := by decide +kernel
theorem dDe_lookAhead_10 : decode prog_2_method_3_code 10 = .ok (.iload_n 2, 1) := by decide +kernel
theorem dDe_lookAhead_11 : decode prog_2_method_3_code 11 = .ok (.aload_n 1, 1) := by decide +kernel
theorem dDe_lookAhead_12 : decode prog_2_method_3_code 12 = .ok (.getfield 31, 3) := by decide +kernel
theorem dDe_lookAhead_15 : decode prog_2_method_3_code 15 = .ok (.if_icmp .ge 98, 3) := by decide +kernel
theorem dDe_lookAhead_18 : decode prog_2_method_3_code 18 = .ok (.iconst 0, 1) := by decide +kernel
theorem dDe_lookAhead_19 : decode prog_2_method_3_code 19 = .ok (.istore_n 3, 1) := by decide +kernel
theorem dDe_lookAhead_20 : decode prog_2_method_3_code 20 = .ok (.iload_n 3, 1) := by decide +kernel
theorem dDe_lookAhead_21 : decode prog_2_method_3_code 21 = .ok (.bipush 24, 2) := by decide +kernel
theorem dDe_lookAhead_23 : decode prog_2_method_3_code 23 = .ok (.if_icmp .ge 84, 3) := by decide +kernel
theorem dDe_lookAhead_26 : decode prog_2_method_3_code 26 = .ok (.iload_n 2, 1) := by decide +kernel
theorem dDe_lookAhead_27 : decode prog_2_method_3_code 27 = .ok (.bipush 24, 2) := by decide +kernel
theorem dDe_lookAhead_29 : decode prog_2_method_3_code 29 = .ok (.imul, 1) := by decide +kernel
theorem dDe_lookAhead_30 : decode prog_2_method_3_code 30 = .ok (.iload_n 3, 1) := by decide +kernel
theorem dDe_lookAhead_31 : decode prog_2_method_3_code 31 = .ok (.iadd, 1) := by decide +kernel
theorem dDe_lookAhead_32 : decode prog_2_method_3_code 32 = .ok (.istore 4, 2) := by decide +kernel
theorem dDe_lookAhead_34 : decode prog_2_method_3_code 34 = .ok (.iconst 0, 1) := by decide +kernel
theorem dDe_lookAhead_35 : decode prog_2_method_3_code 35 = .ok (.istore 5, 2) := by decide +kernel
theorem dDe_lookAhead_37 : decode prog_2_method_3_code 37 = .ok (.aload_n 1, 1) := by decide +kernel
theorem dDe_lookAhead_38 : decode prog_2_method_3_code 38 = .ok (.getfield 37, 3) := by decide +kernel
theorem dDe_lookAhead_41 : decode prog_2_method_3_code 41 = .ok (.iload_n 2, 1) := by decide +kernel
theorem dDe_lookAhead_42 : decode prog_2_method_3_code 42 = .ok (.baload, 1) := by decide +kernel
theorem dDe_lookAhead_43 : decode prog_2_method_3_code 43 = .ok (.ifCond .eq 18, 3) := by decide +kernel
theorem dDe_lookAhead_46 : decode prog_2_method_3_code 46 = .ok (.aload_n 0, 1) := by decide +kernel
theorem dDe_lookAhead_47 : decode prog_2_method_3_code 47 = .ok (.getfield 9, 3) := by decide +kernel
theorem dDe_lookAhead_50 : decode prog_2_method_3_code 50 = .ok (.iload 4, 2) := by decide +kernel
theorem dDe_lookAhead_52 : decode prog_2_method_3_code 52 = .ok (.bipush 24, 2) := by decide +kernel
theorem dDe_lookAhead_54 : decode prog_2_method_3_code 54 = .ok (.isub, 1) := by decide +kernel
theorem dDe_lookAhead_55 : decode prog_2_method_3_code 55 = .ok (.iaload, 1) := by decide +kernel
theorem dDe_lookAhead_56 : decode prog_2_method_3_code 56 = .ok (.istore 5, 2) := by decide +kernel
theorem dDe_lookAhead_58 : decode prog_2_method_3_code 58 = .ok (.goto 24, 3) := by decide +kernel
theorem dDe_lookAhead_61 : decode prog_2_method_3_code 61 = .ok (.iload_n 2, 1) := by decide +kernel
theorem dDe_lookAhead_62 : decode prog_2_method_3_code 62 = .ok (.ifCond .le 20, 3) := by decide +kernel
theorem dDe_lookAhead_65 : decode prog_2_method_3_code 65 = .ok (.aload_n 1, 1) := by decide +kernel
theorem dDe_lookAhead_66 : decode prog_2_method_3_code 66 = .ok (.aload_n 0, 1) := by decide +kernel
theorem dDe_lookAhead_67 : decode prog_2_method_3_code 67 = .ok (.getfield 9, 3) := by decide +kernel
theorem dDe_lookAhead_70 : decode prog_2_method_3_code 70 = .ok (.iload_n 2, 1) := by decide +kernel
theorem dDe_lookAhead_71 : decode prog_2_method_3_code 71 = .ok (.iconst 1, 1) := by decide +kernel
theorem dDe_lookAhead_72 : decode prog_2_method_3_code 72 = .ok (.isub, 1) := by decide +kernel
theorem dDe_lookAhead_73 : decode prog_2_method_3_code 73 = .ok (.bipush 24, 2) := by decide +kernel
theorem dDe_lookAhead_75 : decode prog_2_method_3_code 75 = .ok (.imul, 1) := by decide +kernel
theorem dDe_lookAhead_76 : decode prog_2_method_3_code 76 = .ok (.iload_n 3, 1) := by decide +kernel
theorem dDe_lookAhead_77 : decode prog_2_method_3_code 77 = .ok (.invokestatic 41, 3) := by decide +kernel
theorem dDe_lookAhead_80 : decode prog_2_method_3_code 80 = .ok (.istore 5, 2) := by decide +kernel
theorem dDe_lookAhead_82 : decode prog_2_method_3_code 82 = .ok (.aload_n 0, 1) := by decide +kernel
theorem dDe_lookAhead_83 : decode prog_2_method_3_code 83 = .ok (.getfield 9, 3) := by decide +kernel
theorem dDe_lookAhead_86 : decode prog_2_method_3_code 86 = .ok (.iload 4, 2) := by decide +kernel
theorem dDe_lookAhead_88 : decode prog_2_method_3_code 88 = .ok (.aload_n 1, 1) := by decide +kernel
theorem dDe_lookAhead_89 : decode prog_2_method_3_code 89 = .ok (.getfield 45, 3) := by decide +kernel
theorem dDe_lookAhead_92 : decode prog_2_method_3_code 92 = .ok (.iload 4, 2) := by decide +kernel
theorem dDe_lookAhead_94 : decode prog_2_method_3_code 94 = .ok (.iaload, 1) := by decide +kernel
theorem dDe_lookAhead_95 : decode prog_2_method_3_code 95 = .ok (.iload 5, 2) := by decide +kernel
theorem dDe_lookAhead_97 : decode prog_2_method_3_code 97 = .ok (.invokestatic 48, 3) := by decide +kernel
theorem dDe_lookAhead_100 : decode prog_2_method_3_code 100 = .ok (.iastore, 1) := by decide +kernel
theorem dDe_lookAhead_101 : decode prog_2_method_3_code 101 = .ok (.iinc 3 1, 3) := by decide +kernel
theorem dDe_lookAhead_104 : decode prog_2_method_3_code 104 = .ok (.goto (-84), 3) := by decide +kernel
theorem dDe_lookAhead_107 : decode prog_2_method_3_code 107 = .ok (.iinc 2 1, 3) := by decide +kernel
theorem dDe_lookAhead_110 : decode prog_2_method_3_code 110 = .ok (.goto (-100), 3) := by decide +kernel
theorem dDe_lookAhead_113 : decode prog_2_method_3_code 113 = .ok (.aload_n 0, 1) := by decide +kernel
theorem dDe_lookAhead_114 : decode prog_2_method_3_code 114 = .ok (.iconst 1, 1) := by decide +kernel
theorem dDe_lookAhead_115 : decode prog_2_method_3_code 115 = .ok (.putfield 24, 3) := by decide +kernel
theorem dDe_lookAhead_118 : decode prog_2_method_3_code 118 = .ok (.return_, 1) := by decide +kernel
set_option maxRecDepth 100000 in
set_option maxHeartbeats 4000000 in
theorem tDe_lookAhead_J113 {X : KC} {q : Int × KM} (hX : kOk X 2 prog_2_method_3_code 6 "KeyPath$Detours") (hR : kRet X none q) (σ : KM) {Θ : (Int × KM) → Prop} (hT : ∀ z, Θ (z) → z = q) : kJ X 113 [lq 9, lq 8, none, none, none, none] [] σ (fDe_lookAhead_J113 σ) Θ := by
  refine k_aload_n hX dDe_lookAhead_113 rfl ?_
  refine k_iconst hX dDe_lookAhead_114 ?_
  refine gz_68 hX dDe_lookAhead_115 (fun τ1 => ?_)
  exact k_vret hX hR hT dDe_lookAhead_118
set_option maxRecDepth 100000 in
set_option maxHeartbeats 4000000 in
theorem tDe_lookAhead_J107 {X : KC} {q : Int × KM} (hX : kOk X 2 prog_2_method_3_code 6 "KeyPath$Detours") (hR : kRet X none q) (x2 : Int) (σ : KM) {Θ : ((Int × KM) ⊕ (Int × KM)) → Prop} (hT : ∀ z, Θ (.inr (z)) → z = q) (hb0 : ∀ s : Int × KM, Θ (.inl s) → kW X 10 [lq 9, lq 8, li s.1, none, none, none] [] s.2) : kJ X 107 [lq 9, lq 8, li x2, none, none, none] [] σ (fDe_lookAhead_J107 x2 σ) Θ := by
  refine k_iincL (Lf := fun y1 => [lq 9, lq 8, li y1, none, none, none]) hX dDe_lookAhead_107 rfl (by decide) rfl (fun _ => rfl) (fun y1 => ?_)
  refine k_goto (tgt := 10) hX dDe_lookAhead_110 (by decide) ?_
  exact k_back (hb0 (y1, σ))
set_option maxRecDepth 100000 in
set_option maxHeartbeats 4000000 in
theorem tDe_lookAhead_J82 {X : KC} {q : Int × KM} (hX : kOk X 2 prog_2_method_3_code 6 "KeyPath$Detours") (hR : kRet X none q) (x2 x3 x4 x5 : Int) (σ : KM) {Θ : ((Int × KM) ⊕ ((Int × KM) ⊕ (Int × KM))) → Prop} (hT : ∀ z, Θ (.inr (.inr (z))) → z = q) (hb0 : ∀ s : Int × KM, Θ (.inl s) → kW X 20 [lq 9, lq 8, li x2, li s.1, none, none] [] s.2) (hb1 : ∀ s : Int × KM, Θ (.inr (.inl s)) → kW X 10 [lq 9, lq 8, li s.1, none, none, none] [] s.2) : kJ X 82 [lq 9, lq 8, li x2, li x3, li x4, li x5] [] σ (fDe_lookAhead_J82 x2 x3 x4 x5 σ) Θ := by
  refine k_aload_n hX dDe_lookAhead_82 rfl ?_
  refine gf_145 hX dDe_lookAhead_83 ?_
  refine k_iload hX dDe_lookAhead_86 rfl ?_
  refine k_aload_n hX dDe_lookAhead_88 rfl ?_
  refine gf_113 hX dDe_lookAhead_89 ?_
  refine k_iload hX dDe_lookAhead_92 rfl ?_
  refine k_iald hX (by decide) rfl dDe_lookAhead_94 rfl (fun y1 => ?_)
  refine k_iload hX dDe_lookAhead_95 rfl ?_
  refine cl_57 hX (by decide) (Nat.le_of_ble_eq_true rfl) dDe_lookAhead_97 (fun r3 τ2 => ?_)
  refine k_iast hX (by decide) rfl dDe_lookAhead_100 rfl (fun τ4 => ?_)
  refine k_iincL (Lf := fun y5 => [lq 9, lq 8, li x2, li y5, li x4, li x5]) hX dDe_lookAhead_101 rfl (by decide) rfl (fun _ => rfl) (fun y5 => ?_)
  refine k_goto (tgt := 20) hX dDe_lookAhead_104 (by decide) ?_
  refine k_less [true, true, true, true, false, false] (L' := [lq 9, lq 8, li x2, li y5, none, none]) rfl ?_
  exact k_back (hb0 (y5, τ4))
set_option maxRecDepth 100000 in
set_option maxHeartbeats 4000000 in
theorem tDe_lookAhead_B20 {X : KC} {q : Int × KM} (hX : kOk X 2 prog_2_method_3_code 6 "KeyPath$Detours") (hR : kRet X none q) (x2 x3 : Int) (σ : KM) {Θ : ((Int × KM) ⊕ ((Int × KM) ⊕ (Int × KM))) → Prop} (hT : ∀ z, Θ (.inr (.inr (z))) → z = q) (hb0 : ∀ s : Int × KM, Θ (.inl s) → kW X 20 [lq 9, lq 8, li x2, li s.1, none, none] [] s.2) (hb1 : ∀ s : Int × KM, Θ (.inr (.inl s)) → kW X 10 [lq 9, lq 8, li s.1, none, none, none] [] s.2) : kJ X 20 [lq 9, lq 8, li x2, li x3, none, none] [] σ (fDe_lookAhead_B20 x2 x3 σ) Θ := by
  refine k_iload_n hX dDe_lookAhead_20 rfl ?_
  refine k_bipush hX dDe_lookAhead_21 (by decide) ?_
  refine k_icmp_ge (tgt := 107) hX dDe_lookAhead_23 (by decide) ?_ ?_
  · refine k_exit ?_
    refine k_less [true, true, true, false, true, true] (L' := [lq 9, lq 8, li x2, none, none, none]) rfl ?_
    exact tDe_lookAhead_J107 hX hR x2 σ hT hb1
  · refine k_iload_n hX dDe_lookAhead_26 rfl ?_
    refine k_bipush hX dDe_lookAhead_27 (by decide) ?_
    refine k_imul hX dDe_lookAhead_29 ?_
    refine k_iload_n hX dDe_lookAhead_30 rfl ?_
    refine k_iadd hX dDe_lookAhead_31 ?_
    refine k_istoreL (Lf := fun y1 => [lq 9, lq 8, li x2, li x3, li y1, none]) hX dDe_lookAhead_32 rfl (by decide) (fun _ => rfl) (fun y1 => ?_)
    refine k_iconst hX dDe_lookAhead_34 ?_
    refine k_istore (L' := [lq 9, lq 8, li x2, li x3, li y1, li 0]) hX dDe_lookAhead_35 rfl (by decide) rfl ?_
    refine k_aload_n hX dDe_lookAhead_37 rfl ?_
    refine gf_114 hX dDe_lookAhead_38 ?_
    refine k_iload_n hX dDe_lookAhead_41 rfl ?_
    refine k_zald hX (by decide) rfl dDe_lookAhead_42 rfl (fun y2 => ?_)
    refine k_if_eq (tgt := 61) hX dDe_lookAhead_43 (by decide) ?_ ?_
    · refine k_iload_n hX dDe_lookAhead_61 rfl ?_
      refine k_if_le (tgt := 82) hX dDe_lookAhead_62 (by decide) ?_ ?_
      · exact tDe_lookAhead_J82 hX hR x2 x3 y1 0 σ hT hb0 hb1
      · refine k_aload_n hX dDe_lookAhead_65 rfl ?_
        refine k_aload_n hX dDe_lookAhead_66 rfl ?_
        refine gf_145 hX dDe_lookAhead_67 ?_
        refine k_iload_n hX dDe_lookAhead_70 rfl ?_
        refine k_iconst hX dDe_lookAhead_71 ?_
        refine k_isub hX dDe_lookAhead_72 ?_
        refine k_bipush hX dDe_lookAhead_73 (by decide) ?_
        refine k_imul hX dDe_lookAhead_75 ?_
        refine k_iload_n hX dDe_lookAhead_76 rfl ?_
        refine cl_95 hX (by decide) (Nat.le_of_ble_eq_true rfl) dDe_lookAhead_77 (fun r4 τ3 => ?_)
        refine k_istore (L' := [lq 9, lq 8, li x2, li x3, li y1, li r4]) hX dDe_lookAhead_80 rfl (by decide) rfl ?_
        exact tDe_lookAhead_J82 hX hR x2 x3 y1 r4 τ3 hT hb0 hb1
    · refine k_aload_n hX dDe_lookAhead_46 rfl ?_
      refine gf_145 hX dDe_lookAhead_47 ?_
      refine k_iload hX dDe_lookAhead_50 rfl ?_
      refine k_bipush hX dDe_lookAhead_52 (by decide) ?_
      refine k_isub hX dDe_lookAhead_54 ?_
      refine k_iald hX (by decide) rfl dDe_lookAhead_55 rfl (fun y5 => ?_)
      refine k_istore (L' := [lq 9, lq 8, li x2, li x3, li y1, li y5]) hX dDe_lookAhead_56 rfl (by decide) rfl ?_
      refine k_goto (tgt := 82) hX dDe_lookAhead_58 (by decide) ?_
      exact tDe_lookAhead_J82 hX hR x2 x3 y1 y5 σ hT hb0 hb1
set_option maxRecDepth 100000 in
set_option maxHeartbeats 4000000 in
theorem tDe_lookAhead_L20 {X : KC} {q : Int × KM} (hX : kOk X 2 prog_2_method_3_code 6 "KeyPath$Detours") (hR : kRet X none q) (x2 x3 : Int) (σ : KM) {Θ : ((Int × KM) ⊕ (Int × KM)) → Prop} (hT : ∀ z, Θ (.inr (z)) → z = q) (hb0 : ∀ s : Int × KM, Θ (.inl s) → kW X 10 [lq 9, lq 8, li s.1, none, none, none] [] s.2) : kJ X 20 [lq 9, lq 8, li x2, li x3, none, none] [] σ (fDe_lookAhead_L20 x2 x3 σ) Θ :=
  k_iter (f := fun s => fDe_lookAhead_B20 x2 s.1 s.2) (Lf := fun s => [lq 9, lq 8, li x2, li s.1, none, none]) (mf := fun s => s.2) (Θ := Θ) (fun s => tDe_lookAhead_B20 hX hR x2 s.1 s.2 hT (fun _ h9 => h9) hb0) kF (x3, σ)
set_option maxRecDepth 100000 in
set_option maxHeartbeats 4000000 in
theorem tDe_lookAhead_B10 {X : KC} {q : Int × KM} (hX : kOk X 2 prog_2_method_3_code 6 "KeyPath$Detours") (hR : kRet X none q) (x2 : Int) (σ : KM) {Θ : ((Int × KM) ⊕ (Int × KM)) → Prop} (hT : ∀ z, Θ (.inr (z)) → z = q) (hb0 : ∀ s : Int × KM, Θ (.inl s) → kW X 10 [lq 9, lq 8, li s.1, none, none, none] [] s.2) : kJ X 10 [lq 9, lq 8, li x2, none, none, none] [] σ (fDe_lookAhead_B10 x2 σ) Θ := by
  refine k_iload_n hX dDe_lookAhead_10 rfl ?_
  refine k_aload_n hX dDe_lookAhead_11 rfl ?_
  refine gf_111 hX dDe_lookAhead_12 ?_
  refine k_icmp_ge (tgt := 113) hX dDe_lookAhead_15 (by decide) ?_ ?_
  · refine k_exit ?_
    refine k_less [true, true, false, true, true, true] (L' := [lq 9, lq 8, none, none, none, none]) rfl ?_
    exact tDe_lookAhead_J113 hX hR σ hT
  · refine k_iconst hX dDe_lookAhead_18 ?_
    refine k_istore_n (L' := [lq 9, lq 8, li x2, li 0, none, none]) hX dDe_lookAhead_19 rfl (by decide) rfl ?_
    exact tDe_lookAhead_L20 hX hR x2 0 σ hT hb0
set_option maxRecDepth 100000 in
set_option maxHeartbeats 4000000 in
theorem tDe_lookAhead_L10 {X : KC} {q : Int × KM} (hX : kOk X 2 prog_2_method_3_code 6 "KeyPath$Detours") (hR : kRet X none q) (x2 : Int) (σ : KM) {Θ : (Int × KM) → Prop} (hT : ∀ z, Θ (z) → z = q) : kJ X 10 [lq 9, lq 8, li x2, none, none, none] [] σ (fDe_lookAhead_L10 x2 σ) Θ :=
  k_iter (f := fun s => fDe_lookAhead_B10 s.1 s.2) (Lf := fun s => [lq 9, lq 8, li s.1, none, none, none]) (mf := fun s => s.2) (Θ := Θ) (fun s => tDe_lookAhead_B10 hX hR s.1 s.2 hT (fun _ h9 => h9)) kF (x2, σ)
set_option maxRecDepth 100000 in
set_option maxHeartbeats 4000000 in
theorem sDe_lookAhead (σ : KM) : kSem 2 (⟨"KeyPath$Detours", "lookAhead", "(LKeyPath$PathFinder;)V"⟩ : MethodName) prog_2_method_3_code 6 none [kr 9, kr 8] σ (fDe_lookAhead σ) := by
  refine kSem.of (L0 := [lq 9, lq 8, none, none, none, none]) (by decide) (Nat.le_of_ble_eq_true rfl) rfl (fun X q hX hR => ?_)
  have hT : ∀ z : Int × KM, (fun z => z = q) z → z = q := fun _ h => h
  refine k_aload_n hX dDe_lookAhead_0 rfl ?_
  refine gf_144 hX dDe_lookAhead_1 ?_
  refine k_if_eq (tgt := 8) hX dDe_lookAhead_4 (by decide) ?_ ?_
  · refine k_iconst hX dDe_lookAhead_8 ?_
    refine k_istore_n (L' := [lq 9, lq 8, li 0, none, none, none]) hX dDe_lookAhead_9 rfl (by decide) rfl ?_
    exact tDe_lookAhead_L10 hX hR 0 σ hT
  · exact k_vret hX hR hT dDe_lookAhead_7
theorem cl_96 {X : KC} {d n : Nat} {cc : ByteArray} {pc : Nat} {L : List (Option KV)} {st : List KV} {σ : KM} {Z : Type} {Θ : Z → Prop} {G : Int → KM → Option Z} (hX : kOk X d cc n "KeyPath") (hdd : 2 + 1 ≤ d) (hst : k_cat st ≤ 8) (hd : decode cc pc = .ok (.invokevirtual 246, 3)) (h : ∀ r τ, kJ X (pc + 3) L (st) τ (G r τ) Θ) : kJ X pc L (kr 8 :: kr 9 :: st) σ (kCall (fDe_lookAhead σ) G) Θ :=
  k_callV (np := 1) (av := [kr 8]) (ret := none) hX (by decide) rfl rfl rfl (sDe_lookAhead σ) ⟨⟨hdd, by decide⟩, tw_763, tw_10, by decide +kernel⟩ rfl tw_760 tw_761 tw_762 hst hd h
theorem dDe_costThrough_0 : decode prog_2_method_5_code 0 = .ok (.iload_n 2, 1) := by decide +kernel
theorem dDe_costThrough_1 : decode prog_2_method_5_code 1 = .ok (.bipush 24, 2) := by decide +kernel
theorem dDe_costThrough_3 : decode prog_2_method_5_code 3 = .ok (.imul, 1) := by decide +kernel
theorem dDe_costThrough_4 : decode prog_2_method_5_code 4 = .ok (.iload_n 3, 1) := by decide +kernel
theorem dDe_costThrough_5 : decode prog_2_method_5_code 5 = .ok (.iadd, 1) := by decide +kernel
theorem dDe_costThrough_6 : decode prog_2_method_5_code 6 = .ok (.istore 4, 2) := by decide +kernel
theorem dDe_costThrough_8 : decode prog_2_method_5_code 8 = .ok (.aload_n 0, 1) := by decide +kernel
theorem dDe_costThrough_9 : decode prog_2_method_5_code 9 = .ok (.getfield 9, 3) := by decide +kernel
theorem dDe_costThrough_12 : decode prog_2_method_5_code 12 = .ok (.iload 4, 2) := by decide +kernel
theorem dDe_costThrough_14 : decode prog_2_method_5_code 14 = .ok (.iaload, 1) := by decide +kernel
theorem dDe_costThrough_15 : decode prog_2_method_5_code 15 = .ok (.ldc 52, 2) := by decide +kernel
theorem dDe_costThrough_17 : decode prog_2_method_5_code 17 = .ok (.if_icmp .ge 15, 3) := by decide +kernel
theorem dDe_costThrough_20 : decode prog_2_method_5_code 20 = .ok (.aload_n 1, 1) := by decide +kernel
theorem dDe_costThrough_21 : decode prog_2_method_5_code 21 = .ok (.getfield 61, 3) := by decide +kernel
theorem dDe_costThrough_24 : decode prog_2_method_5_code 24 = .ok (.iload 4, 2) := by decide +kernel
theorem dDe_costThrough_26 : decode prog_2_method_5_code 26 = .ok (.iaload, 1) := by decide +kernel
theorem dDe_costThrough_27 : decode prog_2_method_5_code 27 = .ok (.ldc 52, 2) := by decide +kernel
theorem dDe_costThrough_29 : decode prog_2_method_5_code 29 = .ok (.if_icmp .lt 6, 3) := by decide +kernel
theorem dDe_costThrough_32 : decode prog_2_method_5_code 32 = .ok (.ldc 52, 2) := by decide +kernel
theorem dDe_costThrough_34 : decode prog_2_method_5_code 34 = .ok (.ireturn, 1) := by decide +kernel
theorem dDe_costThrough_35 : decode prog_2_method_5_code 35 = .ok (.aload_n 0, 1) := by decide +kernel
theorem dDe_costThrough_36 : decode prog_2_method_5_code 36 = .ok (.getfield 9, 3) := by decide +kernel
theorem dDe_costThrough_39 : decode prog_2_method_5_code 39 = .ok (.iload 4, 2) := by decide +kernel
theorem dDe_costThrough_41 : decode prog_2_method_5_code 41 = .ok (.iaload, 1) := by decide +kernel
theorem dDe_costThrough_42 : decode prog_2_method_5_code 42 = .ok (.aload_n 1, 1) := by decide +kernel
theorem dDe_costThrough_43 : decode prog_2_method_5_code 43 = .ok (.getfield 61, 3) := by decide +kernel
theorem dDe_costThrough_46 : decode prog_2_method_5_code 46 = .ok (.iload 4, 2) := by decide +kernel
theorem dDe_costThrough_48 : decode prog_2_method_5_code 48 = .ok (.iaload, 1) := by decide +kernel
theorem dDe_costThrough_49 : decode prog_2_method_5_code 49 = .ok (.iadd, 1) := by decide +kernel
theorem dDe_costThrough_50 : decode prog_2_method_5_code 50 = .ok (.aload_n 1, 1) := by decide +kernel
theorem dDe_costThrough_51 : decode prog_2_method_5_code 51 = .ok (.getfield 45, 3) := by decide +kernel
theorem dDe_costThrough_54 : decode prog_2_method_5_code 54 = .ok (.iload 4, 2) := by decide +kernel
theorem dDe_costThrough_56 : decode prog_2_method_5_code 56 = .ok (.iaload, 1) := by decide +kernel
theorem dDe_costThrough_57 : decode prog_2_method_5_code 57 = .ok (.isub, 1) := by decide +kernel
theorem dDe_costThrough_58 : decode prog_2_method_5_code 58 = .ok (.ireturn, 1) := by decide +kernel
set_option maxRecDepth 100000 in
set_option maxHeartbeats 4000000 in
theorem tDe_costThrough_J32 {X : KC} {q : Int × KM} (hX : kOk X 1 prog_2_method_5_code 5 "KeyPath$Detours") (hR : kRet X (some .int) q) (σ : KM) {Θ : (Int × KM) → Prop} (hT : ∀ z, Θ (z) → z = q) : kJ X 32 [lq 9, lq 8, none, none, none] [] σ (fDe_costThrough_J32 σ) Θ := by
  refine k_ldc (v := 1000000000) (w := 0) hX dDe_costThrough_32 tw_767 ?_
  exact k_iret hX hR hT dDe_costThrough_34
set_option maxRecDepth 100000 in
set_option maxHeartbeats 4000000 in
theorem sDe_costThrough (x2 x3 : Int) (σ : KM) : kSem 1 (⟨"KeyPath$Detours", "costThrough", "(LKeyPath$PathFinder;II)I"⟩ : MethodName) prog_2_method_5_code 5 (some .int) [kr 9, kr 8, ki x2, ki x3] σ (fDe_costThrough x2 x3 σ) := by
  refine kSem.of (L0 := [lq 9, lq 8, li x2, li x3, none]) (by decide) (Nat.le_of_ble_eq_true rfl) rfl (fun X q hX hR => ?_)
  have hT : ∀ z : Int × KM, (fun z => z = q) z → z = q := fun _ h => h
  refine k_iload_n hX dDe_costThrough_0 rfl ?_
  refine k_bipush hX dDe_costThrough_1 (by decide) ?_
  refine k_imul hX dDe_costThrough_3 ?_
  refine k_iload_n hX dDe_costThrough_4 rfl ?_
  refine k_iadd hX dDe_costThrough_5 ?_
  refine k_istoreL (Lf := fun y1 => [lq 9, lq 8, li x2, li x3, li y1]) hX dDe_costThrough_6 rfl (by decide) (fun _ => rfl) (fun y1 => ?_)
  refine k_aload_n hX dDe_costThrough_8 rfl ?_
  refine gf_145 hX dDe_costThrough_9 ?_
  refine k_iload hX dDe_costThrough_12 rfl ?_
  refine k_iald hX (by decide) rfl dDe_costThrough_14 rfl (fun y2 => ?_)
  refine k_ldc (v := 1000000000) (w := 0) hX dDe_costThrough_15 tw_767 ?_
  refine k_icmp_ge (tgt := 32) hX dDe_costThrough_17 (by decide) ?_ ?_
  · refine k_less [true, true, false, false, false] (L' := [lq 9, lq 8, none, none, none]) rfl ?_
    exact tDe_costThrough_J32 hX hR σ hT
  · refine k_aload_n hX dDe_costThrough_20 rfl ?_
    refine gf_148 hX dDe_costThrough_21 ?_
    refine k_iload hX dDe_costThrough_24 rfl ?_
    refine k_iald hX (by decide) rfl dDe_costThrough_26 rfl (fun y3 => ?_)
    refine k_ldc (v := 1000000000) (w := 0) hX dDe_costThrough_27 tw_767 ?_
    refine k_icmp_lt (tgt := 35) hX dDe_costThrough_29 (by decide) ?_ ?_
    · refine k_aload_n hX dDe_costThrough_35 rfl ?_
      refine gf_145 hX dDe_costThrough_36 ?_
      refine k_iload hX dDe_costThrough_39 rfl ?_
      refine k_iald hX (by decide) rfl dDe_costThrough_41 rfl (fun y4 => ?_)
      refine k_aload_n hX dDe_costThrough_42 rfl ?_
      refine gf_148 hX dDe_costThrough_43 ?_
      refine k_iload hX dDe_costThrough_46 rfl ?_
      refine k_iald hX (by decide) rfl dDe_costThrough_48 rfl (fun y5 => ?_)
      refine k_iadd hX dDe_costThrough_49 ?_
      refine k_aload_n hX dDe_costThrough_50 rfl ?_
      refine gf_113 hX dDe_costThrough_51 ?_
      refine k_iload hX dDe_costThrough_54 rfl ?_
      refine k_iald hX (by decide) rfl dDe_costThrough_56 rfl (fun y6 => ?_)
      refine k_isub hX dDe_costThrough_57 ?_
      exact k_iret hX hR hT dDe_costThrough_58
    · refine k_less [true, true, false, false, false] (L' := [lq 9, lq 8, none, none, none]) rfl ?_
      exact tDe_costThrough_J32 hX hR σ hT
theorem cl_97 {X : KC} {d n : Nat} {cc : ByteArray} {pc : Nat} {L : List (Option KV)} {st : List KV} {σ : KM} {Z : Type} {Θ : Z → Prop} {G : Int → KM → Option Z} {x2 x3 : Int} (hX : kOk X d cc n "KeyPath$Detours") (hdd : 1 + 1 ≤ d) (hst : k_cat st ≤ 8) (hd : decode cc pc = .ok (.invokevirtual 64, 3)) (h : ∀ r τ, kJ X (pc + 3) L (ki r :: st) τ (G r τ) Θ) : kJ X pc L (ki x3 :: ki x2 :: kr 8 :: kr 9 :: st) σ (kCall (fDe_costThrough x2 x3 σ) G) Θ :=
  k_callV (np := 3) (av := [kr 8, ki x2, ki x3]) (ret := (some .int)) hX (by decide) rfl rfl rfl (sDe_costThrough _ _ σ) ⟨⟨hdd, by decide⟩, tw_773, tw_10, by decide +kernel⟩ rfl tw_785 tw_771 tw_772 hst hd h
theorem cl_102 {X : KC} {d n : Nat} {cc : ByteArray} {pc : Nat} {L : List (Option KV)} {st : List KV} {σ : KM} {Z : Type} {Θ : Z → Prop} {G : Int → KM → Option Z} {x2 x3 : Int} (hX : kOk X d cc n "KeyPath") (hdd : 1 + 1 ≤ d) (hst : k_cat st ≤ 8) (hd : decode cc pc = .ok (.invokevirtual 250, 3)) (h : ∀ r τ, kJ X (pc + 3) L (ki r :: st) τ (G r τ) Θ) : kJ X pc L (ki x3 :: ki x2 :: kr 8 :: kr 9 :: st) σ (kCall (fDe_costThrough x2 x3 σ) G) Θ :=
  k_callV (np := 3) (av := [kr 8, ki x2, ki x3]) (ret := (some .int)) hX (by decide) rfl rfl rfl (sDe_costThrough _ _ σ) ⟨⟨hdd, by decide⟩, tw_773, tw_10, by decide +kernel⟩ rfl tw_770 tw_771 tw_772 hst hd h
theorem dDe_leastAside_0 : decode prog_2_method_7_code 0 = .ok (.ldc 52, 2) := by decide +kernel
theorem dDe_leastAside_2 : decode prog_2_method_7_code 2 = .ok (.istore_n 3, 1) := by decide +kernel
theorem dDe_leastAside_3 : decode prog_2_method_7_code 3 = .ok (.iconst 0, 1) := by decide +kernel
theorem dDe_leastAside_4 : decode prog_2_method_7_code 4 = .ok (.istore 4, 2) := by decide +kernel
theorem dDe_leastAside_6 : decode prog_2_method_7_code 6 = .ok (.iload 4, 2) := by decide +kernel
theorem dDe_leastAside_8 : decode prog_2_method_7_code 8 = .ok (.bipush 24, 2) := by decide +kernel
theorem dDe_leastAside_10 : decode prog_2_method_7_code 10 = .ok (.if_icmp .ge 33, 3) := by decide +kernel
theorem dDe_leastAside_13 : decode prog_2_method_7_code 13 = .ok (.iload 4, 2) := by decide +kernel
theorem dDe_leastAside_15 : decode prog_2_method_7_code 15 = .ok (.aload_n 1, 1) := by decide +kernel
theorem dDe_leastAside_16 : decode prog_2_method_7_code 16 = .ok (.getfield 68, 3) := by decide +kernel
theorem dDe_leastAside_19 : decode prog_2_method_7_code 19 = .ok (.iload_n 2, 1) := by decide +kernel
theorem dDe_leastAside_20 : decode prog_2_method_7_code 20 = .ok (.iaload, 1) := by decide +kernel
theorem dDe_leastAside_21 : decode prog_2_method_7_code 21 = .ok (.if_icmp .eq 16, 3) := by decide +kernel
theorem dDe_leastAside_24 : decode prog_2_method_7_code 24 = .ok (.iload_n 3, 1) := by decide +kernel
theorem dDe_leastAside_25 : decode prog_2_method_7_code 25 = .ok (.aload_n 0, 1) := by decide +kernel
theorem dDe_leastAside_26 : decode prog_2_method_7_code 26 = .ok (.aload_n 1, 1) := by decide +kernel
theorem dDe_leastAside_27 : decode prog_2_method_7_code 27 = .ok (.iload_n 2, 1) := by decide +kernel
theorem dDe_leastAside_28 : decode prog_2_method_7_code 28 = .ok (.iload 4, 2) := by decide +kernel
theorem dDe_leastAside_30 : decode prog_2_method_7_code 30 = .ok (.invokevirtual 64, 3) := by decide +kernel
theorem dDe_leastAside_33 : decode prog_2_method_7_code 33 = .ok (.invokestatic 56, 3) := by decide +kernel
theorem dDe_leastAside_36 : decode prog_2_method_7_code 36 = .ok (.istore_n 3, 1) := by decide +kernel
theorem dDe_leastAside_37 : decode prog_2_method_7_code 37 = .ok (.iinc 4 1, 3) := by decide +kernel
theorem dDe_leastAside_40 : decode prog_2_method_7_code 40 = .ok (.goto (-34), 3) := by decide +kernel
theorem dDe_leastAside_43 : decode prog_2_method_7_code 43 = .ok (.iload_n 3, 1) := by decide +kernel
theorem dDe_leastAside_44 : decode prog_2_method_7_code 44 = .ok (.ireturn, 1) := by decide +kernel
set_option maxRecDepth 100000 in
set_option maxHeartbeats 4000000 in
theorem tDe_leastAside_J43 {X : KC} {q : Int × KM} (hX : kOk X 2 prog_2_method_7_code 5 "KeyPath$Detours") (hR : kRet X (some .int) q) (x3 : Int) (σ : KM) {Θ : (Int × KM) → Prop} (hT : ∀ z, Θ (z) → z = q) : kJ X 43 [lq 9, lq 8, none, li x3, none] [] σ (fDe_leastAside_J43 x3 σ) Θ := by
  refine k_iload_n hX dDe_leastAside_43 rfl ?_
  exact k_iret hX hR hT dDe_leastAside_44
set_option maxRecDepth 100000 in
set_option maxHeartbeats 4000000 in
theorem tDe_leastAside_J37 {X : KC} {q : Int × KM} (hX : kOk X 2 prog_2_method_7_code 5 "KeyPath$Detours") (hR : kRet X (some .int) q) (x2 x3 x4 : Int) (σ : KM) {Θ : ((Int × Int × KM) ⊕ (Int × KM)) → Prop} (hT : ∀ z, Θ (.inr (z)) → z = q) (hb0 : ∀ s : Int × Int × KM, Θ (.inl s) → kW X 6 [lq 9, lq 8, li x2, li s.1, li s.2.1] [] s.2.2) : kJ X 37 [lq 9, lq 8, li x2, li x3, li x4] [] σ (fDe_leastAside_J37 x2 x3 x4 σ) Θ := by
  refine k_iincL (Lf := fun y1 => [lq 9, lq 8, li x2, li x3, li y1]) hX dDe_leastAside_37 rfl (by decide) rfl (fun _ => rfl) (fun y1 => ?_)
  refine k_goto (tgt := 6) hX dDe_leastAside_40 (by decide) ?_
  exact k_back (hb0 (x3, y1, σ))
set_option maxRecDepth 100000 in
set_option maxHeartbeats 4000000 in
theorem tDe_leastAside_B6 {X : KC} {q : Int × KM} (hX : kOk X 2 prog_2_method_7_code 5 "KeyPath$Detours") (hR : kRet X (some .int) q) (x2 x3 x4 : Int) (σ : KM) {Θ : ((Int × Int × KM) ⊕ (Int × KM)) → Prop} (hT : ∀ z, Θ (.inr (z)) → z = q) (hb0 : ∀ s : Int × Int × KM, Θ (.inl s) → kW X 6 [lq 9, lq 8, li x2, li s.1, li s.2.1] [] s.2.2) : kJ X 6 [lq 9, lq 8, li x2, li x3, li x4] [] σ (fDe_leastAside_B6 x2 x3 x4 σ) Θ := by
  refine k_iload hX dDe_leastAside_6 rfl ?_
  refine k_bipush hX dDe_leastAside_8 (by decide) ?_
  refine k_icmp_ge (tgt := 43) hX dDe_leastAside_10 (by decide) ?_ ?_
  · refine k_exit ?_
    refine k_less [true, true, false, true, false] (L' := [lq 9, lq 8, none, li x3, none]) rfl ?_
    exact tDe_leastAside_J43 hX hR x3 σ hT
  · refine k_iload hX dDe_leastAside_13 rfl ?_
    refine k_aload_n hX dDe_leastAside_15 rfl ?_
    refine gf_147 hX dDe_leastAside_16 ?_
    refine k_iload_n hX dDe_leastAside_19 rfl ?_
    refine k_iald hX (by decide) rfl dDe_leastAside_20 rfl (fun y1 => ?_)
    refine k_icmp_eq (tgt := 37) hX dDe_leastAside_21 (by decide) ?_ ?_
    · exact tDe_leastAside_J37 hX hR x2 x3 x4 σ hT hb0
    · refine k_iload_n hX dDe_leastAside_24 rfl ?_
      refine k_aload_n hX dDe_leastAside_25 rfl ?_
      refine k_aload_n hX dDe_leastAside_26 rfl ?_
      refine k_iload_n hX dDe_leastAside_27 rfl ?_
      refine k_iload hX dDe_leastAside_28 rfl ?_
      refine cl_97 hX (by decide) (Nat.le_of_ble_eq_true rfl) dDe_leastAside_30 (fun r3 τ2 => ?_)
      refine k_mmin hX (by decide) (Nat.le_of_ble_eq_true rfl) tw_768 tw_379 tw_12 tw_380 dDe_leastAside_33 (fun y4 => ?_)
      refine k_istore_n (L' := [lq 9, lq 8, li x2, li y4, li x4]) hX dDe_leastAside_36 rfl (by decide) rfl ?_
      exact tDe_leastAside_J37 hX hR x2 y4 x4 τ2 hT hb0
set_option maxRecDepth 100000 in
set_option maxHeartbeats 4000000 in
theorem tDe_leastAside_L6 {X : KC} {q : Int × KM} (hX : kOk X 2 prog_2_method_7_code 5 "KeyPath$Detours") (hR : kRet X (some .int) q) (x2 x3 x4 : Int) (σ : KM) {Θ : (Int × KM) → Prop} (hT : ∀ z, Θ (z) → z = q) : kJ X 6 [lq 9, lq 8, li x2, li x3, li x4] [] σ (fDe_leastAside_L6 x2 x3 x4 σ) Θ :=
  k_iter (f := fun s => fDe_leastAside_B6 x2 s.1 s.2.1 s.2.2) (Lf := fun s => [lq 9, lq 8, li x2, li s.1, li s.2.1]) (mf := fun s => s.2.2) (Θ := Θ) (fun s => tDe_leastAside_B6 hX hR x2 s.1 s.2.1 s.2.2 hT (fun _ h9 => h9)) kF (x3, x4, σ)
set_option maxRecDepth 100000 in
set_option maxHeartbeats 4000000 in
theorem sDe_leastAside (x2 : Int) (σ : KM) : kSem 2 (⟨"KeyPath$Detours", "leastAside", "(LKeyPath$PathFinder;I)I"⟩ : MethodName) prog_2_method_7_code 5 (some .int) [kr 9, kr 8, ki x2] σ (fDe_leastAside x2 σ) := by
  refine kSem.of (L0 := [lq 9, lq 8, li x2, none, none]) (by decide) (Nat.le_of_ble_eq_true rfl) rfl (fun X q hX hR => ?_)
  have hT : ∀ z : Int × KM, (fun z => z = q) z → z = q := fun _ h => h
  refine k_ldc (v := 1000000000) (w := 0) hX dDe_leastAside_0 tw_767 ?_
  refine k_istore_n (L' := [lq 9, lq 8, li x2, li 1000000000, none]) hX dDe_leastAside_2 rfl (by decide) rfl ?_
  refine k_iconst hX dDe_leastAside_3 ?_
  refine k_istore (L' := [lq 9, lq 8, li x2, li 1000000000, li 0]) hX dDe_leastAside_4 rfl (by decide) rfl ?_
  exact tDe_leastAside_L6 hX hR x2 1000000000 0 σ hT
theorem cl_98 {X : KC} {d n : Nat} {cc : ByteArray} {pc : Nat} {L : List (Option KV)} {st : List KV} {σ : KM} {Z : Type} {Θ : Z → Prop} {G : Int → KM → Option Z} {x2 : Int} (hX : kOk X d cc n "KeyPath") (hdd : 2 + 1 ≤ d) (hst : k_cat st ≤ 8) (hd : decode cc pc = .ok (.invokevirtual 263, 3)) (h : ∀ r τ, kJ X (pc + 3) L (ki r :: st) τ (G r τ) Θ) : kJ X pc L (ki x2 :: kr 8 :: kr 9 :: st) σ (kCall (fDe_leastAside x2 σ) G) Θ :=
  k_callV (np := 2) (av := [kr 8, ki x2]) (ret := (some .int)) hX (by decide) rfl rfl rfl (sDe_leastAside _ σ) ⟨⟨hdd, by decide⟩, tw_793, tw_10, by decide +kernel⟩ rfl tw_790 tw_791 tw_792 hst hd h
theorem dP_second_0 : decode prog_1_method_27_code 0 = .ok (.iconst 0, 1) := by decide +kernel
theorem dP_second_1 : decode prog_1_method_27_code 1 = .ok (.iconst 1, 1) := by decide +kernel
theorem dP_second_2 : decode prog_1_method_27_code 2 = .ok (.iload_n 1, 1) := by decide +kernel
theorem dP_second_3 : decode prog_1_method_27_code 3 = .ok (.invokestatic 138, 3) := by decide +kernel
theorem dP_second_6 : decode prog_1_method_27_code 6 = .ok (.ifCond .eq 6, 3) := by decide +kernel
theorem dP_second_9 : decode prog_1_method_27_code 9 = .ok (.bipush (-2), 2) := by decide +kernel
theorem dP_second_11 : decode prog_1_method_27_code 11 = .ok (.ireturn, 1) := by decide +kernel
theorem dP_second_12 : decode prog_1_method_27_code 12 = .ok (.aload_n 0, 1) := by decide +kernel
theorem dP_second_13 : decode prog_1_method_27_code 13 = .ok (.invokevirtual 233, 3) := by decide +kernel
theorem dP_second_16 : decode prog_1_method_27_code 16 = .ok (.ifCond .eq 6, 3) := by decide +kernel
theorem dP_second_19 : decode prog_1_method_27_code 19 = .ok (.bipush (-5), 2) := by decide +kernel
theorem dP_second_21 : decode prog_1_method_27_code 21 = .ok (.ireturn, 1) := by decide +kernel
theorem dP_second_22 : decode prog_1_method_27_code 22 = .ok (.aload_n 0, 1) := by decide +kernel
theorem dP_second_23 : decode prog_1_method_27_code 23 = .ok (.getfield 61, 3) := by decide +kernel
theorem dP_second_26 : decode prog_1_method_27_code 26 = .ok (.aload_n 0, 1) := by decide +kernel
theorem dP_second_27 : decode prog_1_method_27_code 27 = .ok (.getfield 54, 3) := by decide +kernel
theorem dP_second_30 : decode prog_1_method_27_code 30 = .ok (.invokevirtual 246, 3) := by decide +kernel
theorem dP_second_33 : decode prog_1_method_27_code 33 = .ok (.ldc_w 261, 3) := by decide +kernel
theorem dP_second_36 : decode prog_1_method_27_code 36 = .ok (.istore_n 2, 1) := by decide +kernel
theorem dP_second_37 : decode prog_1_method_27_code 37 = .ok (.iconst (-1), 1) := by decide +kernel
theorem dP_second_38 : decode prog_1_method_27_code 38 = .ok (.istore_n 3, 1) := by decide +kernel
theorem dP_second_39 : decode prog_1_method_27_code 39 = .ok (.iconst 0, 1) := by decide +kernel
theorem dP_second_40 : decode prog_1_method_27_code 40 = .ok (.istore 4, 2) := by decide +kernel
theorem dP_second_42 : decode prog_1_method_27_code 42 = .ok (.iload 4, 2) := by decide +kernel
theorem dP_second_44 : decode prog_1_method_27_code 44 = .ok (.aload_n 0, 1) := by decide +kernel
theorem dP_second_45 : decode prog_1_method_27_code 45 = .ok (.getfield 54, 3) := by decide +kernel
theorem dP_second_48 : decode prog_1_method_27_code 48 = .ok (.getfield 262, 3) := by decide +kernel
theorem dP_second_51 : decode prog_1_method_27_code 51 = .ok (.if_icmp .ge 36, 3) := by decide +kernel
theorem dP_second_54 : decode prog_1_method_27_code 54 = .ok (.aload_n 0, 1) := by decide +kernel
theorem dP_second_55 : decode prog_1_method_27_code 55 = .ok (.getfield 61, 3) := by decide +kernel
theorem dP_second_58 : decode prog_1_method_27_code 58 = .ok (.aload_n 0, 1) := by decide +kernel
theorem dP_second_59 : decode prog_1_method_27_code 59 = .ok (.getfield 54, 3) := by decide +kernel
theorem dP_second_62 : decode prog_1_method_27_code 62 = .ok (.iload 4, 2) := by decide +kernel
theorem dP_second_64 : decode prog_1_method_27_code 64 = .ok (.invokevirtual 263, 3) := by decide +kernel
theorem dP_second_67 : decode prog_1_method_27_code 67 = .ok (.istore 5, 2) := by decide +kernel
theorem dP_second_69 : decode prog_1_method_27_code 69 = .ok (.iload 5, 2) := by decide +kernel
theorem dP_second_71 : decode prog_1_method_27_code 71 = .ok (.iload_n 2, 1) := by decide +kernel
theorem dP_second_72 : decode prog_1_method_27_code 72 = .ok (.if_icmp .ge 9, 3) := by decide +kernel
theorem dP_second_75 : decode prog_1_method_27_code 75 = .ok (.iload 5, 2) := by decide +kernel
theorem dP_second_77 : decode prog_1_method_27_code 77 = .ok (.istore_n 2, 1) := by decide +kernel
theorem dP_second_78 : decode prog_1_method_27_code 78 = .ok (.iload 4, 2) := by decide +kernel
theorem dP_second_80 : decode prog_1_method_27_code 80 = .ok (.istore_n 3, 1) := by decide +kernel
theorem dP_second_81 : decode prog_1_method_27_code 81 = .ok (.iinc 4 1, 3) := by decide +kernel
theorem dP_second_84 : decode prog_1_method_27_code 84 = .ok (.goto (-42), 3) := by decide +kernel
theorem dP_second_87 : decode prog_1_method_27_code 87 = .ok (.iload_n 1, 1) := by decide +kernel
theorem dP_second_88 : decode prog_1_method_27_code 88 = .ok (.ifCond .ne 10, 3) := by decide +kernel
theorem dP_second_91 : decode prog_1_method_27_code 91 = .ok (.iload_n 2, 1) := by decide +kernel
theorem dP_second_92 : decode prog_1_method_27_code 92 = .ok (.invokestatic 254, 3) := by decide +kernel
theorem dP_second_95 : decode prog_1_method_27_code 95 = .ok (.goto 4, 3) := by decide +kernel
theorem dP_second_98 : decode prog_1_method_27_code 98 = .ok (.iload_n 3, 1) := by decide +kernel
theorem dP_second_99 : decode prog_1_method_27_code 99 = .ok (.ireturn, 1) := by decide +kernel
set_option maxRecDepth 100000 in
set_option maxHeartbeats 4000000 in
theorem tP_second_J99 {X : KC} {q : Int × KM} (hX : kOk X 8 prog_1_method_27_code 6 "KeyPath") (hR : kRet X (some .int) q) (t0 : Int) (σ : KM) {Θ : (Int × KM) → Prop} (hT : ∀ z, Θ (z) → z = q) : kJ X 99 [lq 0, none, none, none, none, none] [ki t0] σ (fP_second_J99 t0 σ) Θ := by
  exact k_iret hX hR hT dP_second_99
set_option maxRecDepth 100000 in
set_option maxHeartbeats 4000000 in
theorem tP_second_J87 {X : KC} {q : Int × KM} (hX : kOk X 8 prog_1_method_27_code 6 "KeyPath") (hR : kRet X (some .int) q) (x1 x2 x3 : Int) (σ : KM) {Θ : (Int × KM) → Prop} (hT : ∀ z, Θ (z) → z = q) : kJ X 87 [lq 0, li x1, li x2, li x3, none, none] [] σ (fP_second_J87 x1 x2 x3 σ) Θ := by
  refine k_iload_n hX dP_second_87 rfl ?_
  refine k_if_ne (tgt := 98) hX dP_second_88 (by decide) ?_ ?_
  · refine k_iload_n hX dP_second_98 rfl ?_
    refine k_less [true, false, false, false, true, true] (L' := [lq 0, none, none, none, none, none]) rfl ?_
    exact tP_second_J99 hX hR x3 σ hT
  · refine k_iload_n hX dP_second_91 rfl ?_
    refine cl_61 hX (by decide) (Nat.le_of_ble_eq_true rfl) dP_second_92 (fun r2 τ1 => ?_)
    refine k_goto (tgt := 99) hX dP_second_95 (by decide) ?_
    refine k_less [true, false, false, false, true, true] (L' := [lq 0, none, none, none, none, none]) rfl ?_
    exact tP_second_J99 hX hR r2 τ1 hT
set_option maxRecDepth 100000 in
set_option maxHeartbeats 4000000 in
theorem tP_second_J81 {X : KC} {q : Int × KM} (hX : kOk X 8 prog_1_method_27_code 6 "KeyPath") (hR : kRet X (some .int) q) (x1 x2 x3 x4 : Int) (σ : KM) {Θ : ((Int × Int × Int × KM) ⊕ (Int × KM)) → Prop} (hT : ∀ z, Θ (.inr (z)) → z = q) (hb0 : ∀ s : Int × Int × Int × KM, Θ (.inl s) → kW X 42 [lq 0, li x1, li s.1, li s.2.1, li s.2.2.1, none] [] s.2.2.2) : kJ X 81 [lq 0, li x1, li x2, li x3, li x4, none] [] σ (fP_second_J81 x1 x2 x3 x4 σ) Θ := by
  refine k_iincL (Lf := fun y1 => [lq 0, li x1, li x2, li x3, li y1, none]) hX dP_second_81 rfl (by decide) rfl (fun _ => rfl) (fun y1 => ?_)
  refine k_goto (tgt := 42) hX dP_second_84 (by decide) ?_
  exact k_back (hb0 (x2, x3, y1, σ))
set_option maxRecDepth 100000 in
set_option maxHeartbeats 4000000 in
theorem tP_second_B42 {X : KC} {q : Int × KM} (hX : kOk X 8 prog_1_method_27_code 6 "KeyPath") (hR : kRet X (some .int) q) (x1 x2 x3 x4 : Int) (σ : KM) {Θ : ((Int × Int × Int × KM) ⊕ (Int × KM)) → Prop} (hT : ∀ z, Θ (.inr (z)) → z = q) (hb0 : ∀ s : Int × Int × Int × KM, Θ (.inl s) → kW X 42 [lq 0, li x1, li s.1, li s.2.1, li s.2.2.1, none] [] s.2.2.2) : kJ X 42 [lq 0, li x1, li x2, li x3, li x4, none] [] σ (fP_second_B42 x1 x2 x3 x4 σ) Θ := by
  refine k_iload hX dP_second_42 rfl ?_
  refine k_aload_n hX dP_second_44 rfl ?_
  refine gf_20 hX dP_second_45 ?_
  refine gf_146 hX dP_second_48 ?_
  refine k_icmp_ge (tgt := 87) hX dP_second_51 (by decide) ?_ ?_
  · refine k_exit ?_
    refine k_less [true, true, true, true, false, true] (L' := [lq 0, li x1, li x2, li x3, none, none]) rfl ?_
    exact tP_second_J87 hX hR x1 x2 x3 σ hT
  · refine k_aload_n hX dP_second_54 rfl ?_
    refine gf_67 hX dP_second_55 ?_
    refine k_aload_n hX dP_second_58 rfl ?_
    refine gf_20 hX dP_second_59 ?_
    refine k_iload hX dP_second_62 rfl ?_
    refine cl_98 hX (by decide) (Nat.le_of_ble_eq_true rfl) dP_second_64 (fun r2 τ1 => ?_)
    refine k_istore (L' := [lq 0, li x1, li x2, li x3, li x4, li r2]) hX dP_second_67 rfl (by decide) rfl ?_
    refine k_iload hX dP_second_69 rfl ?_
    refine k_iload_n hX dP_second_71 rfl ?_
    refine k_icmp_ge (tgt := 81) hX dP_second_72 (by decide) ?_ ?_
    · refine k_less [true, true, true, true, true, false] (L' := [lq 0, li x1, li x2, li x3, li x4, none]) rfl ?_
      exact tP_second_J81 hX hR x1 x2 x3 x4 τ1 hT hb0
    · refine k_iload hX dP_second_75 rfl ?_
      refine k_istore_n (L' := [lq 0, li x1, li r2, li x3, li x4, li r2]) hX dP_second_77 rfl (by decide) rfl ?_
      refine k_iload hX dP_second_78 rfl ?_
      refine k_istore_n (L' := [lq 0, li x1, li r2, li x4, li x4, li r2]) hX dP_second_80 rfl (by decide) rfl ?_
      refine k_less [true, true, true, true, true, false] (L' := [lq 0, li x1, li r2, li x4, li x4, none]) rfl ?_
      exact tP_second_J81 hX hR x1 r2 x4 x4 τ1 hT hb0
set_option maxRecDepth 100000 in
set_option maxHeartbeats 4000000 in
theorem tP_second_L42 {X : KC} {q : Int × KM} (hX : kOk X 8 prog_1_method_27_code 6 "KeyPath") (hR : kRet X (some .int) q) (x1 x2 x3 x4 : Int) (σ : KM) {Θ : (Int × KM) → Prop} (hT : ∀ z, Θ (z) → z = q) : kJ X 42 [lq 0, li x1, li x2, li x3, li x4, none] [] σ (fP_second_L42 x1 x2 x3 x4 σ) Θ :=
  k_iter (f := fun s => fP_second_B42 x1 s.1 s.2.1 s.2.2.1 s.2.2.2) (Lf := fun s => [lq 0, li x1, li s.1, li s.2.1, li s.2.2.1, none]) (mf := fun s => s.2.2.2) (Θ := Θ) (fun s => tP_second_B42 hX hR x1 s.1 s.2.1 s.2.2.1 s.2.2.2 hT (fun _ h9 => h9)) kF (x2, x3, x4, σ)
set_option maxRecDepth 100000 in
set_option maxHeartbeats 4000000 in
theorem sP_second (x1 : Int) (σ : KM) : kSem 8 (⟨"KeyPath", "second", "(I)I"⟩ : MethodName) prog_1_method_27_code 6 (some .int) [kr 0, ki x1] σ (fP_second x1 σ) := by
  refine kSem.of (L0 := [lq 0, li x1, none, none, none, none]) (by decide) (Nat.le_of_ble_eq_true rfl) rfl (fun X q hX hR => ?_)
  have hT : ∀ z : Int × KM, (fun z => z = q) z → z = q := fun _ h => h
  refine k_iconst hX dP_second_0 ?_
  refine k_iconst hX dP_second_1 ?_
  refine k_iload_n hX dP_second_2 rfl ?_
  refine cl_43 hX (by decide) (Nat.le_of_ble_eq_true rfl) dP_second_3 (fun r2 τ1 => ?_)
  refine k_if_eq (tgt := 12) hX dP_second_6 (by decide) ?_ ?_
  · refine k_aload_n hX dP_second_12 rfl ?_
    refine cl_33 hX (by decide) (Nat.le_of_ble_eq_true rfl) dP_second_13 (fun r4 τ3 => ?_)
    refine k_if_eq (tgt := 22) hX dP_second_16 (by decide) ?_ ?_
    · refine k_aload_n hX dP_second_22 rfl ?_
      refine gf_67 hX dP_second_23 ?_
      refine k_aload_n hX dP_second_26 rfl ?_
      refine gf_20 hX dP_second_27 ?_
      refine cl_96 hX (by decide) (Nat.le_of_ble_eq_true rfl) dP_second_30 (fun _ τ5 => ?_)
      refine k_ldcw (v := 1000000000) (w := 0) hX dP_second_33 tw_720 ?_
      refine k_istore_n (L' := [lq 0, li x1, li 1000000000, none, none, none]) hX dP_second_36 rfl (by decide) rfl ?_
      refine k_iconst hX dP_second_37 ?_
      refine k_istore_n (L' := [lq 0, li x1, li 1000000000, li (-1), none, none]) hX dP_second_38 rfl (by decide) rfl ?_
      refine k_iconst hX dP_second_39 ?_
      refine k_istore (L' := [lq 0, li x1, li 1000000000, li (-1), li 0, none]) hX dP_second_40 rfl (by decide) rfl ?_
      exact tP_second_L42 hX hR x1 1000000000 (-1) 0 τ5 hT
    · refine k_bipush hX dP_second_19 (by decide) ?_
      exact k_iret hX hR hT dP_second_21
  · refine k_bipush hX dP_second_9 (by decide) ?_
    exact k_iret hX hR hT dP_second_11
theorem dP_segment_0 : decode prog_1_method_32_code 0 = .ok (.aload_n 0, 1) := by decide +kernel
theorem dP_segment_1 : decode prog_1_method_32_code 1 = .ok (.invokevirtual 233, 3) := by decide +kernel
theorem dP_segment_4 : decode prog_1_method_32_code 4 = .ok (.ifCond .eq 6, 3) := by decide +kernel
theorem dP_segment_7 : decode prog_1_method_32_code 7 = .ok (.bipush (-5), 2) := by decide +kernel
theorem dP_segment_9 : decode prog_1_method_32_code 9 = .ok (.ireturn, 1) := by decide +kernel
theorem dP_segment_10 : decode prog_1_method_32_code 10 = .ok (.iload_n 1, 1) := by decide +kernel
theorem dP_segment_11 : decode prog_1_method_32_code 11 = .ok (.ifCond .lt 14, 3) := by decide +kernel
theorem dP_segment_14 : decode prog_1_method_32_code 14 = .ok (.iload_n 1, 1) := by decide +kernel
theorem dP_segment_15 : decode prog_1_method_32_code 15 = .ok (.aload_n 0, 1) := by decide +kernel
theorem dP_segment_16 : decode prog_1_method_32_code 16 = .ok (.getfield 54, 3) := by decide +kernel
theorem dP_segment_19 : decode prog_1_method_32_code 19 = .ok (.getfield 283, 3) := by decide +kernel
theorem dP_segment_22 : decode prog_1_method_32_code 22 = .ok (.if_icmp .lt 6, 3) := by decide +kernel
theorem dP_segment_25 : decode prog_1_method_32_code 25 = .ok (.bipush (-2), 2) := by decide +kernel
theorem dP_segment_27 : decode prog_1_method_32_code 27 = .ok (.ireturn, 1) := by decide +kernel
theorem dP_segment_28 : decode prog_1_method_32_code 28 = .ok (.aload_n 0, 1) := by decide +kernel
theorem dP_segment_29 : decode prog_1_method_32_code 29 = .ok (.getfield 54, 3) := by decide +kernel
theorem dP_segment_32 : decode prog_1_method_32_code 32 = .ok (.getfield 286, 3) := by decide +kernel
theorem dP_segment_35 : decode prog_1_method_32_code 35 = .ok (.iload_n 1, 1) := by decide +kernel
theorem dP_segment_36 : decode prog_1_method_32_code 36 = .ok (.iaload, 1) := by decide +kernel
theorem dP_segment_37 : decode prog_1_method_32_code 37 = .ok (.istore_n 3, 1) := by decide +kernel
theorem dP_segment_38 : decode prog_1_method_32_code 38 = .ok (.iload_n 2, 1) := by decide +kernel
theorem dP_segment_39 : decode prog_1_method_32_code 39 = .ok (.tableswitch 60 0 3 #[29, 31, 40, 50], 29) := by decide +kernel
theorem dP_segment_68 : decode prog_1_method_32_code 68 = .ok (.iload_n 3, 1) := by decide +kernel
theorem dP_segment_69 : decode prog_1_method_32_code 69 = .ok (.ireturn, 1) := by decide +kernel
theorem dP_segment_70 : decode prog_1_method_32_code 70 = .ok (.aload_n 0, 1) := by decide +kernel
theorem dP_segment_71 : decode prog_1_method_32_code 71 = .ok (.getfield 54, 3) := by decide +kernel
theorem dP_segment_74 : decode prog_1_method_32_code 74 = .ok (.iload_n 1, 1) := by decide +kernel
theorem dP_segment_75 : decode prog_1_method_32_code 75 = .ok (.invokevirtual 289, 3) := by decide +kernel
theorem dP_segment_78 : decode prog_1_method_32_code 78 = .ok (.ireturn, 1) := by decide +kernel
theorem dP_segment_79 : decode prog_1_method_32_code 79 = .ok (.aload_n 0, 1) := by decide +kernel
theorem dP_segment_80 : decode prog_1_method_32_code 80 = .ok (.getfield 54, 3) := by decide +kernel
theorem dP_segment_83 : decode prog_1_method_32_code 83 = .ok (.getfield 240, 3) := by decide +kernel
theorem dP_segment_86 : decode prog_1_method_32_code 86 = .ok (.iload_n 3, 1) := by decide +kernel
theorem dP_segment_87 : decode prog_1_method_32_code 87 = .ok (.iaload, 1) := by decide +kernel
theorem dP_segment_88 : decode prog_1_method_32_code 88 = .ok (.ireturn, 1) := by decide +kernel
theorem dP_segment_89 : decode prog_1_method_32_code 89 = .ok (.iload_n 3, 1) := by decide +kernel
theorem dP_segment_90 : decode prog_1_method_32_code 90 = .ok (.aload_n 0, 1) := by decide +kernel
theorem dP_segment_91 : decode prog_1_method_32_code 91 = .ok (.getfield 33, 3) := by decide +kernel
theorem dP_segment_94 : decode prog_1_method_32_code 94 = .ok (.getfield 152, 3) := by decide +kernel
theorem dP_segment_97 : decode prog_1_method_32_code 97 = .ok (.imul, 1) := by decide +kernel
theorem dP_segment_98 : decode prog_1_method_32_code 98 = .ok (.ireturn, 1) := by decide +kernel
theorem dP_segment_99 : decode prog_1_method_32_code 99 = .ok (.bipush (-2), 2) := by decide +kernel
theorem dP_segment_101 : decode prog_1_method_32_code 101 = .ok (.ireturn, 1) := by decide +kernel
set_option maxRecDepth 100000 in
set_option maxHeartbeats 4000000 in
theorem tP_segment_J25 {X : KC} {q : Int × KM} (hX : kOk X 8 prog_1_method_32_code 4 "KeyPath") (hR : kRet X (some .int) q) (σ : KM) {Θ : (Int × KM) → Prop} (hT : ∀ z, Θ (z) → z = q) : kJ X 25 [lq 0, none, none, none] [] σ (fP_segment_J25 σ) Θ := by
  refine k_bipush hX dP_segment_25 (by decide) ?_
  exact k_iret hX hR hT dP_segment_27
set_option maxRecDepth 100000 in
set_option maxHeartbeats 4000000 in
theorem sP_segment (x1 x2 : Int) (σ : KM) : kSem 8 (⟨"KeyPath", "segment", "(II)I"⟩ : MethodName) prog_1_method_32_code 4 (some .int) [kr 0, ki x1, ki x2] σ (fP_segment x1 x2 σ) := by
  refine kSem.of (L0 := [lq 0, li x1, li x2, none]) (by decide) (Nat.le_of_ble_eq_true rfl) rfl (fun X q hX hR => ?_)
  have hT : ∀ z : Int × KM, (fun z => z = q) z → z = q := fun _ h => h
  refine k_aload_n hX dP_segment_0 rfl ?_
  refine cl_33 hX (by decide) (Nat.le_of_ble_eq_true rfl) dP_segment_1 (fun r2 τ1 => ?_)
  refine k_if_eq (tgt := 10) hX dP_segment_4 (by decide) ?_ ?_
  · refine k_iload_n hX dP_segment_10 rfl ?_
    refine k_if_lt (tgt := 25) hX dP_segment_11 (by decide) ?_ ?_
    · refine k_less [true, false, false, true] (L' := [lq 0, none, none, none]) rfl ?_
      exact tP_segment_J25 hX hR τ1 hT
    · refine k_iload_n hX dP_segment_14 rfl ?_
      refine k_aload_n hX dP_segment_15 rfl ?_
      refine gf_20 hX dP_segment_16 ?_
      refine gf_71 hX dP_segment_19 ?_
      refine k_icmp_lt (tgt := 28) hX dP_segment_22 (by decide) ?_ ?_
      · refine k_aload_n hX dP_segment_28 rfl ?_
        refine gf_20 hX dP_segment_29 ?_
        refine gf_72 hX dP_segment_32 ?_
        refine k_iload_n hX dP_segment_35 rfl ?_
        refine k_iald hX (by decide) rfl dP_segment_36 rfl (fun y3 => ?_)
        refine k_istore_n (L' := [lq 0, li x1, li x2, li y3]) hX dP_segment_37 rfl (by decide) rfl ?_
        refine k_iload_n hX dP_segment_38 rfl ?_
        refine k_tsw (ts := [68, 70, 79, 89]) (te := 99) hX dP_segment_39 (by decide) (by decide) rfl (by decide) (k_ts_c ?_ (k_ts_c ?_ (k_ts_c ?_ (k_ts_c ?_ (k_ts_n))))) ?_
        · refine k_iload_n hX dP_segment_68 rfl ?_
          exact k_iret hX hR hT dP_segment_69
        · refine k_aload_n hX dP_segment_70 rfl ?_
          refine gf_20 hX dP_segment_71 ?_
          refine k_iload_n hX dP_segment_74 rfl ?_
          refine cl_40 hX (by decide) (Nat.le_of_ble_eq_true rfl) dP_segment_75 (fun r5 τ4 => ?_)
          exact k_iret hX hR hT dP_segment_78
        · refine k_aload_n hX dP_segment_79 rfl ?_
          refine gf_20 hX dP_segment_80 ?_
          refine gf_70 hX dP_segment_83 ?_
          refine k_iload_n hX dP_segment_86 rfl ?_
          refine k_iald hX (by decide) rfl dP_segment_87 rfl (fun y6 => ?_)
          exact k_iret hX hR hT dP_segment_88
        · refine k_iload_n hX dP_segment_89 rfl ?_
          refine k_aload_n hX dP_segment_90 rfl ?_
          refine gf_0 hX dP_segment_91 ?_
          refine gf_80 hX dP_segment_94 ?_
          refine k_imul hX dP_segment_97 ?_
          exact k_iret hX hR hT dP_segment_98
        · refine k_bipush hX dP_segment_99 (by decide) ?_
          exact k_iret hX hR hT dP_segment_101
      · refine k_less [true, false, false, true] (L' := [lq 0, none, none, none]) rfl ?_
        exact tP_segment_J25 hX hR τ1 hT
  · refine k_bipush hX dP_segment_7 (by decide) ?_
    exact k_iret hX hR hT dP_segment_9
theorem dP_segments_0 : decode prog_1_method_31_code 0 = .ok (.aload_n 0, 1) := by decide +kernel
theorem dP_segments_1 : decode prog_1_method_31_code 1 = .ok (.invokevirtual 233, 3) := by decide +kernel
theorem dP_segments_4 : decode prog_1_method_31_code 4 = .ok (.ifCond .eq 8, 3) := by decide +kernel
theorem dP_segments_7 : decode prog_1_method_31_code 7 = .ok (.bipush (-5), 2) := by decide +kernel
theorem dP_segments_9 : decode prog_1_method_31_code 9 = .ok (.goto 10, 3) := by decide +kernel
theorem dP_segments_12 : decode prog_1_method_31_code 12 = .ok (.aload_n 0, 1) := by decide +kernel
theorem dP_segments_13 : decode prog_1_method_31_code 13 = .ok (.getfield 54, 3) := by decide +kernel
theorem dP_segments_16 : decode prog_1_method_31_code 16 = .ok (.getfield 283, 3) := by decide +kernel
theorem dP_segments_19 : decode prog_1_method_31_code 19 = .ok (.ireturn, 1) := by decide +kernel
set_option maxRecDepth 100000 in
set_option maxHeartbeats 4000000 in
theorem tP_segments_J19 {X : KC} {q : Int × KM} (hX : kOk X 8 prog_1_method_31_code 1 "KeyPath") (hR : kRet X (some .int) q) (t0 : Int) (σ : KM) {Θ : (Int × KM) → Prop} (hT : ∀ z, Θ (z) → z = q) : kJ X 19 [lq 0] [ki t0] σ (fP_segments_J19 t0 σ) Θ := by
  exact k_iret hX hR hT dP_segments_19
set_option maxRecDepth 100000 in
set_option maxHeartbeats 4000000 in
theorem sP_segments (σ : KM) : kSem 8 (⟨"KeyPath", "segments", "()I"⟩ : MethodName) prog_1_method_31_code 1 (some .int) [kr 0] σ (fP_segments σ) := by
  refine kSem.of (L0 := [lq 0]) (by decide) (Nat.le_of_ble_eq_true rfl) rfl (fun X q hX hR => ?_)
  have hT : ∀ z : Int × KM, (fun z => z = q) z → z = q := fun _ h => h
  refine k_aload_n hX dP_segments_0 rfl ?_
  refine cl_33 hX (by decide) (Nat.le_of_ble_eq_true rfl) dP_segments_1 (fun r2 τ1 => ?_)
  refine k_if_eq (tgt := 12) hX dP_segments_4 (by decide) ?_ ?_
  · refine k_aload_n hX dP_segments_12 rfl ?_
    refine gf_20 hX dP_segments_13 ?_
    refine gf_71 hX dP_segments_16 ?_
    exact tP_segments_J19 hX hR (τ1 8 12) τ1 hT
  · refine k_bipush hX dP_segments_7 (by decide) ?_
    refine k_goto (tgt := 19) hX dP_segments_9 (by decide) ?_
    exact tP_segments_J19 hX hR (-5) τ1 hT
theorem dNo_canMove_0 : decode prog_5_method_7_code 0 = .ok (.iconst 0, 1) := by decide +kernel
theorem dNo_canMove_1 : decode prog_5_method_7_code 1 = .ok (.istore_n 2, 1) := by decide +kernel
theorem dNo_canMove_2 : decode prog_5_method_7_code 2 = .ok (.iload_n 2, 1) := by decide +kernel
theorem dNo_canMove_3 : decode prog_5_method_7_code 3 = .ok (.aload_n 0, 1) := by decide +kernel
theorem dNo_canMove_4 : decode prog_5_method_7_code 4 = .ok (.getfield 21, 3) := by decide +kernel
theorem dNo_canMove_7 : decode prog_5_method_7_code 7 = .ok (.if_icmp .ge 28, 3) := by decide +kernel
theorem dNo_canMove_10 : decode prog_5_method_7_code 10 = .ok (.iconst 0, 1) := by decide +kernel
theorem dNo_canMove_11 : decode prog_5_method_7_code 11 = .ok (.bipush 127, 2) := by decide +kernel
theorem dNo_canMove_13 : decode prog_5_method_7_code 13 = .ok (.aload_n 0, 1) := by decide +kernel
theorem dNo_canMove_14 : decode prog_5_method_7_code 14 = .ok (.getfield 18, 3) := by decide +kernel
theorem dNo_canMove_17 : decode prog_5_method_7_code 17 = .ok (.iload_n 2, 1) := by decide +kernel
theorem dNo_canMove_18 : decode prog_5_method_7_code 18 = .ok (.iaload, 1) := by decide +kernel
theorem dNo_canMove_19 : decode prog_5_method_7_code 19 = .ok (.iload_n 1, 1) := by decide +kernel
theorem dNo_canMove_20 : decode prog_5_method_7_code 20 = .ok (.iadd, 1) := by decide +kernel
theorem dNo_canMove_21 : decode prog_5_method_7_code 21 = .ok (.invokestatic 35, 3) := by decide +kernel
theorem dNo_canMove_24 : decode prog_5_method_7_code 24 = .ok (.ifCond .eq 5, 3) := by decide +kernel
theorem dNo_canMove_27 : decode prog_5_method_7_code 27 = .ok (.iconst 0, 1) := by decide +kernel
theorem dNo_canMove_28 : decode prog_5_method_7_code 28 = .ok (.ireturn, 1) := by decide +kernel
theorem dNo_canMove_29 : decode prog_5_method_7_code 29 = .ok (.iinc 2 1, 3) := by decide +kernel
theorem dNo_canMove_32 : decode prog_5_method_7_code 32 = .ok (.goto (-30), 3) := by decide +kernel
theorem dNo_canMove_35 : decode prog_5_method_7_code 35 = .ok (.iconst 1, 1) := by decide +kernel
theorem dNo_canMove_36 : decode prog_5_method_7_code 36 = .ok (.ireturn, 1) := by decide +kernel
set_option maxRecDepth 100000 in
set_option maxHeartbeats 4000000 in
theorem tNo_canMove_J35 {X : KC} {q : Int × KM} (hX : kOk X 2 prog_5_method_7_code 3 "KeyPath$Notes") (hR : kRet X (some .boolean) q) (σ : KM) {Θ : (Int × KM) → Prop} (hT : ∀ z, Θ (z) → z = q) : kJ X 35 [lq 3, none, none] [] σ (fNo_canMove_J35 σ) Θ := by
  refine k_iconst hX dNo_canMove_35 ?_
  exact k_zret hX hR hT dNo_canMove_36
set_option maxRecDepth 100000 in
set_option maxHeartbeats 4000000 in
theorem tNo_canMove_J27 {X : KC} {q : Int × KM} (hX : kOk X 2 prog_5_method_7_code 3 "KeyPath$Notes") (hR : kRet X (some .boolean) q) (σ : KM) {Θ : (Int × KM) → Prop} (hT : ∀ z, Θ (z) → z = q) : kJ X 27 [lq 3, none, none] [] σ (fNo_canMove_J27 σ) Θ := by
  refine k_iconst hX dNo_canMove_27 ?_
  exact k_zret hX hR hT dNo_canMove_28
set_option maxRecDepth 100000 in
set_option maxHeartbeats 4000000 in
theorem tNo_canMove_B2 {X : KC} {q : Int × KM} (hX : kOk X 2 prog_5_method_7_code 3 "KeyPath$Notes") (hR : kRet X (some .boolean) q) (x1 x2 : Int) (σ : KM) {Θ : ((Int × KM) ⊕ (Int × KM)) → Prop} (hT : ∀ z, Θ (.inr (z)) → z = q) (hb0 : ∀ s : Int × KM, Θ (.inl s) → kW X 2 [lq 3, li x1, li s.1] [] s.2) : kJ X 2 [lq 3, li x1, li x2] [] σ (fNo_canMove_B2 x1 x2 σ) Θ := by
  refine k_iload_n hX dNo_canMove_2 rfl ?_
  refine k_aload_n hX dNo_canMove_3 rfl ?_
  refine gf_3 hX dNo_canMove_4 ?_
  refine k_icmp_ge (tgt := 35) hX dNo_canMove_7 (by decide) ?_ ?_
  · refine k_exit ?_
    refine k_less [true, false, false] (L' := [lq 3, none, none]) rfl ?_
    exact tNo_canMove_J35 hX hR σ hT
  · refine k_iconst hX dNo_canMove_10 ?_
    refine k_bipush hX dNo_canMove_11 (by decide) ?_
    refine k_aload_n hX dNo_canMove_13 rfl ?_
    refine gf_95 hX dNo_canMove_14 ?_
    refine k_iload_n hX dNo_canMove_17 rfl ?_
    refine k_iald hX (by decide) rfl dNo_canMove_18 rfl (fun y1 => ?_)
    refine k_iload_n hX dNo_canMove_19 rfl ?_
    refine k_iadd hX dNo_canMove_20 ?_
    refine cl_99 hX (by decide) (Nat.le_of_ble_eq_true rfl) dNo_canMove_21 (fun r3 τ2 => ?_)
    refine k_if_eq (tgt := 29) hX dNo_canMove_24 (by decide) ?_ ?_
    · refine k_iincL (Lf := fun y4 => [lq 3, li x1, li y4]) hX dNo_canMove_29 rfl (by decide) rfl (fun _ => rfl) (fun y4 => ?_)
      refine k_goto (tgt := 2) hX dNo_canMove_32 (by decide) ?_
      exact k_back (hb0 (y4, τ2))
    · refine k_exit ?_
      refine k_less [true, false, false] (L' := [lq 3, none, none]) rfl ?_
      exact tNo_canMove_J27 hX hR τ2 hT
set_option maxRecDepth 100000 in
set_option maxHeartbeats 4000000 in
theorem tNo_canMove_L2 {X : KC} {q : Int × KM} (hX : kOk X 2 prog_5_method_7_code 3 "KeyPath$Notes") (hR : kRet X (some .boolean) q) (x1 x2 : Int) (σ : KM) {Θ : (Int × KM) → Prop} (hT : ∀ z, Θ (z) → z = q) : kJ X 2 [lq 3, li x1, li x2] [] σ (fNo_canMove_L2 x1 x2 σ) Θ :=
  k_iter (f := fun s => fNo_canMove_B2 x1 s.1 s.2) (Lf := fun s => [lq 3, li x1, li s.1]) (mf := fun s => s.2) (Θ := Θ) (fun s => tNo_canMove_B2 hX hR x1 s.1 s.2 hT (fun _ h9 => h9)) kF (x2, σ)
set_option maxRecDepth 100000 in
set_option maxHeartbeats 4000000 in
theorem sNo_canMove (x1 : Int) (σ : KM) : kSem 2 (⟨"KeyPath$Notes", "canMove", "(I)Z"⟩ : MethodName) prog_5_method_7_code 3 (some .boolean) [kr 3, ki x1] σ (fNo_canMove x1 σ) := by
  refine kSem.of (L0 := [lq 3, li x1, none]) (by decide) (Nat.le_of_ble_eq_true rfl) rfl (fun X q hX hR => ?_)
  have hT : ∀ z : Int × KM, (fun z => z = q) z → z = q := fun _ h => h
  refine k_iconst hX dNo_canMove_0 ?_
  refine k_istore_n (L' := [lq 3, li x1, li 0]) hX dNo_canMove_1 rfl (by decide) rfl ?_
  exact tNo_canMove_L2 hX hR x1 0 σ hT
theorem cl_100 {X : KC} {d n : Nat} {cc : ByteArray} {pc : Nat} {L : List (Option KV)} {st : List KV} {σ : KM} {Z : Type} {Θ : Z → Prop} {G : Int → KM → Option Z} {x1 : Int} (hX : kOk X d cc n "KeyPath") (hdd : 2 + 1 ≤ d) (hst : k_cat st ≤ 8) (hd : decode cc pc = .ok (.invokevirtual 127, 3)) (h : ∀ r τ, kJ X (pc + 3) L (ki r :: st) τ (G r τ) Θ) : kJ X pc L (ki x1 :: kr 3 :: st) σ (kCall (fNo_canMove x1 σ) G) Θ :=
  k_callV (np := 1) (av := [ki x1]) (ret := (some .boolean)) hX (by decide) rfl rfl rfl (sNo_canMove _ σ) ⟨⟨hdd, by decide⟩, tw_504, tw_3, by decide +kernel⟩ rfl tw_501 tw_502 tw_503 hst hd h
theorem dNo_move_0 : decode prog_5_method_8_code 0 = .ok (.iconst 0, 1) := by decide +kernel
theorem dNo_move_1 : decode prog_5_method_8_code 1 = .ok (.istore_n 2, 1) := by decide +kernel
theorem dNo_move_2 : decode prog_5_method_8_code 2 = .ok (.iload_n 2, 1) := by decide +kernel
theorem dNo_move_3 : decode prog_5_method_8_code 3 = .ok (.aload_n 0, 1) := by decide +kernel
theorem dNo_move_4 : decode prog_5_method_8_code 4 = .ok (.getfield 21, 3) := by decide +kernel
theorem dNo_move_7 : decode prog_5_method_8_code 7 = .ok (.if_icmp .ge 19, 3) := by decide +kernel
theorem dNo_move_10 : decode prog_5_method_8_code 10 = .ok (.aload_n 0, 1) := by decide +kernel
theorem dNo_move_11 : decode prog_5_method_8_code 11 = .ok (.getfield 18, 3) := by decide +kernel
theorem dNo_move_14 : decode prog_5_method_8_code 14 = .ok (.iload_n 2, 1) := by decide +kernel
theorem dNo_move_15 : decode prog_5_method_8_code 15 = .ok (.dup2, 1) := by decide +kernel
theorem dNo_move_16 : decode prog_5_method_8_code 16 = .ok (.iaload, 1) := by decide +kernel
theorem dNo_move_17 : decode prog_5_method_8_code 17 = .ok (.iload_n 1, 1) := by decide +kernel
theorem dNo_move_18 : decode prog_5_method_8_code 18 = .ok (.iadd, 1) := by decide +kernel
theorem dNo_move_19 : decode prog_5_method_8_code 19 = .ok (.iastore, 1) := by decide +kernel
theorem dNo_move_20 : decode prog_5_method_8_code 20 = .ok (.iinc 2 1, 3) := by decide +kernel
theorem dNo_move_23 : decode prog_5_method_8_code 23 = .ok (.goto (-21), 3) := by decide +kernel
theorem dNo_move_26 : decode prog_5_method_8_code 26 = .ok (.return_, 1) := by decide +kernel
set_option maxRecDepth 100000 in
set_option maxHeartbeats 4000000 in
theorem tNo_move_J26 {X : KC} {q : Int × KM} (hX : kOk X 1 prog_5_method_8_code 3 "KeyPath$Notes") (hR : kRet X none q) (σ : KM) {Θ : (Int × KM) → Prop} (hT : ∀ z, Θ (z) → z = q) : kJ X 26 [lq 3, none, none] [] σ (fNo_move_J26 σ) Θ := by
  exact k_vret hX hR hT dNo_move_26
set_option maxRecDepth 100000 in
set_option maxHeartbeats 4000000 in
theorem tNo_move_B2 {X : KC} {q : Int × KM} (hX : kOk X 1 prog_5_method_8_code 3 "KeyPath$Notes") (hR : kRet X none q) (x1 x2 : Int) (σ : KM) {Θ : ((Int × KM) ⊕ (Int × KM)) → Prop} (hT : ∀ z, Θ (.inr (z)) → z = q) (hb0 : ∀ s : Int × KM, Θ (.inl s) → kW X 2 [lq 3, li x1, li s.1] [] s.2) : kJ X 2 [lq 3, li x1, li x2] [] σ (fNo_move_B2 x1 x2 σ) Θ := by
  refine k_iload_n hX dNo_move_2 rfl ?_
  refine k_aload_n hX dNo_move_3 rfl ?_
  refine gf_3 hX dNo_move_4 ?_
  refine k_icmp_ge (tgt := 26) hX dNo_move_7 (by decide) ?_ ?_
  · refine k_exit ?_
    refine k_less [true, false, false] (L' := [lq 3, none, none]) rfl ?_
    exact tNo_move_J26 hX hR σ hT
  · refine k_aload_n hX dNo_move_10 rfl ?_
    refine gf_95 hX dNo_move_11 ?_
    refine k_iload_n hX dNo_move_14 rfl ?_
    refine k_dup2 hX dNo_move_15 ?_
    refine k_iald hX (by decide) rfl dNo_move_16 rfl (fun y1 => ?_)
    refine k_iload_n hX dNo_move_17 rfl ?_
    refine k_iadd hX dNo_move_18 ?_
    refine k_iast hX (by decide) rfl dNo_move_19 rfl (fun τ2 => ?_)
    refine k_iincL (Lf := fun y3 => [lq 3, li x1, li y3]) hX dNo_move_20 rfl (by decide) rfl (fun _ => rfl) (fun y3 => ?_)
    refine k_goto (tgt := 2) hX dNo_move_23 (by decide) ?_
    exact k_back (hb0 (y3, τ2))
set_option maxRecDepth 100000 in
set_option maxHeartbeats 4000000 in
theorem tNo_move_L2 {X : KC} {q : Int × KM} (hX : kOk X 1 prog_5_method_8_code 3 "KeyPath$Notes") (hR : kRet X none q) (x1 x2 : Int) (σ : KM) {Θ : (Int × KM) → Prop} (hT : ∀ z, Θ (z) → z = q) : kJ X 2 [lq 3, li x1, li x2] [] σ (fNo_move_L2 x1 x2 σ) Θ :=
  k_iter (f := fun s => fNo_move_B2 x1 s.1 s.2) (Lf := fun s => [lq 3, li x1, li s.1]) (mf := fun s => s.2) (Θ := Θ) (fun s => tNo_move_B2 hX hR x1 s.1 s.2 hT (fun _ h9 => h9)) kF (x2, σ)
set_option maxRecDepth 100000 in
set_option maxHeartbeats 4000000 in
theorem sNo_move (x1 : Int) (σ : KM) : kSem 1 (⟨"KeyPath$Notes", "move", "(I)V"⟩ : MethodName) prog_5_method_8_code 3 none [kr 3, ki x1] σ (fNo_move x1 σ) := by
  refine kSem.of (L0 := [lq 3, li x1, none]) (by decide) (Nat.le_of_ble_eq_true rfl) rfl (fun X q hX hR => ?_)
  have hT : ∀ z : Int × KM, (fun z => z = q) z → z = q := fun _ h => h
  refine k_iconst hX dNo_move_0 ?_
  refine k_istore_n (L' := [lq 3, li x1, li 0]) hX dNo_move_1 rfl (by decide) rfl ?_
  exact tNo_move_L2 hX hR x1 0 σ hT
theorem cl_101 {X : KC} {d n : Nat} {cc : ByteArray} {pc : Nat} {L : List (Option KV)} {st : List KV} {σ : KM} {Z : Type} {Θ : Z → Prop} {G : Int → KM → Option Z} {x1 : Int} (hX : kOk X d cc n "KeyPath") (hdd : 1 + 1 ≤ d) (hst : k_cat st ≤ 8) (hd : decode cc pc = .ok (.invokevirtual 131, 3)) (h : ∀ r τ, kJ X (pc + 3) L (st) τ (G r τ) Θ) : kJ X pc L (ki x1 :: kr 3 :: st) σ (kCall (fNo_move x1 σ) G) Θ :=
  k_callV (np := 1) (av := [ki x1]) (ret := none) hX (by decide) rfl rfl rfl (sNo_move _ σ) ⟨⟨hdd, by decide⟩, tw_509, tw_3, by decide +kernel⟩ rfl tw_506 tw_507 tw_508 hst hd h
theorem cl_103 {X : KC} {d n : Nat} {cc : ByteArray} {pc : Nat} {L : List (Option KV)} {st : List KV} {σ : KM} {Z : Type} {Θ : Z → Prop} {G : Int → KM → Option Z} {x1 : Int} (hX : kOk X d cc n "KeyPath$History") (hdd : 1 + 1 ≤ d) (hst : k_cat st ≤ 8) (hd : decode cc pc = .ok (.invokevirtual 50, 3)) (h : ∀ r τ, kJ X (pc + 3) L (st) τ (G r τ) Θ) : kJ X pc L (ki x1 :: kr 3 :: st) σ (kCall (fNo_move x1 σ) G) Θ :=
  k_callV (np := 1) (av := [ki x1]) (ret := none) hX (by decide) rfl rfl rfl (sNo_move _ σ) ⟨⟨hdd, by decide⟩, tw_509, tw_3, by decide +kernel⟩ rfl tw_520 tw_507 tw_508 hst hd h
theorem dP_shift_0 : decode prog_1_method_7_code 0 = .ok (.iload_n 1, 1) := by decide +kernel
theorem dP_shift_1 : decode prog_1_method_7_code 1 = .ok (.bipush (-127), 2) := by decide +kernel
theorem dP_shift_3 : decode prog_1_method_7_code 3 = .ok (.if_icmp .lt 20, 3) := by decide +kernel
theorem dP_shift_6 : decode prog_1_method_7_code 6 = .ok (.iload_n 1, 1) := by decide +kernel
theorem dP_shift_7 : decode prog_1_method_7_code 7 = .ok (.bipush 127, 2) := by decide +kernel
theorem dP_shift_9 : decode prog_1_method_7_code 9 = .ok (.if_icmp .gt 14, 3) := by decide +kernel
theorem dP_shift_12 : decode prog_1_method_7_code 12 = .ok (.aload_n 0, 1) := by decide +kernel
theorem dP_shift_13 : decode prog_1_method_7_code 13 = .ok (.getfield 19, 3) := by decide +kernel
theorem dP_shift_16 : decode prog_1_method_7_code 16 = .ok (.iload_n 1, 1) := by decide +kernel
theorem dP_shift_17 : decode prog_1_method_7_code 17 = .ok (.invokevirtual 127, 3) := by decide +kernel
theorem dP_shift_20 : decode prog_1_method_7_code 20 = .ok (.ifCond .ne 6, 3) := by decide +kernel
theorem dP_shift_23 : decode prog_1_method_7_code 23 = .ok (.bipush (-3), 2) := by decide +kernel
theorem dP_shift_25 : decode prog_1_method_7_code 25 = .ok (.ireturn, 1) := by decide +kernel
theorem dP_shift_26 : decode prog_1_method_7_code 26 = .ok (.aload_n 0, 1) := by decide +kernel
theorem dP_shift_27 : decode prog_1_method_7_code 27 = .ok (.getfield 19, 3) := by decide +kernel
theorem dP_shift_30 : decode prog_1_method_7_code 30 = .ok (.iload_n 1, 1) := by decide +kernel
theorem dP_shift_31 : decode prog_1_method_7_code 31 = .ok (.invokevirtual 131, 3) := by decide +kernel
theorem dP_shift_34 : decode prog_1_method_7_code 34 = .ok (.aload_n 0, 1) := by decide +kernel
theorem dP_shift_35 : decode prog_1_method_7_code 35 = .ok (.getfield 26, 3) := by decide +kernel
theorem dP_shift_38 : decode prog_1_method_7_code 38 = .ok (.iconst 2, 1) := by decide +kernel
theorem dP_shift_39 : decode prog_1_method_7_code 39 = .ok (.iconst 0, 1) := by decide +kernel
theorem dP_shift_40 : decode prog_1_method_7_code 40 = .ok (.iconst 0, 1) := by decide +kernel
theorem dP_shift_41 : decode prog_1_method_7_code 41 = .ok (.iconst 0, 1) := by decide +kernel
theorem dP_shift_42 : decode prog_1_method_7_code 42 = .ok (.iload_n 1, 1) := by decide +kernel
theorem dP_shift_43 : decode prog_1_method_7_code 43 = .ok (.invokevirtual 110, 3) := by decide +kernel
theorem dP_shift_46 : decode prog_1_method_7_code 46 = .ok (.aload_n 0, 1) := by decide +kernel
theorem dP_shift_47 : decode prog_1_method_7_code 47 = .ok (.invokevirtual 89, 3) := by decide +kernel
theorem dP_shift_50 : decode prog_1_method_7_code 50 = .ok (.aload_n 0, 1) := by decide +kernel
theorem dP_shift_51 : decode prog_1_method_7_code 51 = .ok (.getfield 19, 3) := by decide +kernel
theorem dP_shift_54 : decode prog_1_method_7_code 54 = .ok (.getfield 92, 3) := by decide +kernel
theorem dP_shift_57 : decode prog_1_method_7_code 57 = .ok (.ireturn, 1) := by decide +kernel
set_option maxRecDepth 100000 in
set_option maxHeartbeats 4000000 in
theorem tP_shift_J23 {X : KC} {q : Int × KM} (hX : kOk X 4 prog_1_method_7_code 2 "KeyPath") (hR : kRet X (some .int) q) (σ : KM) {Θ : (Int × KM) → Prop} (hT : ∀ z, Θ (z) → z = q) : kJ X 23 [lq 0, none] [] σ (fP_shift_J23 σ) Θ := by
  refine k_bipush hX dP_shift_23 (by decide) ?_
  exact k_iret hX hR hT dP_shift_25
set_option maxRecDepth 100000 in
set_option maxHeartbeats 4000000 in
theorem sP_shift (x1 : Int) (σ : KM) : kSem 4 (⟨"KeyPath", "shift", "(I)I"⟩ : MethodName) prog_1_method_7_code 2 (some .int) [kr 0, ki x1] σ (fP_shift x1 σ) := by
  refine kSem.of (L0 := [lq 0, li x1]) (by decide) (Nat.le_of_ble_eq_true rfl) rfl (fun X q hX hR => ?_)
  have hT : ∀ z : Int × KM, (fun z => z = q) z → z = q := fun _ h => h
  refine k_iload_n hX dP_shift_0 rfl ?_
  refine k_bipush hX dP_shift_1 (by decide) ?_
  refine k_icmp_lt (tgt := 23) hX dP_shift_3 (by decide) ?_ ?_
  · refine k_less [true, false] (L' := [lq 0, none]) rfl ?_
    exact tP_shift_J23 hX hR σ hT
  · refine k_iload_n hX dP_shift_6 rfl ?_
    refine k_bipush hX dP_shift_7 (by decide) ?_
    refine k_icmp_gt (tgt := 23) hX dP_shift_9 (by decide) ?_ ?_
    · refine k_less [true, false] (L' := [lq 0, none]) rfl ?_
      exact tP_shift_J23 hX hR σ hT
    · refine k_aload_n hX dP_shift_12 rfl ?_
      refine gf_2 hX dP_shift_13 ?_
      refine k_iload_n hX dP_shift_16 rfl ?_
      refine cl_100 hX (by decide) (Nat.le_of_ble_eq_true rfl) dP_shift_17 (fun r2 τ1 => ?_)
      refine k_if_ne (tgt := 26) hX dP_shift_20 (by decide) ?_ ?_
      · refine k_aload_n hX dP_shift_26 rfl ?_
        refine gf_2 hX dP_shift_27 ?_
        refine k_iload_n hX dP_shift_30 rfl ?_
        refine cl_101 hX (by decide) (Nat.le_of_ble_eq_true rfl) dP_shift_31 (fun _ τ3 => ?_)
        refine k_aload_n hX dP_shift_34 rfl ?_
        refine gf_75 hX dP_shift_35 ?_
        refine k_iconst hX dP_shift_38 ?_
        refine k_iconst hX dP_shift_39 ?_
        refine k_iconst hX dP_shift_40 ?_
        refine k_iconst hX dP_shift_41 ?_
        refine k_iload_n hX dP_shift_42 rfl ?_
        refine cl_46 hX (by decide) (Nat.le_of_ble_eq_true rfl) dP_shift_43 (fun _ τ4 => ?_)
        refine k_aload_n hX dP_shift_46 rfl ?_
        refine cl_50 hX (by decide) (Nat.le_of_ble_eq_true rfl) dP_shift_47 (fun _ τ5 => ?_)
        refine k_aload_n hX dP_shift_50 rfl ?_
        refine gf_2 hX dP_shift_51 ?_
        refine gf_74 hX dP_shift_54 ?_
        exact k_iret hX hR hT dP_shift_57
      · refine k_less [true, false] (L' := [lq 0, none]) rfl ?_
        exact tP_shift_J23 hX hR τ1 hT
theorem dP_through_0 : decode prog_1_method_25_code 0 = .ok (.aload_n 0, 1) := by decide +kernel
theorem dP_through_1 : decode prog_1_method_25_code 1 = .ok (.iload_n 1, 1) := by decide +kernel
theorem dP_through_2 : decode prog_1_method_25_code 2 = .ok (.invokevirtual 196, 3) := by decide +kernel
theorem dP_through_5 : decode prog_1_method_25_code 5 = .ok (.ifCond .ne 10, 3) := by decide +kernel
theorem dP_through_8 : decode prog_1_method_25_code 8 = .ok (.iload_n 2, 1) := by decide +kernel
theorem dP_through_9 : decode prog_1_method_25_code 9 = .ok (.invokestatic 190, 3) := by decide +kernel
theorem dP_through_12 : decode prog_1_method_25_code 12 = .ok (.ifCond .eq 6, 3) := by decide +kernel
theorem dP_through_15 : decode prog_1_method_25_code 15 = .ok (.bipush (-2), 2) := by decide +kernel
theorem dP_through_17 : decode prog_1_method_25_code 17 = .ok (.ireturn, 1) := by decide +kernel
theorem dP_through_18 : decode prog_1_method_25_code 18 = .ok (.aload_n 0, 1) := by decide +kernel
theorem dP_through_19 : decode prog_1_method_25_code 19 = .ok (.invokevirtual 233, 3) := by decide +kernel
theorem dP_through_22 : decode prog_1_method_25_code 22 = .ok (.ifCond .eq 6, 3) := by decide +kernel
theorem dP_through_25 : decode prog_1_method_25_code 25 = .ok (.bipush (-5), 2) := by decide +kernel
theorem dP_through_27 : decode prog_1_method_25_code 27 = .ok (.ireturn, 1) := by decide +kernel
theorem dP_through_28 : decode prog_1_method_25_code 28 = .ok (.aload_n 0, 1) := by decide +kernel
theorem dP_through_29 : decode prog_1_method_25_code 29 = .ok (.getfield 61, 3) := by decide +kernel
theorem dP_through_32 : decode prog_1_method_25_code 32 = .ok (.aload_n 0, 1) := by decide +kernel
theorem dP_through_33 : decode prog_1_method_25_code 33 = .ok (.getfield 54, 3) := by decide +kernel
theorem dP_through_36 : decode prog_1_method_25_code 36 = .ok (.invokevirtual 246, 3) := by decide +kernel
theorem dP_through_39 : decode prog_1_method_25_code 39 = .ok (.aload_n 0, 1) := by decide +kernel
theorem dP_through_40 : decode prog_1_method_25_code 40 = .ok (.getfield 61, 3) := by decide +kernel
theorem dP_through_43 : decode prog_1_method_25_code 43 = .ok (.aload_n 0, 1) := by decide +kernel
theorem dP_through_44 : decode prog_1_method_25_code 44 = .ok (.getfield 54, 3) := by decide +kernel
theorem dP_through_47 : decode prog_1_method_25_code 47 = .ok (.iload_n 1, 1) := by decide +kernel
theorem dP_through_48 : decode prog_1_method_25_code 48 = .ok (.iload_n 2, 1) := by decide +kernel
theorem dP_through_49 : decode prog_1_method_25_code 49 = .ok (.invokevirtual 250, 3) := by decide +kernel
theorem dP_through_52 : decode prog_1_method_25_code 52 = .ok (.invokestatic 254, 3) := by decide +kernel
theorem dP_through_55 : decode prog_1_method_25_code 55 = .ok (.ireturn, 1) := by decide +kernel
set_option maxRecDepth 100000 in
set_option maxHeartbeats 4000000 in
theorem tP_through_J15 {X : KC} {q : Int × KM} (hX : kOk X 8 prog_1_method_25_code 3 "KeyPath") (hR : kRet X (some .int) q) (σ : KM) {Θ : (Int × KM) → Prop} (hT : ∀ z, Θ (z) → z = q) : kJ X 15 [lq 0, none, none] [] σ (fP_through_J15 σ) Θ := by
  refine k_bipush hX dP_through_15 (by decide) ?_
  exact k_iret hX hR hT dP_through_17
set_option maxRecDepth 100000 in
set_option maxHeartbeats 4000000 in
theorem sP_through (x1 x2 : Int) (σ : KM) : kSem 8 (⟨"KeyPath", "through", "(II)I"⟩ : MethodName) prog_1_method_25_code 3 (some .int) [kr 0, ki x1, ki x2] σ (fP_through x1 x2 σ) := by
  refine kSem.of (L0 := [lq 0, li x1, li x2]) (by decide) (Nat.le_of_ble_eq_true rfl) rfl (fun X q hX hR => ?_)
  have hT : ∀ z : Int × KM, (fun z => z = q) z → z = q := fun _ h => h
  refine k_aload_n hX dP_through_0 rfl ?_
  refine k_iload_n hX dP_through_1 rfl ?_
  refine cl_9 hX (by decide) (Nat.le_of_ble_eq_true rfl) dP_through_2 (fun r2 τ1 => ?_)
  refine k_if_ne (tgt := 15) hX dP_through_5 (by decide) ?_ ?_
  · refine k_less [true, false, false] (L' := [lq 0, none, none]) rfl ?_
    exact tP_through_J15 hX hR τ1 hT
  · refine k_iload_n hX dP_through_8 rfl ?_
    refine cl_44 hX (by decide) (Nat.le_of_ble_eq_true rfl) dP_through_9 (fun r4 τ3 => ?_)
    refine k_if_eq (tgt := 18) hX dP_through_12 (by decide) ?_ ?_
    · refine k_aload_n hX dP_through_18 rfl ?_
      refine cl_33 hX (by decide) (Nat.le_of_ble_eq_true rfl) dP_through_19 (fun r6 τ5 => ?_)
      refine k_if_eq (tgt := 28) hX dP_through_22 (by decide) ?_ ?_
      · refine k_aload_n hX dP_through_28 rfl ?_
        refine gf_67 hX dP_through_29 ?_
        refine k_aload_n hX dP_through_32 rfl ?_
        refine gf_20 hX dP_through_33 ?_
        refine cl_96 hX (by decide) (Nat.le_of_ble_eq_true rfl) dP_through_36 (fun _ τ7 => ?_)
        refine k_aload_n hX dP_through_39 rfl ?_
        refine gf_67 hX dP_through_40 ?_
        refine k_aload_n hX dP_through_43 rfl ?_
        refine gf_20 hX dP_through_44 ?_
        refine k_iload_n hX dP_through_47 rfl ?_
        refine k_iload_n hX dP_through_48 rfl ?_
        refine cl_102 hX (by decide) (Nat.le_of_ble_eq_true rfl) dP_through_49 (fun r9 τ8 => ?_)
        refine cl_61 hX (by decide) (Nat.le_of_ble_eq_true rfl) dP_through_52 (fun r11 τ10 => ?_)
        exact k_iret hX hR hT dP_through_55
      · refine k_bipush hX dP_through_25 (by decide) ?_
        exact k_iret hX hR hT dP_through_27
    · refine k_less [true, false, false] (L' := [lq 0, none, none]) rfl ?_
      exact tP_through_J15 hX hR τ3 hT
theorem dP_ties_0 : decode prog_1_method_24_code 0 = .ok (.aload_n 0, 1) := by decide +kernel
theorem dP_ties_1 : decode prog_1_method_24_code 1 = .ok (.invokevirtual 233, 3) := by decide +kernel
theorem dP_ties_4 : decode prog_1_method_24_code 4 = .ok (.ifCond .eq 8, 3) := by decide +kernel
theorem dP_ties_7 : decode prog_1_method_24_code 7 = .ok (.bipush (-5), 2) := by decide +kernel
theorem dP_ties_9 : decode prog_1_method_24_code 9 = .ok (.goto 10, 3) := by decide +kernel
theorem dP_ties_12 : decode prog_1_method_24_code 12 = .ok (.aload_n 0, 1) := by decide +kernel
theorem dP_ties_13 : decode prog_1_method_24_code 13 = .ok (.getfield 54, 3) := by decide +kernel
theorem dP_ties_16 : decode prog_1_method_24_code 16 = .ok (.getfield 243, 3) := by decide +kernel
theorem dP_ties_19 : decode prog_1_method_24_code 19 = .ok (.ireturn, 1) := by decide +kernel
set_option maxRecDepth 100000 in
set_option maxHeartbeats 4000000 in
theorem tP_ties_J19 {X : KC} {q : Int × KM} (hX : kOk X 8 prog_1_method_24_code 1 "KeyPath") (hR : kRet X (some .int) q) (t0 : Int) (σ : KM) {Θ : (Int × KM) → Prop} (hT : ∀ z, Θ (z) → z = q) : kJ X 19 [lq 0] [ki t0] σ (fP_ties_J19 t0 σ) Θ := by
  exact k_iret hX hR hT dP_ties_19
set_option maxRecDepth 100000 in
set_option maxHeartbeats 4000000 in
theorem sP_ties (σ : KM) : kSem 8 (⟨"KeyPath", "ties", "()I"⟩ : MethodName) prog_1_method_24_code 1 (some .int) [kr 0] σ (fP_ties σ) := by
  refine kSem.of (L0 := [lq 0]) (by decide) (Nat.le_of_ble_eq_true rfl) rfl (fun X q hX hR => ?_)
  have hT : ∀ z : Int × KM, (fun z => z = q) z → z = q := fun _ h => h
  refine k_aload_n hX dP_ties_0 rfl ?_
  refine cl_33 hX (by decide) (Nat.le_of_ble_eq_true rfl) dP_ties_1 (fun r2 τ1 => ?_)
  refine k_if_eq (tgt := 12) hX dP_ties_4 (by decide) ?_ ?_
  · refine k_aload_n hX dP_ties_12 rfl ?_
    refine gf_20 hX dP_ties_13 ?_
    refine gf_149 hX dP_ties_16 ?_
    exact tP_ties_J19 hX hR (τ1 8 9) τ1 hT
  · refine k_bipush hX dP_ties_7 (by decide) ?_
    refine k_goto (tgt := 19) hX dP_ties_9 (by decide) ?_
    exact tP_ties_J19 hX hR (-5) τ1 hT
theorem dP_tones_0 : decode prog_1_method_14_code 0 = .ok (.aload_n 0, 1) := by decide +kernel
theorem dP_tones_1 : decode prog_1_method_14_code 1 = .ok (.iload_n 1, 1) := by decide +kernel
theorem dP_tones_2 : decode prog_1_method_14_code 2 = .ok (.invokevirtual 196, 3) := by decide +kernel
theorem dP_tones_5 : decode prog_1_method_14_code 5 = .ok (.ifCond .eq 6, 3) := by decide +kernel
theorem dP_tones_8 : decode prog_1_method_14_code 8 = .ok (.bipush (-2), 2) := by decide +kernel
theorem dP_tones_10 : decode prog_1_method_14_code 10 = .ok (.ireturn, 1) := by decide +kernel
theorem dP_tones_11 : decode prog_1_method_14_code 11 = .ok (.iload_n 2, 1) := by decide +kernel
theorem dP_tones_12 : decode prog_1_method_14_code 12 = .ok (.iconst (-1), 1) := by decide +kernel
theorem dP_tones_13 : decode prog_1_method_14_code 13 = .ok (.if_icmp .ne 13, 3) := by decide +kernel
theorem dP_tones_16 : decode prog_1_method_14_code 16 = .ok (.aload_n 0, 1) := by decide +kernel
theorem dP_tones_17 : decode prog_1_method_14_code 17 = .ok (.getfield 33, 3) := by decide +kernel
theorem dP_tones_20 : decode prog_1_method_14_code 20 = .ok (.getfield 199, 3) := by decide +kernel
theorem dP_tones_23 : decode prog_1_method_14_code 23 = .ok (.iload_n 1, 1) := by decide +kernel
theorem dP_tones_24 : decode prog_1_method_14_code 24 = .ok (.iaload, 1) := by decide +kernel
theorem dP_tones_25 : decode prog_1_method_14_code 25 = .ok (.ireturn, 1) := by decide +kernel
theorem dP_tones_26 : decode prog_1_method_14_code 26 = .ok (.iload_n 2, 1) := by decide +kernel
theorem dP_tones_27 : decode prog_1_method_14_code 27 = .ok (.invokestatic 162, 3) := by decide +kernel
theorem dP_tones_30 : decode prog_1_method_14_code 30 = .ok (.ifCond .eq 8, 3) := by decide +kernel
theorem dP_tones_33 : decode prog_1_method_14_code 33 = .ok (.bipush (-3), 2) := by decide +kernel
theorem dP_tones_35 : decode prog_1_method_14_code 35 = .ok (.goto 17, 3) := by decide +kernel
theorem dP_tones_38 : decode prog_1_method_14_code 38 = .ok (.aload_n 0, 1) := by decide +kernel
theorem dP_tones_39 : decode prog_1_method_14_code 39 = .ok (.getfield 33, 3) := by decide +kernel
theorem dP_tones_42 : decode prog_1_method_14_code 42 = .ok (.getfield 202, 3) := by decide +kernel
theorem dP_tones_45 : decode prog_1_method_14_code 45 = .ok (.iload_n 1, 1) := by decide +kernel
theorem dP_tones_46 : decode prog_1_method_14_code 46 = .ok (.bipush 12, 2) := by decide +kernel
theorem dP_tones_48 : decode prog_1_method_14_code 48 = .ok (.imul, 1) := by decide +kernel
theorem dP_tones_49 : decode prog_1_method_14_code 49 = .ok (.iload_n 2, 1) := by decide +kernel
theorem dP_tones_50 : decode prog_1_method_14_code 50 = .ok (.iadd, 1) := by decide +kernel
theorem dP_tones_51 : decode prog_1_method_14_code 51 = .ok (.iaload, 1) := by decide +kernel
theorem dP_tones_52 : decode prog_1_method_14_code 52 = .ok (.ireturn, 1) := by decide +kernel
set_option maxRecDepth 100000 in
set_option maxHeartbeats 4000000 in
theorem tP_tones_J52 {X : KC} {q : Int × KM} (hX : kOk X 7 prog_1_method_14_code 3 "KeyPath") (hR : kRet X (some .int) q) (t0 : Int) (σ : KM) {Θ : (Int × KM) → Prop} (hT : ∀ z, Θ (z) → z = q) : kJ X 52 [lq 0, none, none] [ki t0] σ (fP_tones_J52 t0 σ) Θ := by
  exact k_iret hX hR hT dP_tones_52
set_option maxRecDepth 100000 in
set_option maxHeartbeats 4000000 in
theorem sP_tones (x1 x2 : Int) (σ : KM) : kSem 7 (⟨"KeyPath", "tones", "(II)I"⟩ : MethodName) prog_1_method_14_code 3 (some .int) [kr 0, ki x1, ki x2] σ (fP_tones x1 x2 σ) := by
  refine kSem.of (L0 := [lq 0, li x1, li x2]) (by decide) (Nat.le_of_ble_eq_true rfl) rfl (fun X q hX hR => ?_)
  have hT : ∀ z : Int × KM, (fun z => z = q) z → z = q := fun _ h => h
  refine k_aload_n hX dP_tones_0 rfl ?_
  refine k_iload_n hX dP_tones_1 rfl ?_
  refine cl_9 hX (by decide) (Nat.le_of_ble_eq_true rfl) dP_tones_2 (fun r2 τ1 => ?_)
  refine k_if_eq (tgt := 11) hX dP_tones_5 (by decide) ?_ ?_
  · refine k_iload_n hX dP_tones_11 rfl ?_
    refine k_iconst hX dP_tones_12 ?_
    refine k_icmp_ne (tgt := 26) hX dP_tones_13 (by decide) ?_ ?_
    · refine k_iload_n hX dP_tones_26 rfl ?_
      refine cl_63 hX (by decide) (Nat.le_of_ble_eq_true rfl) dP_tones_27 (fun r4 τ3 => ?_)
      refine k_if_eq (tgt := 38) hX dP_tones_30 (by decide) ?_ ?_
      · refine k_aload_n hX dP_tones_38 rfl ?_
        refine gf_0 hX dP_tones_39 ?_
        refine gf_110 hX dP_tones_42 ?_
        refine k_iload_n hX dP_tones_45 rfl ?_
        refine k_bipush hX dP_tones_46 (by decide) ?_
        refine k_imul hX dP_tones_48 ?_
        refine k_iload_n hX dP_tones_49 rfl ?_
        refine k_iadd hX dP_tones_50 ?_
        refine k_iald hX (by decide) rfl dP_tones_51 rfl (fun y5 => ?_)
        refine k_less [true, false, false] (L' := [lq 0, none, none]) rfl ?_
        exact tP_tones_J52 hX hR y5 τ3 hT
      · refine k_bipush hX dP_tones_33 (by decide) ?_
        refine k_goto (tgt := 52) hX dP_tones_35 (by decide) ?_
        refine k_less [true, false, false] (L' := [lq 0, none, none]) rfl ?_
        exact tP_tones_J52 hX hR (-3) τ3 hT
    · refine k_aload_n hX dP_tones_16 rfl ?_
      refine gf_0 hX dP_tones_17 ?_
      refine gf_116 hX dP_tones_20 ?_
      refine k_iload_n hX dP_tones_23 rfl ?_
      refine k_iald hX (by decide) rfl dP_tones_24 rfl (fun y6 => ?_)
      exact k_iret hX hR hT dP_tones_25
  · refine k_bipush hX dP_tones_8 (by decide) ?_
    exact k_iret hX hR hT dP_tones_10
theorem dHi_takeBack_0 : decode prog_3_method_4_code 0 = .ok (.aload_n 0, 1) := by decide +kernel
theorem dHi_takeBack_1 : decode prog_3_method_4_code 1 = .ok (.getfield 27, 3) := by decide +kernel
theorem dHi_takeBack_4 : decode prog_3_method_4_code 4 = .ok (.iconst 1, 1) := by decide +kernel
theorem dHi_takeBack_5 : decode prog_3_method_4_code 5 = .ok (.if_icmp .ge 4, 3) := by decide +kernel
theorem dHi_takeBack_8 : decode prog_3_method_4_code 8 = .ok (.return_, 1) := by decide +kernel
theorem dHi_takeBack_9 : decode prog_3_method_4_code 9 = .ok (.aload_n 0, 1) := by decide +kernel
theorem dHi_takeBack_10 : decode prog_3_method_4_code 10 = .ok (.dup, 1) := by decide +kernel
theorem dHi_takeBack_11 : decode prog_3_method_4_code 11 = .ok (.getfield 27, 3) := by decide +kernel
theorem dHi_takeBack_14 : decode prog_3_method_4_code 14 = .ok (.iconst 1, 1) := by decide +kernel
theorem dHi_takeBack_15 : decode prog_3_method_4_code 15 = .ok (.isub, 1) := by decide +kernel
theorem dHi_takeBack_16 : decode prog_3_method_4_code 16 = .ok (.putfield 27, 3) := by decide +kernel
theorem dHi_takeBack_19 : decode prog_3_method_4_code 19 = .ok (.aload_n 0, 1) := by decide +kernel
theorem dHi_takeBack_20 : decode prog_3_method_4_code 20 = .ok (.getfield 9, 3) := by decide +kernel
theorem dHi_takeBack_23 : decode prog_3_method_4_code 23 = .ok (.aload_n 0, 1) := by decide +kernel
theorem dHi_takeBack_24 : decode prog_3_method_4_code 24 = .ok (.getfield 27, 3) := by decide +kernel
theorem dHi_takeBack_27 : decode prog_3_method_4_code 27 = .ok (.iaload, 1) := by decide +kernel
theorem dHi_takeBack_28 : decode prog_3_method_4_code 28 = .ok (.ifCond .ne 19, 3) := by decide +kernel
theorem dHi_takeBack_31 : decode prog_3_method_4_code 31 = .ok (.aload_n 1, 1) := by decide +kernel
theorem dHi_takeBack_32 : decode prog_3_method_4_code 32 = .ok (.aload_n 0, 1) := by decide +kernel
theorem dHi_takeBack_33 : decode prog_3_method_4_code 33 = .ok (.getfield 15, 3) := by decide +kernel
theorem dHi_takeBack_36 : decode prog_3_method_4_code 36 = .ok (.aload_n 0, 1) := by decide +kernel
theorem dHi_takeBack_37 : decode prog_3_method_4_code 37 = .ok (.getfield 27, 3) := by decide +kernel
theorem dHi_takeBack_40 : decode prog_3_method_4_code 40 = .ok (.iaload, 1) := by decide +kernel
theorem dHi_takeBack_41 : decode prog_3_method_4_code 41 = .ok (.invokevirtual 40, 3) := by decide +kernel
theorem dHi_takeBack_44 : decode prog_3_method_4_code 44 = .ok (.goto 73, 3) := by decide +kernel
theorem dHi_takeBack_47 : decode prog_3_method_4_code 47 = .ok (.aload_n 0, 1) := by decide +kernel
theorem dHi_takeBack_48 : decode prog_3_method_4_code 48 = .ok (.getfield 9, 3) := by decide +kernel
theorem dHi_takeBack_51 : decode prog_3_method_4_code 51 = .ok (.aload_n 0, 1) := by decide +kernel
theorem dHi_takeBack_52 : decode prog_3_method_4_code 52 = .ok (.getfield 27, 3) := by decide +kernel
theorem dHi_takeBack_55 : decode prog_3_method_4_code 55 = .ok (.iaload, 1) := by decide +kernel
theorem dHi_takeBack_56 : decode prog_3_method_4_code 56 = .ok (.iconst 1, 1) := by decide +kernel
theorem dHi_takeBack_57 : decode prog_3_method_4_code 57 = .ok (.if_icmp .ne 46, 3) := by decide +kernel
theorem dHi_takeBack_60 : decode prog_3_method_4_code 60 = .ok (.aload_n 1, 1) := by decide +kernel
theorem dHi_takeBack_61 : decode prog_3_method_4_code 61 = .ok (.aload_n 0, 1) := by decide +kernel
theorem dHi_takeBack_62 : decode prog_3_method_4_code 62 = .ok (.getfield 15, 3) := by decide +kernel
theorem dHi_takeBack_65 : decode prog_3_method_4_code 65 = .ok (.aload_n 0, 1) := by decide +kernel
theorem dHi_takeBack_66 : decode prog_3_method_4_code 66 = .ok (.getfield 27, 3) := by decide +kernel
theorem dHi_takeBack_69 : decode prog_3_method_4_code 69 = .ok (.iaload, 1) := by decide +kernel
theorem dHi_takeBack_70 : decode prog_3_method_4_code 70 = .ok (.aload_n 0, 1) := by decide +kernel
theorem dHi_takeBack_71 : decode prog_3_method_4_code 71 = .ok (.getfield 18, 3) := by decide +kernel
theorem dHi_takeBack_74 : decode prog_3_method_4_code 74 = .ok (.aload_n 0, 1) := by decide +kernel
theorem dHi_takeBack_75 : decode prog_3_method_4_code 75 = .ok (.getfield 27, 3) := by decide +kernel
theorem dHi_takeBack_78 : decode prog_3_method_4_code 78 = .ok (.iaload, 1) := by decide +kernel
theorem dHi_takeBack_79 : decode prog_3_method_4_code 79 = .ok (.aload_n 0, 1) := by decide +kernel
theorem dHi_takeBack_80 : decode prog_3_method_4_code 80 = .ok (.getfield 21, 3) := by decide +kernel
theorem dHi_takeBack_83 : decode prog_3_method_4_code 83 = .ok (.aload_n 0, 1) := by decide +kernel
theorem dHi_takeBack_84 : decode prog_3_method_4_code 84 = .ok (.getfield 27, 3) := by decide +kernel
theorem dHi_takeBack_87 : decode prog_3_method_4_code 87 = .ok (.iaload, 1) := by decide +kernel
theorem dHi_takeBack_88 : decode prog_3_method_4_code 88 = .ok (.aload_n 0, 1) := by decide +kernel
theorem dHi_takeBack_89 : decode prog_3_method_4_code 89 = .ok (.getfield 24, 3) := by decide +kernel
theorem dHi_takeBack_92 : decode prog_3_method_4_code 92 = .ok (.aload_n 0, 1) := by decide +kernel
theorem dHi_takeBack_93 : decode prog_3_method_4_code 93 = .ok (.getfield 27, 3) := by decide +kernel
theorem dHi_takeBack_96 : decode prog_3_method_4_code 96 = .ok (.iaload, 1) := by decide +kernel
theorem dHi_takeBack_97 : decode prog_3_method_4_code 97 = .ok (.invokevirtual 46, 3) := by decide +kernel
theorem dHi_takeBack_100 : decode prog_3_method_4_code 100 = .ok (.goto 17, 3) := by decide +kernel
theorem dHi_takeBack_103 : decode prog_3_method_4_code 103 = .ok (.aload_n 1, 1) := by decide +kernel
theorem dHi_takeBack_104 : decode prog_3_method_4_code 104 = .ok (.aload_n 0, 1) := by decide +kernel
theorem dHi_takeBack_105 : decode prog_3_method_4_code 105 = .ok (.getfield 24, 3) := by decide +kernel
theorem dHi_takeBack_108 : decode prog_3_method_4_code 108 = .ok (.aload_n 0, 1) := by decide +kernel
theorem dHi_takeBack_109 : decode prog_3_method_4_code 109 = .ok (.getfield 27, 3) := by decide +kernel
theorem dHi_takeBack_112 : decode prog_3_method_4_code 112 = .ok (.iaload, 1) := by decide +kernel
theorem dHi_takeBack_113 : decode prog_3_method_4_code 113 = .ok (.ineg, 1) := by decide +kernel
theorem dHi_takeBack_114 : decode prog_3_method_4_code 114 = .ok (.invokevirtual 50, 3) := by decide +kernel
theorem dHi_takeBack_117 : decode prog_3_method_4_code 117 = .ok (.return_, 1) := by decide +kernel
set_option maxRecDepth 100000 in
set_option maxHeartbeats 4000000 in
theorem tHi_takeBack_J117 {X : KC} {q : Int × KM} (hX : kOk X 2 prog_3_method_4_code 2 "KeyPath$History") (hR : kRet X none q) (σ : KM) {Θ : (Int × KM) → Prop} (hT : ∀ z, Θ (z) → z = q) : kJ X 117 [lq 4, lq 3] [] σ (fHi_takeBack_J117 σ) Θ := by
  exact k_vret hX hR hT dHi_takeBack_117
set_option maxRecDepth 100000 in
set_option maxHeartbeats 4000000 in
theorem sHi_takeBack (σ : KM) : kSem 2 (⟨"KeyPath$History", "takeBack", "(LKeyPath$Notes;)V"⟩ : MethodName) prog_3_method_4_code 2 none [kr 4, kr 3] σ (fHi_takeBack σ) := by
  refine kSem.of (L0 := [lq 4, lq 3]) (by decide) (Nat.le_of_ble_eq_true rfl) rfl (fun X q hX hR => ?_)
  have hT : ∀ z : Int × KM, (fun z => z = q) z → z = q := fun _ h => h
  refine k_aload_n hX dHi_takeBack_0 rfl ?_
  refine gf_88 hX dHi_takeBack_1 ?_
  refine k_iconst hX dHi_takeBack_4 ?_
  refine k_icmp_ge (tgt := 9) hX dHi_takeBack_5 (by decide) ?_ ?_
  · refine k_aload_n hX dHi_takeBack_9 rfl ?_
    refine k_dupr hX dHi_takeBack_10 ?_
    refine gf_88 hX dHi_takeBack_11 ?_
    refine k_iconst hX dHi_takeBack_14 ?_
    refine k_isub hX dHi_takeBack_15 ?_
    refine gp_94 hX dHi_takeBack_16 (fun τ1 => ?_)
    refine k_aload_n hX dHi_takeBack_19 rfl ?_
    refine gf_89 hX dHi_takeBack_20 ?_
    refine k_aload_n hX dHi_takeBack_23 rfl ?_
    refine gf_88 hX dHi_takeBack_24 ?_
    refine k_iald hX (by decide) rfl dHi_takeBack_27 rfl (fun y2 => ?_)
    refine k_if_ne (tgt := 47) hX dHi_takeBack_28 (by decide) ?_ ?_
    · refine k_aload_n hX dHi_takeBack_47 rfl ?_
      refine gf_89 hX dHi_takeBack_48 ?_
      refine k_aload_n hX dHi_takeBack_51 rfl ?_
      refine gf_88 hX dHi_takeBack_52 ?_
      refine k_iald hX (by decide) rfl dHi_takeBack_55 rfl (fun y3 => ?_)
      refine k_iconst hX dHi_takeBack_56 ?_
      refine k_icmp_ne (tgt := 103) hX dHi_takeBack_57 (by decide) ?_ ?_
      · refine k_aload_n hX dHi_takeBack_103 rfl ?_
        refine k_aload_n hX dHi_takeBack_104 rfl ?_
        refine gf_93 hX dHi_takeBack_105 ?_
        refine k_aload_n hX dHi_takeBack_108 rfl ?_
        refine gf_88 hX dHi_takeBack_109 ?_
        refine k_iald hX (by decide) rfl dHi_takeBack_112 rfl (fun y4 => ?_)
        refine k_ineg hX dHi_takeBack_113 ?_
        refine cl_103 hX (by decide) (Nat.le_of_ble_eq_true rfl) dHi_takeBack_114 (fun _ τ5 => ?_)
        exact tHi_takeBack_J117 hX hR τ5 hT
      · refine k_aload_n hX dHi_takeBack_60 rfl ?_
        refine k_aload_n hX dHi_takeBack_61 rfl ?_
        refine gf_90 hX dHi_takeBack_62 ?_
        refine k_aload_n hX dHi_takeBack_65 rfl ?_
        refine gf_88 hX dHi_takeBack_66 ?_
        refine k_iald hX (by decide) rfl dHi_takeBack_69 rfl (fun y6 => ?_)
        refine k_aload_n hX dHi_takeBack_70 rfl ?_
        refine gf_91 hX dHi_takeBack_71 ?_
        refine k_aload_n hX dHi_takeBack_74 rfl ?_
        refine gf_88 hX dHi_takeBack_75 ?_
        refine k_iald hX (by decide) rfl dHi_takeBack_78 rfl (fun y7 => ?_)
        refine k_aload_n hX dHi_takeBack_79 rfl ?_
        refine gf_92 hX dHi_takeBack_80 ?_
        refine k_aload_n hX dHi_takeBack_83 rfl ?_
        refine gf_88 hX dHi_takeBack_84 ?_
        refine k_iald hX (by decide) rfl dHi_takeBack_87 rfl (fun y8 => ?_)
        refine k_aload_n hX dHi_takeBack_88 rfl ?_
        refine gf_93 hX dHi_takeBack_89 ?_
        refine k_aload_n hX dHi_takeBack_92 rfl ?_
        refine gf_88 hX dHi_takeBack_93 ?_
        refine k_iald hX (by decide) rfl dHi_takeBack_96 rfl (fun y9 => ?_)
        refine cl_104 hX (by decide) (Nat.le_of_ble_eq_true rfl) dHi_takeBack_97 (fun _ τ10 => ?_)
        refine k_goto (tgt := 117) hX dHi_takeBack_100 (by decide) ?_
        exact tHi_takeBack_J117 hX hR τ10 hT
    · refine k_aload_n hX dHi_takeBack_31 rfl ?_
      refine k_aload_n hX dHi_takeBack_32 rfl ?_
      refine gf_90 hX dHi_takeBack_33 ?_
      refine k_aload_n hX dHi_takeBack_36 rfl ?_
      refine gf_88 hX dHi_takeBack_37 ?_
      refine k_iald hX (by decide) rfl dHi_takeBack_40 rfl (fun y11 => ?_)
      refine cl_105 hX (by decide) (Nat.le_of_ble_eq_true rfl) dHi_takeBack_41 (fun _ τ12 => ?_)
      refine k_goto (tgt := 117) hX dHi_takeBack_44 (by decide) ?_
      exact tHi_takeBack_J117 hX hR τ12 hT
  · exact k_vret hX hR hT dHi_takeBack_8
theorem cl_106 {X : KC} {d n : Nat} {cc : ByteArray} {pc : Nat} {L : List (Option KV)} {st : List KV} {σ : KM} {Z : Type} {Θ : Z → Prop} {G : Int → KM → Option Z} (hX : kOk X d cc n "KeyPath") (hdd : 2 + 1 ≤ d) (hst : k_cat st ≤ 8) (hd : decode cc pc = .ok (.invokevirtual 135, 3)) (h : ∀ r τ, kJ X (pc + 3) L (st) τ (G r τ) Θ) : kJ X pc L (kr 3 :: kr 4 :: st) σ (kCall (fHi_takeBack σ) G) Θ :=
  k_callV (np := 1) (av := [kr 3]) (ret := none) hX (by decide) rfl rfl rfl (sHi_takeBack σ) ⟨⟨hdd, by decide⟩, tw_517, tw_4, by decide +kernel⟩ rfl tw_514 tw_515 tw_516 hst hd h
theorem dP_undo_0 : decode prog_1_method_8_code 0 = .ok (.aload_n 0, 1) := by decide +kernel
theorem dP_undo_1 : decode prog_1_method_8_code 1 = .ok (.getfield 26, 3) := by decide +kernel
theorem dP_undo_4 : decode prog_1_method_8_code 4 = .ok (.getfield 134, 3) := by decide +kernel
theorem dP_undo_7 : decode prog_1_method_8_code 7 = .ok (.ifCond .ne 6, 3) := by decide +kernel
theorem dP_undo_10 : decode prog_1_method_8_code 10 = .ok (.bipush (-5), 2) := by decide +kernel
theorem dP_undo_12 : decode prog_1_method_8_code 12 = .ok (.ireturn, 1) := by decide +kernel
theorem dP_undo_13 : decode prog_1_method_8_code 13 = .ok (.aload_n 0, 1) := by decide +kernel
theorem dP_undo_14 : decode prog_1_method_8_code 14 = .ok (.getfield 26, 3) := by decide +kernel
theorem dP_undo_17 : decode prog_1_method_8_code 17 = .ok (.aload_n 0, 1) := by decide +kernel
theorem dP_undo_18 : decode prog_1_method_8_code 18 = .ok (.getfield 19, 3) := by decide +kernel
theorem dP_undo_21 : decode prog_1_method_8_code 21 = .ok (.invokevirtual 135, 3) := by decide +kernel
theorem dP_undo_24 : decode prog_1_method_8_code 24 = .ok (.aload_n 0, 1) := by decide +kernel
theorem dP_undo_25 : decode prog_1_method_8_code 25 = .ok (.invokevirtual 89, 3) := by decide +kernel
theorem dP_undo_28 : decode prog_1_method_8_code 28 = .ok (.aload_n 0, 1) := by decide +kernel
theorem dP_undo_29 : decode prog_1_method_8_code 29 = .ok (.getfield 26, 3) := by decide +kernel
theorem dP_undo_32 : decode prog_1_method_8_code 32 = .ok (.getfield 134, 3) := by decide +kernel
theorem dP_undo_35 : decode prog_1_method_8_code 35 = .ok (.ireturn, 1) := by decide +kernel
set_option maxRecDepth 100000 in
set_option maxHeartbeats 4000000 in
theorem sP_undo (σ : KM) : kSem 4 (⟨"KeyPath", "undo", "()I"⟩ : MethodName) prog_1_method_8_code 1 (some .int) [kr 0] σ (fP_undo σ) := by
  refine kSem.of (L0 := [lq 0]) (by decide) (Nat.le_of_ble_eq_true rfl) rfl (fun X q hX hR => ?_)
  have hT : ∀ z : Int × KM, (fun z => z = q) z → z = q := fun _ h => h
  refine k_aload_n hX dP_undo_0 rfl ?_
  refine gf_75 hX dP_undo_1 ?_
  refine gf_76 hX dP_undo_4 ?_
  refine k_if_ne (tgt := 13) hX dP_undo_7 (by decide) ?_ ?_
  · refine k_aload_n hX dP_undo_13 rfl ?_
    refine gf_75 hX dP_undo_14 ?_
    refine k_aload_n hX dP_undo_17 rfl ?_
    refine gf_2 hX dP_undo_18 ?_
    refine cl_106 hX (by decide) (Nat.le_of_ble_eq_true rfl) dP_undo_21 (fun _ τ1 => ?_)
    refine k_aload_n hX dP_undo_24 rfl ?_
    refine cl_50 hX (by decide) (Nat.le_of_ble_eq_true rfl) dP_undo_25 (fun _ τ2 => ?_)
    refine k_aload_n hX dP_undo_28 rfl ?_
    refine gf_75 hX dP_undo_29 ?_
    refine gf_76 hX dP_undo_32 ?_
    exact k_iret hX hR hT dP_undo_35
  · refine k_bipush hX dP_undo_10 (by decide) ?_
    exact k_iret hX hR hT dP_undo_12
theorem dDe_keysUpTo_0 : decode prog_2_method_6_code 0 = .ok (.iconst 0, 1) := by decide +kernel
theorem dDe_keysUpTo_1 : decode prog_2_method_6_code 1 = .ok (.istore 4, 2) := by decide +kernel
theorem dDe_keysUpTo_3 : decode prog_2_method_6_code 3 = .ok (.iconst 0, 1) := by decide +kernel
theorem dDe_keysUpTo_4 : decode prog_2_method_6_code 4 = .ok (.istore 5, 2) := by decide +kernel
theorem dDe_keysUpTo_6 : decode prog_2_method_6_code 6 = .ok (.iload 5, 2) := by decide +kernel
theorem dDe_keysUpTo_8 : decode prog_2_method_6_code 8 = .ok (.bipush 24, 2) := by decide +kernel
theorem dDe_keysUpTo_10 : decode prog_2_method_6_code 10 = .ok (.if_icmp .ge 24, 3) := by decide +kernel
theorem dDe_keysUpTo_13 : decode prog_2_method_6_code 13 = .ok (.aload_n 0, 1) := by decide +kernel
theorem dDe_keysUpTo_14 : decode prog_2_method_6_code 14 = .ok (.aload_n 1, 1) := by decide +kernel
theorem dDe_keysUpTo_15 : decode prog_2_method_6_code 15 = .ok (.iload_n 2, 1) := by decide +kernel
theorem dDe_keysUpTo_16 : decode prog_2_method_6_code 16 = .ok (.iload 5, 2) := by decide +kernel
theorem dDe_keysUpTo_18 : decode prog_2_method_6_code 18 = .ok (.invokevirtual 64, 3) := by decide +kernel
theorem dDe_keysUpTo_21 : decode prog_2_method_6_code 21 = .ok (.iload_n 3, 1) := by decide +kernel
theorem dDe_keysUpTo_22 : decode prog_2_method_6_code 22 = .ok (.if_icmp .gt 6, 3) := by decide +kernel
theorem dDe_keysUpTo_25 : decode prog_2_method_6_code 25 = .ok (.iinc 4 1, 3) := by decide +kernel
theorem dDe_keysUpTo_28 : decode prog_2_method_6_code 28 = .ok (.iinc 5 1, 3) := by decide +kernel
theorem dDe_keysUpTo_31 : decode prog_2_method_6_code 31 = .ok (.goto (-25), 3) := by decide +kernel
theorem dDe_keysUpTo_34 : decode prog_2_method_6_code 34 = .ok (.iload 4, 2) := by decide +kernel
theorem dDe_keysUpTo_36 : decode prog_2_method_6_code 36 = .ok (.ireturn, 1) := by decide +kernel
set_option maxRecDepth 100000 in
set_option maxHeartbeats 4000000 in
theorem tDe_keysUpTo_J34 {X : KC} {q : Int × KM} (hX : kOk X 2 prog_2_method_6_code 6 "KeyPath$Detours") (hR : kRet X (some .int) q) (x4 : Int) (σ : KM) {Θ : (Int × KM) → Prop} (hT : ∀ z, Θ (z) → z = q) : kJ X 34 [lq 9, lq 8, none, none, li x4, none] [] σ (fDe_keysUpTo_J34 x4 σ) Θ := by
  refine k_iload hX dDe_keysUpTo_34 rfl ?_
  exact k_iret hX hR hT dDe_keysUpTo_36
set_option maxRecDepth 100000 in
set_option maxHeartbeats 4000000 in
theorem tDe_keysUpTo_J28 {X : KC} {q : Int × KM} (hX : kOk X 2 prog_2_method_6_code 6 "KeyPath$Detours") (hR : kRet X (some .int) q) (x2 x3 x4 x5 : Int) (σ : KM) {Θ : ((Int × Int × KM) ⊕ (Int × KM)) → Prop} (hT : ∀ z, Θ (.inr (z)) → z = q) (hb0 : ∀ s : Int × Int × KM, Θ (.inl s) → kW X 6 [lq 9, lq 8, li x2, li x3, li s.1, li s.2.1] [] s.2.2) : kJ X 28 [lq 9, lq 8, li x2, li x3, li x4, li x5] [] σ (fDe_keysUpTo_J28 x2 x3 x4 x5 σ) Θ := by
  refine k_iincL (Lf := fun y1 => [lq 9, lq 8, li x2, li x3, li x4, li y1]) hX dDe_keysUpTo_28 rfl (by decide) rfl (fun _ => rfl) (fun y1 => ?_)
  refine k_goto (tgt := 6) hX dDe_keysUpTo_31 (by decide) ?_
  exact k_back (hb0 (x4, y1, σ))
set_option maxRecDepth 100000 in
set_option maxHeartbeats 4000000 in
theorem tDe_keysUpTo_B6 {X : KC} {q : Int × KM} (hX : kOk X 2 prog_2_method_6_code 6 "KeyPath$Detours") (hR : kRet X (some .int) q) (x2 x3 x4 x5 : Int) (σ : KM) {Θ : ((Int × Int × KM) ⊕ (Int × KM)) → Prop} (hT : ∀ z, Θ (.inr (z)) → z = q) (hb0 : ∀ s : Int × Int × KM, Θ (.inl s) → kW X 6 [lq 9, lq 8, li x2, li x3, li s.1, li s.2.1] [] s.2.2) : kJ X 6 [lq 9, lq 8, li x2, li x3, li x4, li x5] [] σ (fDe_keysUpTo_B6 x2 x3 x4 x5 σ) Θ := by
  refine k_iload hX dDe_keysUpTo_6 rfl ?_
  refine k_bipush hX dDe_keysUpTo_8 (by decide) ?_
  refine k_icmp_ge (tgt := 34) hX dDe_keysUpTo_10 (by decide) ?_ ?_
  · refine k_exit ?_
    refine k_less [true, true, false, false, true, false] (L' := [lq 9, lq 8, none, none, li x4, none]) rfl ?_
    exact tDe_keysUpTo_J34 hX hR x4 σ hT
  · refine k_aload_n hX dDe_keysUpTo_13 rfl ?_
    refine k_aload_n hX dDe_keysUpTo_14 rfl ?_
    refine k_iload_n hX dDe_keysUpTo_15 rfl ?_
    refine k_iload hX dDe_keysUpTo_16 rfl ?_
    refine cl_97 hX (by decide) (Nat.le_of_ble_eq_true rfl) dDe_keysUpTo_18 (fun r2 τ1 => ?_)
    refine k_iload_n hX dDe_keysUpTo_21 rfl ?_
    refine k_icmp_gt (tgt := 28) hX dDe_keysUpTo_22 (by decide) ?_ ?_
    · exact tDe_keysUpTo_J28 hX hR x2 x3 x4 x5 τ1 hT hb0
    · refine k_iincL (Lf := fun y3 => [lq 9, lq 8, li x2, li x3, li y3, li x5]) hX dDe_keysUpTo_25 rfl (by decide) rfl (fun _ => rfl) (fun y3 => ?_)
      exact tDe_keysUpTo_J28 hX hR x2 x3 y3 x5 τ1 hT hb0
set_option maxRecDepth 100000 in
set_option maxHeartbeats 4000000 in
theorem tDe_keysUpTo_L6 {X : KC} {q : Int × KM} (hX : kOk X 2 prog_2_method_6_code 6 "KeyPath$Detours") (hR : kRet X (some .int) q) (x2 x3 x4 x5 : Int) (σ : KM) {Θ : (Int × KM) → Prop} (hT : ∀ z, Θ (z) → z = q) : kJ X 6 [lq 9, lq 8, li x2, li x3, li x4, li x5] [] σ (fDe_keysUpTo_L6 x2 x3 x4 x5 σ) Θ :=
  k_iter (f := fun s => fDe_keysUpTo_B6 x2 x3 s.1 s.2.1 s.2.2) (Lf := fun s => [lq 9, lq 8, li x2, li x3, li s.1, li s.2.1]) (mf := fun s => s.2.2) (Θ := Θ) (fun s => tDe_keysUpTo_B6 hX hR x2 x3 s.1 s.2.1 s.2.2 hT (fun _ h9 => h9)) kF (x4, x5, σ)
set_option maxRecDepth 100000 in
set_option maxHeartbeats 4000000 in
theorem sDe_keysUpTo (x2 x3 : Int) (σ : KM) : kSem 2 (⟨"KeyPath$Detours", "keysUpTo", "(LKeyPath$PathFinder;II)I"⟩ : MethodName) prog_2_method_6_code 6 (some .int) [kr 9, kr 8, ki x2, ki x3] σ (fDe_keysUpTo x2 x3 σ) := by
  refine kSem.of (L0 := [lq 9, lq 8, li x2, li x3, none, none]) (by decide) (Nat.le_of_ble_eq_true rfl) rfl (fun X q hX hR => ?_)
  have hT : ∀ z : Int × KM, (fun z => z = q) z → z = q := fun _ h => h
  refine k_iconst hX dDe_keysUpTo_0 ?_
  refine k_istore (L' := [lq 9, lq 8, li x2, li x3, li 0, none]) hX dDe_keysUpTo_1 rfl (by decide) rfl ?_
  refine k_iconst hX dDe_keysUpTo_3 ?_
  refine k_istore (L' := [lq 9, lq 8, li x2, li x3, li 0, li 0]) hX dDe_keysUpTo_4 rfl (by decide) rfl ?_
  exact tDe_keysUpTo_L6 hX hR x2 x3 0 0 σ hT
theorem cl_107 {X : KC} {d n : Nat} {cc : ByteArray} {pc : Nat} {L : List (Option KV)} {st : List KV} {σ : KM} {Z : Type} {Θ : Z → Prop} {G : Int → KM → Option Z} {x2 x3 : Int} (hX : kOk X d cc n "KeyPath") (hdd : 2 + 1 ≤ d) (hst : k_cat st ≤ 8) (hd : decode cc pc = .ok (.invokevirtual 258, 3)) (h : ∀ r τ, kJ X (pc + 3) L (ki r :: st) τ (G r τ) Θ) : kJ X pc L (ki x3 :: ki x2 :: kr 8 :: kr 9 :: st) σ (kCall (fDe_keysUpTo x2 x3 σ) G) Θ :=
  k_callV (np := 3) (av := [kr 8, ki x2, ki x3]) (ret := (some .int)) hX (by decide) rfl rfl rfl (sDe_keysUpTo _ _ σ) ⟨⟨hdd, by decide⟩, tw_784, tw_10, by decide +kernel⟩ rfl tw_781 tw_782 tw_783 hst hd h
theorem dP_unsure_0 : decode prog_1_method_26_code 0 = .ok (.aload_n 0, 1) := by decide +kernel
theorem dP_unsure_1 : decode prog_1_method_26_code 1 = .ok (.iload_n 1, 1) := by decide +kernel
theorem dP_unsure_2 : decode prog_1_method_26_code 2 = .ok (.invokevirtual 196, 3) := by decide +kernel
theorem dP_unsure_5 : decode prog_1_method_26_code 5 = .ok (.ifCond .eq 6, 3) := by decide +kernel
theorem dP_unsure_8 : decode prog_1_method_26_code 8 = .ok (.bipush (-2), 2) := by decide +kernel
theorem dP_unsure_10 : decode prog_1_method_26_code 10 = .ok (.ireturn, 1) := by decide +kernel
theorem dP_unsure_11 : decode prog_1_method_26_code 11 = .ok (.iconst 0, 1) := by decide +kernel
theorem dP_unsure_12 : decode prog_1_method_26_code 12 = .ok (.sipush 9999, 3) := by decide +kernel
theorem dP_unsure_15 : decode prog_1_method_26_code 15 = .ok (.iload_n 2, 1) := by decide +kernel
theorem dP_unsure_16 : decode prog_1_method_26_code 16 = .ok (.invokestatic 138, 3) := by decide +kernel
theorem dP_unsure_19 : decode prog_1_method_26_code 19 = .ok (.ifCond .eq 6, 3) := by decide +kernel
theorem dP_unsure_22 : decode prog_1_method_26_code 22 = .ok (.bipush (-3), 2) := by decide +kernel
theorem dP_unsure_24 : decode prog_1_method_26_code 24 = .ok (.ireturn, 1) := by decide +kernel
theorem dP_unsure_25 : decode prog_1_method_26_code 25 = .ok (.aload_n 0, 1) := by decide +kernel
theorem dP_unsure_26 : decode prog_1_method_26_code 26 = .ok (.invokevirtual 233, 3) := by decide +kernel
theorem dP_unsure_29 : decode prog_1_method_26_code 29 = .ok (.ifCond .eq 6, 3) := by decide +kernel
theorem dP_unsure_32 : decode prog_1_method_26_code 32 = .ok (.bipush (-5), 2) := by decide +kernel
theorem dP_unsure_34 : decode prog_1_method_26_code 34 = .ok (.ireturn, 1) := by decide +kernel
theorem dP_unsure_35 : decode prog_1_method_26_code 35 = .ok (.aload_n 0, 1) := by decide +kernel
theorem dP_unsure_36 : decode prog_1_method_26_code 36 = .ok (.getfield 61, 3) := by decide +kernel
theorem dP_unsure_39 : decode prog_1_method_26_code 39 = .ok (.aload_n 0, 1) := by decide +kernel
theorem dP_unsure_40 : decode prog_1_method_26_code 40 = .ok (.getfield 54, 3) := by decide +kernel
theorem dP_unsure_43 : decode prog_1_method_26_code 43 = .ok (.invokevirtual 246, 3) := by decide +kernel
theorem dP_unsure_46 : decode prog_1_method_26_code 46 = .ok (.aload_n 0, 1) := by decide +kernel
theorem dP_unsure_47 : decode prog_1_method_26_code 47 = .ok (.getfield 61, 3) := by decide +kernel
theorem dP_unsure_50 : decode prog_1_method_26_code 50 = .ok (.aload_n 0, 1) := by decide +kernel
theorem dP_unsure_51 : decode prog_1_method_26_code 51 = .ok (.getfield 54, 3) := by decide +kernel
theorem dP_unsure_54 : decode prog_1_method_26_code 54 = .ok (.iload_n 1, 1) := by decide +kernel
theorem dP_unsure_55 : decode prog_1_method_26_code 55 = .ok (.aload_n 0, 1) := by decide +kernel
theorem dP_unsure_56 : decode prog_1_method_26_code 56 = .ok (.getfield 54, 3) := by decide +kernel
theorem dP_unsure_59 : decode prog_1_method_26_code 59 = .ok (.getfield 237, 3) := by decide +kernel
theorem dP_unsure_62 : decode prog_1_method_26_code 62 = .ok (.iload_n 2, 1) := by decide +kernel
theorem dP_unsure_63 : decode prog_1_method_26_code 63 = .ok (.iadd, 1) := by decide +kernel
theorem dP_unsure_64 : decode prog_1_method_26_code 64 = .ok (.invokevirtual 258, 3) := by decide +kernel
theorem dP_unsure_67 : decode prog_1_method_26_code 67 = .ok (.ireturn, 1) := by decide +kernel
set_option maxRecDepth 100000 in
set_option maxHeartbeats 4000000 in
theorem sP_unsure (x1 x2 : Int) (σ : KM) : kSem 8 (⟨"KeyPath", "unsure", "(II)I"⟩ : MethodName) prog_1_method_26_code 3 (some .int) [kr 0, ki x1, ki x2] σ (fP_unsure x1 x2 σ) := by
  refine kSem.of (L0 := [lq 0, li x1, li x2]) (by decide) (Nat.le_of_ble_eq_true rfl) rfl (fun X q hX hR => ?_)
  have hT : ∀ z : Int × KM, (fun z => z = q) z → z = q := fun _ h => h
  refine k_aload_n hX dP_unsure_0 rfl ?_
  refine k_iload_n hX dP_unsure_1 rfl ?_
  refine cl_9 hX (by decide) (Nat.le_of_ble_eq_true rfl) dP_unsure_2 (fun r2 τ1 => ?_)
  refine k_if_eq (tgt := 11) hX dP_unsure_5 (by decide) ?_ ?_
  · refine k_iconst hX dP_unsure_11 ?_
    refine k_sipush hX dP_unsure_12 (by decide) ?_
    refine k_iload_n hX dP_unsure_15 rfl ?_
    refine cl_43 hX (by decide) (Nat.le_of_ble_eq_true rfl) dP_unsure_16 (fun r4 τ3 => ?_)
    refine k_if_eq (tgt := 25) hX dP_unsure_19 (by decide) ?_ ?_
    · refine k_aload_n hX dP_unsure_25 rfl ?_
      refine cl_33 hX (by decide) (Nat.le_of_ble_eq_true rfl) dP_unsure_26 (fun r6 τ5 => ?_)
      refine k_if_eq (tgt := 35) hX dP_unsure_29 (by decide) ?_ ?_
      · refine k_aload_n hX dP_unsure_35 rfl ?_
        refine gf_67 hX dP_unsure_36 ?_
        refine k_aload_n hX dP_unsure_39 rfl ?_
        refine gf_20 hX dP_unsure_40 ?_
        refine cl_96 hX (by decide) (Nat.le_of_ble_eq_true rfl) dP_unsure_43 (fun _ τ7 => ?_)
        refine k_aload_n hX dP_unsure_46 rfl ?_
        refine gf_67 hX dP_unsure_47 ?_
        refine k_aload_n hX dP_unsure_50 rfl ?_
        refine gf_20 hX dP_unsure_51 ?_
        refine k_iload_n hX dP_unsure_54 rfl ?_
        refine k_aload_n hX dP_unsure_55 rfl ?_
        refine gf_20 hX dP_unsure_56 ?_
        refine gf_73 hX dP_unsure_59 ?_
        refine k_iload_n hX dP_unsure_62 rfl ?_
        refine k_iadd hX dP_unsure_63 ?_
        refine cl_107 hX (by decide) (Nat.le_of_ble_eq_true rfl) dP_unsure_64 (fun r9 τ8 => ?_)
        exact k_iret hX hR hT dP_unsure_67
      · refine k_bipush hX dP_unsure_32 (by decide) ?_
        exact k_iret hX hR hT dP_unsure_34
    · refine k_bipush hX dP_unsure_22 (by decide) ?_
      exact k_iret hX hR hT dP_unsure_24
  · refine k_bipush hX dP_unsure_8 (by decide) ?_
    exact k_iret hX hR hT dP_unsure_10
theorem dNe_nextOnWay_0 : decode prog_4_method_9_code 0 = .ok (.bipush 24, 2) := by decide +kernel
theorem dNe_nextOnWay_2 : decode prog_4_method_9_code 2 = .ok (.istore_n 3, 1) := by decide +kernel
theorem dNe_nextOnWay_3 : decode prog_4_method_9_code 3 = .ok (.iconst 0, 1) := by decide +kernel
theorem dNe_nextOnWay_4 : decode prog_4_method_9_code 4 = .ok (.istore 4, 2) := by decide +kernel
theorem dNe_nextOnWay_6 : decode prog_4_method_9_code 6 = .ok (.iload 4, 2) := by decide +kernel
theorem dNe_nextOnWay_8 : decode prog_4_method_9_code 8 = .ok (.iconst 4, 1) := by decide +kernel
theorem dNe_nextOnWay_9 : decode prog_4_method_9_code 9 = .ok (.if_icmp .ge 57, 3) := by decide +kernel
theorem dNe_nextOnWay_12 : decode prog_4_method_9_code 12 = .ok (.iload_n 1, 1) := by decide +kernel
theorem dNe_nextOnWay_13 : decode prog_4_method_9_code 13 = .ok (.iload 4, 2) := by decide +kernel
theorem dNe_nextOnWay_15 : decode prog_4_method_9_code 15 = .ok (.invokestatic 61, 3) := by decide +kernel
theorem dNe_nextOnWay_18 : decode prog_4_method_9_code 18 = .ok (.istore 5, 2) := by decide +kernel
theorem dNe_nextOnWay_20 : decode prog_4_method_9_code 20 = .ok (.aload_n 0, 1) := by decide +kernel
theorem dNe_nextOnWay_21 : decode prog_4_method_9_code 21 = .ok (.getfield 32, 3) := by decide +kernel
theorem dNe_nextOnWay_24 : decode prog_4_method_9_code 24 = .ok (.iload_n 1, 1) := by decide +kernel
theorem dNe_nextOnWay_25 : decode prog_4_method_9_code 25 = .ok (.bipush 24, 2) := by decide +kernel
theorem dNe_nextOnWay_27 : decode prog_4_method_9_code 27 = .ok (.imul, 1) := by decide +kernel
theorem dNe_nextOnWay_28 : decode prog_4_method_9_code 28 = .ok (.iload_n 2, 1) := by decide +kernel
theorem dNe_nextOnWay_29 : decode prog_4_method_9_code 29 = .ok (.iadd, 1) := by decide +kernel
theorem dNe_nextOnWay_30 : decode prog_4_method_9_code 30 = .ok (.iaload, 1) := by decide +kernel
theorem dNe_nextOnWay_31 : decode prog_4_method_9_code 31 = .ok (.aload_n 0, 1) := by decide +kernel
theorem dNe_nextOnWay_32 : decode prog_4_method_9_code 32 = .ok (.iload 4, 2) := by decide +kernel
theorem dNe_nextOnWay_34 : decode prog_4_method_9_code 34 = .ok (.invokevirtual 65, 3) := by decide +kernel
theorem dNe_nextOnWay_37 : decode prog_4_method_9_code 37 = .ok (.aload_n 0, 1) := by decide +kernel
theorem dNe_nextOnWay_38 : decode prog_4_method_9_code 38 = .ok (.getfield 32, 3) := by decide +kernel
theorem dNe_nextOnWay_41 : decode prog_4_method_9_code 41 = .ok (.iload 5, 2) := by decide +kernel
theorem dNe_nextOnWay_43 : decode prog_4_method_9_code 43 = .ok (.bipush 24, 2) := by decide +kernel
theorem dNe_nextOnWay_45 : decode prog_4_method_9_code 45 = .ok (.imul, 1) := by decide +kernel
theorem dNe_nextOnWay_46 : decode prog_4_method_9_code 46 = .ok (.iload_n 2, 1) := by decide +kernel
theorem dNe_nextOnWay_47 : decode prog_4_method_9_code 47 = .ok (.iadd, 1) := by decide +kernel
theorem dNe_nextOnWay_48 : decode prog_4_method_9_code 48 = .ok (.iaload, 1) := by decide +kernel
theorem dNe_nextOnWay_49 : decode prog_4_method_9_code 49 = .ok (.iadd, 1) := by decide +kernel
theorem dNe_nextOnWay_50 : decode prog_4_method_9_code 50 = .ok (.if_icmp .ne 10, 3) := by decide +kernel
theorem dNe_nextOnWay_53 : decode prog_4_method_9_code 53 = .ok (.iload_n 3, 1) := by decide +kernel
theorem dNe_nextOnWay_54 : decode prog_4_method_9_code 54 = .ok (.iload 5, 2) := by decide +kernel
theorem dNe_nextOnWay_56 : decode prog_4_method_9_code 56 = .ok (.invokestatic 71, 3) := by decide +kernel
theorem dNe_nextOnWay_59 : decode prog_4_method_9_code 59 = .ok (.istore_n 3, 1) := by decide +kernel
theorem dNe_nextOnWay_60 : decode prog_4_method_9_code 60 = .ok (.iinc 4 1, 3) := by decide +kernel
theorem dNe_nextOnWay_63 : decode prog_4_method_9_code 63 = .ok (.goto (-57), 3) := by decide +kernel
theorem dNe_nextOnWay_66 : decode prog_4_method_9_code 66 = .ok (.iload_n 3, 1) := by decide +kernel
theorem dNe_nextOnWay_67 : decode prog_4_method_9_code 67 = .ok (.bipush 24, 2) := by decide +kernel
theorem dNe_nextOnWay_69 : decode prog_4_method_9_code 69 = .ok (.if_icmp .ge 7, 3) := by decide +kernel
theorem dNe_nextOnWay_72 : decode prog_4_method_9_code 72 = .ok (.iload_n 3, 1) := by decide +kernel
theorem dNe_nextOnWay_73 : decode prog_4_method_9_code 73 = .ok (.goto 4, 3) := by decide +kernel
theorem dNe_nextOnWay_76 : decode prog_4_method_9_code 76 = .ok (.iload_n 2, 1) := by decide +kernel
theorem dNe_nextOnWay_77 : decode prog_4_method_9_code 77 = .ok (.ireturn, 1) := by decide +kernel
set_option maxRecDepth 100000 in
set_option maxHeartbeats 4000000 in
theorem tNe_nextOnWay_J77 {X : KC} {q : Int × KM} (hX : kOk X 3 prog_4_method_9_code 6 "KeyPath$Net") (hR : kRet X (some .int) q) (t0 : Int) (σ : KM) {Θ : (Int × KM) → Prop} (hT : ∀ z, Θ (z) → z = q) : kJ X 77 [lq 7, none, none, none, none, none] [ki t0] σ (fNe_nextOnWay_J77 t0 σ) Θ := by
  exact k_iret hX hR hT dNe_nextOnWay_77
set_option maxRecDepth 100000 in
set_option maxHeartbeats 4000000 in
theorem tNe_nextOnWay_J66 {X : KC} {q : Int × KM} (hX : kOk X 3 prog_4_method_9_code 6 "KeyPath$Net") (hR : kRet X (some .int) q) (x2 x3 : Int) (σ : KM) {Θ : (Int × KM) → Prop} (hT : ∀ z, Θ (z) → z = q) : kJ X 66 [lq 7, none, li x2, li x3, none, none] [] σ (fNe_nextOnWay_J66 x2 x3 σ) Θ := by
  refine k_iload_n hX dNe_nextOnWay_66 rfl ?_
  refine k_bipush hX dNe_nextOnWay_67 (by decide) ?_
  refine k_icmp_ge (tgt := 76) hX dNe_nextOnWay_69 (by decide) ?_ ?_
  · refine k_iload_n hX dNe_nextOnWay_76 rfl ?_
    refine k_less [true, true, false, false, true, true] (L' := [lq 7, none, none, none, none, none]) rfl ?_
    exact tNe_nextOnWay_J77 hX hR x2 σ hT
  · refine k_iload_n hX dNe_nextOnWay_72 rfl ?_
    refine k_goto (tgt := 77) hX dNe_nextOnWay_73 (by decide) ?_
    refine k_less [true, true, false, false, true, true] (L' := [lq 7, none, none, none, none, none]) rfl ?_
    exact tNe_nextOnWay_J77 hX hR x3 σ hT
set_option maxRecDepth 100000 in
set_option maxHeartbeats 4000000 in
theorem tNe_nextOnWay_J60 {X : KC} {q : Int × KM} (hX : kOk X 3 prog_4_method_9_code 6 "KeyPath$Net") (hR : kRet X (some .int) q) (x1 x2 x3 x4 : Int) (σ : KM) {Θ : ((Int × Int × KM) ⊕ (Int × KM)) → Prop} (hT : ∀ z, Θ (.inr (z)) → z = q) (hb0 : ∀ s : Int × Int × KM, Θ (.inl s) → kW X 6 [lq 7, li x1, li x2, li s.1, li s.2.1, none] [] s.2.2) : kJ X 60 [lq 7, li x1, li x2, li x3, li x4, none] [] σ (fNe_nextOnWay_J60 x1 x2 x3 x4 σ) Θ := by
  refine k_iincL (Lf := fun y1 => [lq 7, li x1, li x2, li x3, li y1, none]) hX dNe_nextOnWay_60 rfl (by decide) rfl (fun _ => rfl) (fun y1 => ?_)
  refine k_goto (tgt := 6) hX dNe_nextOnWay_63 (by decide) ?_
  exact k_back (hb0 (x3, y1, σ))
set_option maxRecDepth 100000 in
set_option maxHeartbeats 4000000 in
theorem tNe_nextOnWay_B6 {X : KC} {q : Int × KM} (hX : kOk X 3 prog_4_method_9_code 6 "KeyPath$Net") (hR : kRet X (some .int) q) (x1 x2 x3 x4 : Int) (σ : KM) {Θ : ((Int × Int × KM) ⊕ (Int × KM)) → Prop} (hT : ∀ z, Θ (.inr (z)) → z = q) (hb0 : ∀ s : Int × Int × KM, Θ (.inl s) → kW X 6 [lq 7, li x1, li x2, li s.1, li s.2.1, none] [] s.2.2) : kJ X 6 [lq 7, li x1, li x2, li x3, li x4, none] [] σ (fNe_nextOnWay_B6 x1 x2 x3 x4 σ) Θ := by
  refine k_iload hX dNe_nextOnWay_6 rfl ?_
  refine k_iconst hX dNe_nextOnWay_8 ?_
  refine k_icmp_ge (tgt := 66) hX dNe_nextOnWay_9 (by decide) ?_ ?_
  · refine k_exit ?_
    refine k_less [true, false, true, true, false, true] (L' := [lq 7, none, li x2, li x3, none, none]) rfl ?_
    exact tNe_nextOnWay_J66 hX hR x2 x3 σ hT
  · refine k_iload_n hX dNe_nextOnWay_12 rfl ?_
    refine k_iload hX dNe_nextOnWay_13 rfl ?_
    refine cl_18 hX (by decide) (Nat.le_of_ble_eq_true rfl) dNe_nextOnWay_15 (fun r2 τ1 => ?_)
    refine k_istore (L' := [lq 7, li x1, li x2, li x3, li x4, li r2]) hX dNe_nextOnWay_18 rfl (by decide) rfl ?_
    refine k_aload_n hX dNe_nextOnWay_20 rfl ?_
    refine gf_39 hX dNe_nextOnWay_21 ?_
    refine k_iload_n hX dNe_nextOnWay_24 rfl ?_
    refine k_bipush hX dNe_nextOnWay_25 (by decide) ?_
    refine k_imul hX dNe_nextOnWay_27 ?_
    refine k_iload_n hX dNe_nextOnWay_28 rfl ?_
    refine k_iadd hX dNe_nextOnWay_29 ?_
    refine k_iald hX (by decide) rfl dNe_nextOnWay_30 rfl (fun y3 => ?_)
    refine k_aload_n hX dNe_nextOnWay_31 rfl ?_
    refine k_iload hX dNe_nextOnWay_32 rfl ?_
    refine cl_19 hX (by decide) (Nat.le_of_ble_eq_true rfl) dNe_nextOnWay_34 (fun r5 τ4 => ?_)
    refine k_aload_n hX dNe_nextOnWay_37 rfl ?_
    refine gf_39 hX dNe_nextOnWay_38 ?_
    refine k_iload hX dNe_nextOnWay_41 rfl ?_
    refine k_bipush hX dNe_nextOnWay_43 (by decide) ?_
    refine k_imul hX dNe_nextOnWay_45 ?_
    refine k_iload_n hX dNe_nextOnWay_46 rfl ?_
    refine k_iadd hX dNe_nextOnWay_47 ?_
    refine k_iald hX (by decide) rfl dNe_nextOnWay_48 rfl (fun y6 => ?_)
    refine k_iadd hX dNe_nextOnWay_49 ?_
    refine k_icmp_ne (tgt := 60) hX dNe_nextOnWay_50 (by decide) ?_ ?_
    · refine k_less [true, true, true, true, true, false] (L' := [lq 7, li x1, li x2, li x3, li x4, none]) rfl ?_
      exact tNe_nextOnWay_J60 hX hR x1 x2 x3 x4 τ4 hT hb0
    · refine k_iload_n hX dNe_nextOnWay_53 rfl ?_
      refine k_iload hX dNe_nextOnWay_54 rfl ?_
      refine k_mmin hX (by decide) (Nat.le_of_ble_eq_true rfl) tw_695 tw_379 tw_12 tw_380 dNe_nextOnWay_56 (fun y7 => ?_)
      refine k_istore_n (L' := [lq 7, li x1, li x2, li y7, li x4, li r2]) hX dNe_nextOnWay_59 rfl (by decide) rfl ?_
      refine k_less [true, true, true, true, true, false] (L' := [lq 7, li x1, li x2, li y7, li x4, none]) rfl ?_
      exact tNe_nextOnWay_J60 hX hR x1 x2 y7 x4 τ4 hT hb0
set_option maxRecDepth 100000 in
set_option maxHeartbeats 4000000 in
theorem tNe_nextOnWay_L6 {X : KC} {q : Int × KM} (hX : kOk X 3 prog_4_method_9_code 6 "KeyPath$Net") (hR : kRet X (some .int) q) (x1 x2 x3 x4 : Int) (σ : KM) {Θ : (Int × KM) → Prop} (hT : ∀ z, Θ (z) → z = q) : kJ X 6 [lq 7, li x1, li x2, li x3, li x4, none] [] σ (fNe_nextOnWay_L6 x1 x2 x3 x4 σ) Θ :=
  k_iter (f := fun s => fNe_nextOnWay_B6 x1 x2 s.1 s.2.1 s.2.2) (Lf := fun s => [lq 7, li x1, li x2, li s.1, li s.2.1, none]) (mf := fun s => s.2.2) (Θ := Θ) (fun s => tNe_nextOnWay_B6 hX hR x1 x2 s.1 s.2.1 s.2.2 hT (fun _ h9 => h9)) kF (x3, x4, σ)
set_option maxRecDepth 100000 in
set_option maxHeartbeats 4000000 in
theorem sNe_nextOnWay (x1 x2 : Int) (σ : KM) : kSem 3 (⟨"KeyPath$Net", "nextOnWay", "(II)I"⟩ : MethodName) prog_4_method_9_code 6 (some .int) [kr 7, ki x1, ki x2] σ (fNe_nextOnWay x1 x2 σ) := by
  refine kSem.of (L0 := [lq 7, li x1, li x2, none, none, none]) (by decide) (Nat.le_of_ble_eq_true rfl) rfl (fun X q hX hR => ?_)
  have hT : ∀ z : Int × KM, (fun z => z = q) z → z = q := fun _ h => h
  refine k_bipush hX dNe_nextOnWay_0 (by decide) ?_
  refine k_istore_n (L' := [lq 7, li x1, li x2, li 24, none, none]) hX dNe_nextOnWay_2 rfl (by decide) rfl ?_
  refine k_iconst hX dNe_nextOnWay_3 ?_
  refine k_istore (L' := [lq 7, li x1, li x2, li 24, li 0, none]) hX dNe_nextOnWay_4 rfl (by decide) rfl ?_
  exact tNe_nextOnWay_L6 hX hR x1 x2 24 0 σ hT
theorem cl_108 {X : KC} {d n : Nat} {cc : ByteArray} {pc : Nat} {L : List (Option KV)} {st : List KV} {σ : KM} {Z : Type} {Θ : Z → Prop} {G : Int → KM → Option Z} {x1 x2 : Int} (hX : kOk X d cc n "KeyPath$Net") (hdd : 3 + 1 ≤ d) (hst : k_cat st ≤ 8) (hd : decode cc pc = .ok (.invokevirtual 68, 3)) (h : ∀ r τ, kJ X (pc + 3) L (ki r :: st) τ (G r τ) Θ) : kJ X pc L (ki x2 :: ki x1 :: kr 7 :: st) σ (kCall (fNe_nextOnWay x1 x2 σ) G) Θ :=
  k_callV (np := 2) (av := [ki x1, ki x2]) (ret := (some .int)) hX (by decide) rfl rfl rfl (sNe_nextOnWay _ _ σ) ⟨⟨hdd, by decide⟩, tw_694, tw_7, by decide +kernel⟩ rfl tw_691 tw_693 ts_25 hst hd h
theorem dNe_keyOnWay_0 : decode prog_4_method_8_code 0 = .ok (.iload_n 3, 1) := by decide +kernel
theorem dNe_keyOnWay_1 : decode prog_4_method_8_code 1 = .ok (.bipush 24, 2) := by decide +kernel
theorem dNe_keyOnWay_3 : decode prog_4_method_8_code 3 = .ok (.if_icmp .lt 5, 3) := by decide +kernel
theorem dNe_keyOnWay_6 : decode prog_4_method_8_code 6 = .ok (.iconst (-1), 1) := by decide +kernel
theorem dNe_keyOnWay_7 : decode prog_4_method_8_code 7 = .ok (.ireturn, 1) := by decide +kernel
theorem dNe_keyOnWay_8 : decode prog_4_method_8_code 8 = .ok (.iload_n 1, 1) := by decide +kernel
theorem dNe_keyOnWay_9 : decode prog_4_method_8_code 9 = .ok (.istore 4, 2) := by decide +kernel
theorem dNe_keyOnWay_11 : decode prog_4_method_8_code 11 = .ok (.iconst 0, 1) := by decide +kernel
theorem dNe_keyOnWay_12 : decode prog_4_method_8_code 12 = .ok (.istore 5, 2) := by decide +kernel
theorem dNe_keyOnWay_14 : decode prog_4_method_8_code 14 = .ok (.iload 5, 2) := by decide +kernel
theorem dNe_keyOnWay_16 : decode prog_4_method_8_code 16 = .ok (.iload_n 3, 1) := by decide +kernel
theorem dNe_keyOnWay_17 : decode prog_4_method_8_code 17 = .ok (.if_icmp .ge 26, 3) := by decide +kernel
theorem dNe_keyOnWay_20 : decode prog_4_method_8_code 20 = .ok (.iload 4, 2) := by decide +kernel
theorem dNe_keyOnWay_22 : decode prog_4_method_8_code 22 = .ok (.iload_n 2, 1) := by decide +kernel
theorem dNe_keyOnWay_23 : decode prog_4_method_8_code 23 = .ok (.if_icmp .ne 5, 3) := by decide +kernel
theorem dNe_keyOnWay_26 : decode prog_4_method_8_code 26 = .ok (.iconst (-1), 1) := by decide +kernel
theorem dNe_keyOnWay_27 : decode prog_4_method_8_code 27 = .ok (.ireturn, 1) := by decide +kernel
theorem dNe_keyOnWay_28 : decode prog_4_method_8_code 28 = .ok (.aload_n 0, 1) := by decide +kernel
theorem dNe_keyOnWay_29 : decode prog_4_method_8_code 29 = .ok (.iload 4, 2) := by decide +kernel
theorem dNe_keyOnWay_31 : decode prog_4_method_8_code 31 = .ok (.iload_n 2, 1) := by decide +kernel
theorem dNe_keyOnWay_32 : decode prog_4_method_8_code 32 = .ok (.invokevirtual 68, 3) := by decide +kernel
theorem dNe_keyOnWay_35 : decode prog_4_method_8_code 35 = .ok (.istore 4, 2) := by decide +kernel
theorem dNe_keyOnWay_37 : decode prog_4_method_8_code 37 = .ok (.iinc 5 1, 3) := by decide +kernel
theorem dNe_keyOnWay_40 : decode prog_4_method_8_code 40 = .ok (.goto (-26), 3) := by decide +kernel
theorem dNe_keyOnWay_43 : decode prog_4_method_8_code 43 = .ok (.iload 4, 2) := by decide +kernel
theorem dNe_keyOnWay_45 : decode prog_4_method_8_code 45 = .ok (.ireturn, 1) := by decide +kernel
set_option maxRecDepth 100000 in
set_option maxHeartbeats 4000000 in
theorem tNe_keyOnWay_J43 {X : KC} {q : Int × KM} (hX : kOk X 4 prog_4_method_8_code 6 "KeyPath$Net") (hR : kRet X (some .int) q) (x4 : Int) (σ : KM) {Θ : (Int × KM) → Prop} (hT : ∀ z, Θ (z) → z = q) : kJ X 43 [lq 7, none, none, none, li x4, none] [] σ (fNe_keyOnWay_J43 x4 σ) Θ := by
  refine k_iload hX dNe_keyOnWay_43 rfl ?_
  exact k_iret hX hR hT dNe_keyOnWay_45
set_option maxRecDepth 100000 in
set_option maxHeartbeats 4000000 in
theorem tNe_keyOnWay_J26 {X : KC} {q : Int × KM} (hX : kOk X 4 prog_4_method_8_code 6 "KeyPath$Net") (hR : kRet X (some .int) q) (σ : KM) {Θ : (Int × KM) → Prop} (hT : ∀ z, Θ (z) → z = q) : kJ X 26 [lq 7, none, none, none, none, none] [] σ (fNe_keyOnWay_J26 σ) Θ := by
  refine k_iconst hX dNe_keyOnWay_26 ?_
  exact k_iret hX hR hT dNe_keyOnWay_27
set_option maxRecDepth 100000 in
set_option maxHeartbeats 4000000 in
theorem tNe_keyOnWay_B14 {X : KC} {q : Int × KM} (hX : kOk X 4 prog_4_method_8_code 6 "KeyPath$Net") (hR : kRet X (some .int) q) (x2 x3 x4 x5 : Int) (σ : KM) {Θ : ((Int × Int × KM) ⊕ (Int × KM)) → Prop} (hT : ∀ z, Θ (.inr (z)) → z = q) (hb0 : ∀ s : Int × Int × KM, Θ (.inl s) → kW X 14 [lq 7, none, li x2, li x3, li s.1, li s.2.1] [] s.2.2) : kJ X 14 [lq 7, none, li x2, li x3, li x4, li x5] [] σ (fNe_keyOnWay_B14 x2 x3 x4 x5 σ) Θ := by
  refine k_iload hX dNe_keyOnWay_14 rfl ?_
  refine k_iload_n hX dNe_keyOnWay_16 rfl ?_
  refine k_icmp_ge (tgt := 43) hX dNe_keyOnWay_17 (by decide) ?_ ?_
  · refine k_exit ?_
    refine k_less [true, true, false, false, true, false] (L' := [lq 7, none, none, none, li x4, none]) rfl ?_
    exact tNe_keyOnWay_J43 hX hR x4 σ hT
  · refine k_iload hX dNe_keyOnWay_20 rfl ?_
    refine k_iload_n hX dNe_keyOnWay_22 rfl ?_
    refine k_icmp_ne (tgt := 28) hX dNe_keyOnWay_23 (by decide) ?_ ?_
    · refine k_aload_n hX dNe_keyOnWay_28 rfl ?_
      refine k_iload hX dNe_keyOnWay_29 rfl ?_
      refine k_iload_n hX dNe_keyOnWay_31 rfl ?_
      refine cl_108 hX (by decide) (Nat.le_of_ble_eq_true rfl) dNe_keyOnWay_32 (fun r2 τ1 => ?_)
      refine k_istore (L' := [lq 7, none, li x2, li x3, li r2, li x5]) hX dNe_keyOnWay_35 rfl (by decide) rfl ?_
      refine k_iincL (Lf := fun y3 => [lq 7, none, li x2, li x3, li r2, li y3]) hX dNe_keyOnWay_37 rfl (by decide) rfl (fun _ => rfl) (fun y3 => ?_)
      refine k_goto (tgt := 14) hX dNe_keyOnWay_40 (by decide) ?_
      exact k_back (hb0 (r2, y3, τ1))
    · refine k_exit ?_
      refine k_less [true, true, false, false, false, false] (L' := [lq 7, none, none, none, none, none]) rfl ?_
      exact tNe_keyOnWay_J26 hX hR σ hT
set_option maxRecDepth 100000 in
set_option maxHeartbeats 4000000 in
theorem tNe_keyOnWay_L14 {X : KC} {q : Int × KM} (hX : kOk X 4 prog_4_method_8_code 6 "KeyPath$Net") (hR : kRet X (some .int) q) (x2 x3 x4 x5 : Int) (σ : KM) {Θ : (Int × KM) → Prop} (hT : ∀ z, Θ (z) → z = q) : kJ X 14 [lq 7, none, li x2, li x3, li x4, li x5] [] σ (fNe_keyOnWay_L14 x2 x3 x4 x5 σ) Θ :=
  k_iter (f := fun s => fNe_keyOnWay_B14 x2 x3 s.1 s.2.1 s.2.2) (Lf := fun s => [lq 7, none, li x2, li x3, li s.1, li s.2.1]) (mf := fun s => s.2.2) (Θ := Θ) (fun s => tNe_keyOnWay_B14 hX hR x2 x3 s.1 s.2.1 s.2.2 hT (fun _ h9 => h9)) kF (x4, x5, σ)
set_option maxRecDepth 100000 in
set_option maxHeartbeats 4000000 in
theorem sNe_keyOnWay (x1 x2 x3 : Int) (σ : KM) : kSem 4 (⟨"KeyPath$Net", "keyOnWay", "(III)I"⟩ : MethodName) prog_4_method_8_code 6 (some .int) [kr 7, ki x1, ki x2, ki x3] σ (fNe_keyOnWay x1 x2 x3 σ) := by
  refine kSem.of (L0 := [lq 7, li x1, li x2, li x3, none, none]) (by decide) (Nat.le_of_ble_eq_true rfl) rfl (fun X q hX hR => ?_)
  have hT : ∀ z : Int × KM, (fun z => z = q) z → z = q := fun _ h => h
  refine k_iload_n hX dNe_keyOnWay_0 rfl ?_
  refine k_bipush hX dNe_keyOnWay_1 (by decide) ?_
  refine k_icmp_lt (tgt := 8) hX dNe_keyOnWay_3 (by decide) ?_ ?_
  · refine k_iload_n hX dNe_keyOnWay_8 rfl ?_
    refine k_istore (L' := [lq 7, li x1, li x2, li x3, li x1, none]) hX dNe_keyOnWay_9 rfl (by decide) rfl ?_
    refine k_iconst hX dNe_keyOnWay_11 ?_
    refine k_istore (L' := [lq 7, li x1, li x2, li x3, li x1, li 0]) hX dNe_keyOnWay_12 rfl (by decide) rfl ?_
    refine k_less [true, false, true, true, true, true] (L' := [lq 7, none, li x2, li x3, li x1, li 0]) rfl ?_
    exact tNe_keyOnWay_L14 hX hR x2 x3 x1 0 σ hT
  · refine k_iconst hX dNe_keyOnWay_6 ?_
    exact k_iret hX hR hT dNe_keyOnWay_7
theorem cl_109 {X : KC} {d n : Nat} {cc : ByteArray} {pc : Nat} {L : List (Option KV)} {st : List KV} {σ : KM} {Z : Type} {Θ : Z → Prop} {G : Int → KM → Option Z} {x1 x2 x3 : Int} (hX : kOk X d cc n "KeyPath") (hdd : 4 + 1 ≤ d) (hst : k_cat st ≤ 8) (hd : decode cc pc = .ok (.invokevirtual 230, 3)) (h : ∀ r τ, kJ X (pc + 3) L (ki r :: st) τ (G r τ) Θ) : kJ X pc L (ki x3 :: ki x2 :: ki x1 :: kr 7 :: st) σ (kCall (fNe_keyOnWay x1 x2 x3 σ) G) Θ :=
  k_callV (np := 3) (av := [ki x1, ki x2, ki x3]) (ret := (some .int)) hX (by decide) rfl rfl rfl (sNe_keyOnWay _ _ _ σ) ⟨⟨hdd, by decide⟩, tw_690, tw_7, by decide +kernel⟩ rfl tw_687 tw_688 tw_689 hst hd h
theorem dP_way_0 : decode prog_1_method_21_code 0 = .ok (.iload_n 1, 1) := by decide +kernel
theorem dP_way_1 : decode prog_1_method_21_code 1 = .ok (.invokestatic 190, 3) := by decide +kernel
theorem dP_way_4 : decode prog_1_method_21_code 4 = .ok (.ifCond .ne 10, 3) := by decide +kernel
theorem dP_way_7 : decode prog_1_method_21_code 7 = .ok (.iload_n 2, 1) := by decide +kernel
theorem dP_way_8 : decode prog_1_method_21_code 8 = .ok (.invokestatic 190, 3) := by decide +kernel
theorem dP_way_11 : decode prog_1_method_21_code 11 = .ok (.ifCond .eq 6, 3) := by decide +kernel
theorem dP_way_14 : decode prog_1_method_21_code 14 = .ok (.bipush (-2), 2) := by decide +kernel
theorem dP_way_16 : decode prog_1_method_21_code 16 = .ok (.ireturn, 1) := by decide +kernel
theorem dP_way_17 : decode prog_1_method_21_code 17 = .ok (.iload_n 3, 1) := by decide +kernel
theorem dP_way_18 : decode prog_1_method_21_code 18 = .ok (.ifCond .ge 6, 3) := by decide +kernel
theorem dP_way_21 : decode prog_1_method_21_code 21 = .ok (.bipush (-3), 2) := by decide +kernel
theorem dP_way_23 : decode prog_1_method_21_code 23 = .ok (.ireturn, 1) := by decide +kernel
theorem dP_way_24 : decode prog_1_method_21_code 24 = .ok (.aload_n 0, 1) := by decide +kernel
theorem dP_way_25 : decode prog_1_method_21_code 25 = .ok (.getfield 47, 3) := by decide +kernel
theorem dP_way_28 : decode prog_1_method_21_code 28 = .ok (.invokevirtual 224, 3) := by decide +kernel
theorem dP_way_31 : decode prog_1_method_21_code 31 = .ok (.aload_n 0, 1) := by decide +kernel
theorem dP_way_32 : decode prog_1_method_21_code 32 = .ok (.getfield 47, 3) := by decide +kernel
theorem dP_way_35 : decode prog_1_method_21_code 35 = .ok (.iload_n 1, 1) := by decide +kernel
theorem dP_way_36 : decode prog_1_method_21_code 36 = .ok (.iload_n 2, 1) := by decide +kernel
theorem dP_way_37 : decode prog_1_method_21_code 37 = .ok (.iload_n 3, 1) := by decide +kernel
theorem dP_way_38 : decode prog_1_method_21_code 38 = .ok (.invokevirtual 230, 3) := by decide +kernel
theorem dP_way_41 : decode prog_1_method_21_code 41 = .ok (.ireturn, 1) := by decide +kernel
set_option maxRecDepth 100000 in
set_option maxHeartbeats 4000000 in
theorem tP_way_J14 {X : KC} {q : Int × KM} (hX : kOk X 5 prog_1_method_21_code 4 "KeyPath") (hR : kRet X (some .int) q) (σ : KM) {Θ : (Int × KM) → Prop} (hT : ∀ z, Θ (z) → z = q) : kJ X 14 [lq 0, none, none, none] [] σ (fP_way_J14 σ) Θ := by
  refine k_bipush hX dP_way_14 (by decide) ?_
  exact k_iret hX hR hT dP_way_16
set_option maxRecDepth 100000 in
set_option maxHeartbeats 4000000 in
theorem sP_way (x1 x2 x3 : Int) (σ : KM) : kSem 5 (⟨"KeyPath", "way", "(III)I"⟩ : MethodName) prog_1_method_21_code 4 (some .int) [kr 0, ki x1, ki x2, ki x3] σ (fP_way x1 x2 x3 σ) := by
  refine kSem.of (L0 := [lq 0, li x1, li x2, li x3]) (by decide) (Nat.le_of_ble_eq_true rfl) rfl (fun X q hX hR => ?_)
  have hT : ∀ z : Int × KM, (fun z => z = q) z → z = q := fun _ h => h
  refine k_iload_n hX dP_way_0 rfl ?_
  refine cl_44 hX (by decide) (Nat.le_of_ble_eq_true rfl) dP_way_1 (fun r2 τ1 => ?_)
  refine k_if_ne (tgt := 14) hX dP_way_4 (by decide) ?_ ?_
  · refine k_less [true, false, false, false] (L' := [lq 0, none, none, none]) rfl ?_
    exact tP_way_J14 hX hR τ1 hT
  · refine k_iload_n hX dP_way_7 rfl ?_
    refine cl_44 hX (by decide) (Nat.le_of_ble_eq_true rfl) dP_way_8 (fun r4 τ3 => ?_)
    refine k_if_eq (tgt := 17) hX dP_way_11 (by decide) ?_ ?_
    · refine k_iload_n hX dP_way_17 rfl ?_
      refine k_if_ge (tgt := 24) hX dP_way_18 (by decide) ?_ ?_
      · refine k_aload_n hX dP_way_24 rfl ?_
        refine gf_32 hX dP_way_25 ?_
        refine cl_22 hX (by decide) (Nat.le_of_ble_eq_true rfl) dP_way_28 (fun _ τ5 => ?_)
        refine k_aload_n hX dP_way_31 rfl ?_
        refine gf_32 hX dP_way_32 ?_
        refine k_iload_n hX dP_way_35 rfl ?_
        refine k_iload_n hX dP_way_36 rfl ?_
        refine k_iload_n hX dP_way_37 rfl ?_
        refine cl_109 hX (by decide) (Nat.le_of_ble_eq_true rfl) dP_way_38 (fun r7 τ6 => ?_)
        exact k_iret hX hR hT dP_way_41
      · refine k_bipush hX dP_way_21 (by decide) ?_
        exact k_iret hX hR hT dP_way_23
    · refine k_less [true, false, false, false] (L' := [lq 0, none, none, none]) rfl ?_
      exact tP_way_J14 hX hR τ3 hT
theorem dP_weight_0 : decode prog_1_method_11_code 0 = .ok (.iload_n 1, 1) := by decide +kernel
theorem dP_weight_1 : decode prog_1_method_11_code 1 = .ok (.invokestatic 159, 3) := by decide +kernel
theorem dP_weight_4 : decode prog_1_method_11_code 4 = .ok (.ifCond .ne 10, 3) := by decide +kernel
theorem dP_weight_7 : decode prog_1_method_11_code 7 = .ok (.iload_n 2, 1) := by decide +kernel
theorem dP_weight_8 : decode prog_1_method_11_code 8 = .ok (.invokestatic 162, 3) := by decide +kernel
theorem dP_weight_11 : decode prog_1_method_11_code 11 = .ok (.ifCond .eq 6, 3) := by decide +kernel
theorem dP_weight_14 : decode prog_1_method_11_code 14 = .ok (.bipush (-2), 2) := by decide +kernel
theorem dP_weight_16 : decode prog_1_method_11_code 16 = .ok (.ireturn, 1) := by decide +kernel
theorem dP_weight_17 : decode prog_1_method_11_code 17 = .ok (.iconst 0, 1) := by decide +kernel
theorem dP_weight_18 : decode prog_1_method_11_code 18 = .ok (.bipush 99, 2) := by decide +kernel
theorem dP_weight_20 : decode prog_1_method_11_code 20 = .ok (.iload_n 3, 1) := by decide +kernel
theorem dP_weight_21 : decode prog_1_method_11_code 21 = .ok (.invokestatic 138, 3) := by decide +kernel
theorem dP_weight_24 : decode prog_1_method_11_code 24 = .ok (.ifCond .eq 6, 3) := by decide +kernel
theorem dP_weight_27 : decode prog_1_method_11_code 27 = .ok (.bipush (-3), 2) := by decide +kernel
theorem dP_weight_29 : decode prog_1_method_11_code 29 = .ok (.ireturn, 1) := by decide +kernel
theorem dP_weight_30 : decode prog_1_method_11_code 30 = .ok (.aload_n 0, 1) := by decide +kernel
theorem dP_weight_31 : decode prog_1_method_11_code 31 = .ok (.getfield 40, 3) := by decide +kernel
theorem dP_weight_34 : decode prog_1_method_11_code 34 = .ok (.getfield 165, 3) := by decide +kernel
theorem dP_weight_37 : decode prog_1_method_11_code 37 = .ok (.iload_n 1, 1) := by decide +kernel
theorem dP_weight_38 : decode prog_1_method_11_code 38 = .ok (.bipush 12, 2) := by decide +kernel
theorem dP_weight_40 : decode prog_1_method_11_code 40 = .ok (.imul, 1) := by decide +kernel
theorem dP_weight_41 : decode prog_1_method_11_code 41 = .ok (.iload_n 2, 1) := by decide +kernel
theorem dP_weight_42 : decode prog_1_method_11_code 42 = .ok (.iadd, 1) := by decide +kernel
theorem dP_weight_43 : decode prog_1_method_11_code 43 = .ok (.iaload, 1) := by decide +kernel
theorem dP_weight_44 : decode prog_1_method_11_code 44 = .ok (.istore 4, 2) := by decide +kernel
theorem dP_weight_46 : decode prog_1_method_11_code 46 = .ok (.aload_n 0, 1) := by decide +kernel
theorem dP_weight_47 : decode prog_1_method_11_code 47 = .ok (.getfield 40, 3) := by decide +kernel
theorem dP_weight_50 : decode prog_1_method_11_code 50 = .ok (.getfield 165, 3) := by decide +kernel
theorem dP_weight_53 : decode prog_1_method_11_code 53 = .ok (.iload_n 1, 1) := by decide +kernel
theorem dP_weight_54 : decode prog_1_method_11_code 54 = .ok (.bipush 12, 2) := by decide +kernel
theorem dP_weight_56 : decode prog_1_method_11_code 56 = .ok (.imul, 1) := by decide +kernel
theorem dP_weight_57 : decode prog_1_method_11_code 57 = .ok (.iload_n 2, 1) := by decide +kernel
theorem dP_weight_58 : decode prog_1_method_11_code 58 = .ok (.iadd, 1) := by decide +kernel
theorem dP_weight_59 : decode prog_1_method_11_code 59 = .ok (.iload_n 3, 1) := by decide +kernel
theorem dP_weight_60 : decode prog_1_method_11_code 60 = .ok (.iastore, 1) := by decide +kernel
theorem dP_weight_61 : decode prog_1_method_11_code 61 = .ok (.aload_n 0, 1) := by decide +kernel
theorem dP_weight_62 : decode prog_1_method_11_code 62 = .ok (.invokevirtual 168, 3) := by decide +kernel
theorem dP_weight_65 : decode prog_1_method_11_code 65 = .ok (.iload 4, 2) := by decide +kernel
theorem dP_weight_67 : decode prog_1_method_11_code 67 = .ok (.ireturn, 1) := by decide +kernel
set_option maxRecDepth 100000 in
set_option maxHeartbeats 4000000 in
theorem tP_weight_J14 {X : KC} {q : Int × KM} (hX : kOk X 3 prog_1_method_11_code 5 "KeyPath") (hR : kRet X (some .int) q) (σ : KM) {Θ : (Int × KM) → Prop} (hT : ∀ z, Θ (z) → z = q) : kJ X 14 [lq 0, none, none, none, none] [] σ (fP_weight_J14 σ) Θ := by
  refine k_bipush hX dP_weight_14 (by decide) ?_
  exact k_iret hX hR hT dP_weight_16
set_option maxRecDepth 100000 in
set_option maxHeartbeats 4000000 in
theorem sP_weight (x1 x2 x3 : Int) (σ : KM) : kSem 3 (⟨"KeyPath", "weight", "(III)I"⟩ : MethodName) prog_1_method_11_code 5 (some .int) [kr 0, ki x1, ki x2, ki x3] σ (fP_weight x1 x2 x3 σ) := by
  refine kSem.of (L0 := [lq 0, li x1, li x2, li x3, none]) (by decide) (Nat.le_of_ble_eq_true rfl) rfl (fun X q hX hR => ?_)
  have hT : ∀ z : Int × KM, (fun z => z = q) z → z = q := fun _ h => h
  refine k_iload_n hX dP_weight_0 rfl ?_
  refine cl_62 hX (by decide) (Nat.le_of_ble_eq_true rfl) dP_weight_1 (fun r2 τ1 => ?_)
  refine k_if_ne (tgt := 14) hX dP_weight_4 (by decide) ?_ ?_
  · refine k_less [true, false, false, false, true] (L' := [lq 0, none, none, none, none]) rfl ?_
    exact tP_weight_J14 hX hR τ1 hT
  · refine k_iload_n hX dP_weight_7 rfl ?_
    refine cl_63 hX (by decide) (Nat.le_of_ble_eq_true rfl) dP_weight_8 (fun r4 τ3 => ?_)
    refine k_if_eq (tgt := 17) hX dP_weight_11 (by decide) ?_ ?_
    · refine k_iconst hX dP_weight_17 ?_
      refine k_bipush hX dP_weight_18 (by decide) ?_
      refine k_iload_n hX dP_weight_20 rfl ?_
      refine cl_43 hX (by decide) (Nat.le_of_ble_eq_true rfl) dP_weight_21 (fun r6 τ5 => ?_)
      refine k_if_eq (tgt := 30) hX dP_weight_24 (by decide) ?_ ?_
      · refine k_aload_n hX dP_weight_30 rfl ?_
        refine gf_23 hX dP_weight_31 ?_
        refine gf_150 hX dP_weight_34 ?_
        refine k_iload_n hX dP_weight_37 rfl ?_
        refine k_bipush hX dP_weight_38 (by decide) ?_
        refine k_imul hX dP_weight_40 ?_
        refine k_iload_n hX dP_weight_41 rfl ?_
        refine k_iadd hX dP_weight_42 ?_
        refine k_iald hX (by decide) rfl dP_weight_43 rfl (fun y7 => ?_)
        refine k_istore (L' := [lq 0, li x1, li x2, li x3, li y7]) hX dP_weight_44 rfl (by decide) rfl ?_
        refine k_aload_n hX dP_weight_46 rfl ?_
        refine gf_23 hX dP_weight_47 ?_
        refine gf_150 hX dP_weight_50 ?_
        refine k_iload_n hX dP_weight_53 rfl ?_
        refine k_bipush hX dP_weight_54 (by decide) ?_
        refine k_imul hX dP_weight_56 ?_
        refine k_iload_n hX dP_weight_57 rfl ?_
        refine k_iadd hX dP_weight_58 ?_
        refine k_iload_n hX dP_weight_59 rfl ?_
        refine k_iast hX (by decide) rfl dP_weight_60 rfl (fun τ8 => ?_)
        refine k_aload_n hX dP_weight_61 rfl ?_
        refine cl_49 hX (by decide) (Nat.le_of_ble_eq_true rfl) dP_weight_62 (fun _ τ9 => ?_)
        refine k_iload hX dP_weight_65 rfl ?_
        exact k_iret hX hR hT dP_weight_67
      · refine k_bipush hX dP_weight_27 (by decide) ?_
        exact k_iret hX hR hT dP_weight_29
    · refine k_less [true, false, false, false, true] (L' := [lq 0, none, none, none, none]) rfl ?_
      exact tP_weight_J14 hX hR τ3 hT
theorem dP_windows_0 : decode prog_1_method_10_code 0 = .ok (.iconst 4, 1) := by decide +kernel
theorem dP_windows_1 : decode prog_1_method_10_code 1 = .ok (.sipush 128, 3) := by decide +kernel
theorem dP_windows_4 : decode prog_1_method_10_code 4 = .ok (.iload_n 1, 1) := by decide +kernel
theorem dP_windows_5 : decode prog_1_method_10_code 5 = .ok (.invokestatic 138, 3) := by decide +kernel
theorem dP_windows_8 : decode prog_1_method_10_code 8 = .ok (.ifCond .ne 14, 3) := by decide +kernel
theorem dP_windows_11 : decode prog_1_method_10_code 11 = .ok (.iconst 4, 1) := by decide +kernel
theorem dP_windows_12 : decode prog_1_method_10_code 12 = .ok (.sipush 128, 3) := by decide +kernel
theorem dP_windows_15 : decode prog_1_method_10_code 15 = .ok (.iload_n 2, 1) := by decide +kernel
theorem dP_windows_16 : decode prog_1_method_10_code 16 = .ok (.invokestatic 138, 3) := by decide +kernel
theorem dP_windows_19 : decode prog_1_method_10_code 19 = .ok (.ifCond .eq 6, 3) := by decide +kernel
theorem dP_windows_22 : decode prog_1_method_10_code 22 = .ok (.bipush (-3), 2) := by decide +kernel
theorem dP_windows_24 : decode prog_1_method_10_code 24 = .ok (.ireturn, 1) := by decide +kernel
theorem dP_windows_25 : decode prog_1_method_10_code 25 = .ok (.aload_n 0, 1) := by decide +kernel
theorem dP_windows_26 : decode prog_1_method_10_code 26 = .ok (.getfield 19, 3) := by decide +kernel
theorem dP_windows_29 : decode prog_1_method_10_code 29 = .ok (.invokevirtual 141, 3) := by decide +kernel
theorem dP_windows_32 : decode prog_1_method_10_code 32 = .ok (.iload_n 2, 1) := by decide +kernel
theorem dP_windows_33 : decode prog_1_method_10_code 33 = .ok (.invokestatic 145, 3) := by decide +kernel
theorem dP_windows_36 : decode prog_1_method_10_code 36 = .ok (.bipush 48, 2) := by decide +kernel
theorem dP_windows_38 : decode prog_1_method_10_code 38 = .ok (.if_icmp .le 6, 3) := by decide +kernel
theorem dP_windows_41 : decode prog_1_method_10_code 41 = .ok (.bipush (-4), 2) := by decide +kernel
theorem dP_windows_43 : decode prog_1_method_10_code 43 = .ok (.ireturn, 1) := by decide +kernel
theorem dP_windows_44 : decode prog_1_method_10_code 44 = .ok (.aload_n 0, 1) := by decide +kernel
theorem dP_windows_45 : decode prog_1_method_10_code 45 = .ok (.getfield 33, 3) := by decide +kernel
theorem dP_windows_48 : decode prog_1_method_10_code 48 = .ok (.iload_n 1, 1) := by decide +kernel
theorem dP_windows_49 : decode prog_1_method_10_code 49 = .ok (.putfield 149, 3) := by decide +kernel
theorem dP_windows_52 : decode prog_1_method_10_code 52 = .ok (.aload_n 0, 1) := by decide +kernel
theorem dP_windows_53 : decode prog_1_method_10_code 53 = .ok (.getfield 33, 3) := by decide +kernel
theorem dP_windows_56 : decode prog_1_method_10_code 56 = .ok (.iload_n 2, 1) := by decide +kernel
theorem dP_windows_57 : decode prog_1_method_10_code 57 = .ok (.putfield 152, 3) := by decide +kernel
theorem dP_windows_60 : decode prog_1_method_10_code 60 = .ok (.aload_n 0, 1) := by decide +kernel
theorem dP_windows_61 : decode prog_1_method_10_code 61 = .ok (.invokevirtual 89, 3) := by decide +kernel
theorem dP_windows_64 : decode prog_1_method_10_code 64 = .ok (.aload_n 0, 1) := by decide +kernel
theorem dP_windows_65 : decode prog_1_method_10_code 65 = .ok (.invokevirtual 155, 3) := by decide +kernel
theorem dP_windows_68 : decode prog_1_method_10_code 68 = .ok (.aload_n 0, 1) := by decide +kernel
theorem dP_windows_69 : decode prog_1_method_10_code 69 = .ok (.getfield 33, 3) := by decide +kernel
theorem dP_windows_72 : decode prog_1_method_10_code 72 = .ok (.getfield 158, 3) := by decide +kernel
theorem dP_windows_75 : decode prog_1_method_10_code 75 = .ok (.ireturn, 1) := by decide +kernel
set_option maxRecDepth 100000 in
set_option maxHeartbeats 4000000 in
theorem tP_windows_J22 {X : KC} {q : Int × KM} (hX : kOk X 6 prog_1_method_10_code 3 "KeyPath") (hR : kRet X (some .int) q) (σ : KM) {Θ : (Int × KM) → Prop} (hT : ∀ z, Θ (z) → z = q) : kJ X 22 [lq 0, none, none] [] σ (fP_windows_J22 σ) Θ := by
  refine k_bipush hX dP_windows_22 (by decide) ?_
  exact k_iret hX hR hT dP_windows_24
set_option maxRecDepth 100000 in
set_option maxHeartbeats 4000000 in
theorem sP_windows (x1 x2 : Int) (σ : KM) : kSem 6 (⟨"KeyPath", "windows", "(II)I"⟩ : MethodName) prog_1_method_10_code 3 (some .int) [kr 0, ki x1, ki x2] σ (fP_windows x1 x2 σ) := by
  refine kSem.of (L0 := [lq 0, li x1, li x2]) (by decide) (Nat.le_of_ble_eq_true rfl) rfl (fun X q hX hR => ?_)
  have hT : ∀ z : Int × KM, (fun z => z = q) z → z = q := fun _ h => h
  refine k_iconst hX dP_windows_0 ?_
  refine k_sipush hX dP_windows_1 (by decide) ?_
  refine k_iload_n hX dP_windows_4 rfl ?_
  refine cl_43 hX (by decide) (Nat.le_of_ble_eq_true rfl) dP_windows_5 (fun r2 τ1 => ?_)
  refine k_if_ne (tgt := 22) hX dP_windows_8 (by decide) ?_ ?_
  · refine k_less [true, false, false] (L' := [lq 0, none, none]) rfl ?_
    exact tP_windows_J22 hX hR τ1 hT
  · refine k_iconst hX dP_windows_11 ?_
    refine k_sipush hX dP_windows_12 (by decide) ?_
    refine k_iload_n hX dP_windows_15 rfl ?_
    refine cl_43 hX (by decide) (Nat.le_of_ble_eq_true rfl) dP_windows_16 (fun r4 τ3 => ?_)
    refine k_if_eq (tgt := 25) hX dP_windows_19 (by decide) ?_ ?_
    · refine k_aload_n hX dP_windows_25 rfl ?_
      refine gf_2 hX dP_windows_26 ?_
      refine cl_41 hX (by decide) (Nat.le_of_ble_eq_true rfl) dP_windows_29 (fun r6 τ5 => ?_)
      refine k_iload_n hX dP_windows_32 rfl ?_
      refine cl_110 hX (by decide) (Nat.le_of_ble_eq_true rfl) dP_windows_33 (fun r8 τ7 => ?_)
      refine k_bipush hX dP_windows_36 (by decide) ?_
      refine k_icmp_le (tgt := 44) hX dP_windows_38 (by decide) ?_ ?_
      · refine k_aload_n hX dP_windows_44 rfl ?_
        refine gf_0 hX dP_windows_45 ?_
        refine k_iload_n hX dP_windows_48 rfl ?_
        refine gp_151 hX dP_windows_49 (fun τ9 => ?_)
        refine k_aload_n hX dP_windows_52 rfl ?_
        refine gf_0 hX dP_windows_53 ?_
        refine k_iload_n hX dP_windows_56 rfl ?_
        refine gp_152 hX dP_windows_57 (fun τ10 => ?_)
        refine k_aload_n hX dP_windows_60 rfl ?_
        refine cl_50 hX (by decide) (Nat.le_of_ble_eq_true rfl) dP_windows_61 (fun _ τ11 => ?_)
        refine k_aload_n hX dP_windows_64 rfl ?_
        refine cl_8 hX (by decide) (Nat.le_of_ble_eq_true rfl) dP_windows_65 (fun _ τ12 => ?_)
        refine k_aload_n hX dP_windows_68 rfl ?_
        refine gf_0 hX dP_windows_69 ?_
        refine gf_18 hX dP_windows_72 ?_
        exact k_iret hX hR hT dP_windows_75
      · refine k_bipush hX dP_windows_41 (by decide) ?_
        exact k_iret hX hR hT dP_windows_43
    · refine k_less [true, false, false] (L' := [lq 0, none, none]) rfl ?_
      exact tP_windows_J22 hX hR τ3 hT
theorem dFi_moves_0 : decode prog_6_method_11_code 0 = .ok (.iconst 0, 1) := by decide +kernel
theorem dFi_moves_1 : decode prog_6_method_11_code 1 = .ok (.aload_n 0, 1) := by decide +kernel
theorem dFi_moves_2 : decode prog_6_method_11_code 2 = .ok (.getfield 111, 3) := by decide +kernel
theorem dFi_moves_5 : decode prog_6_method_11_code 5 = .ok (.iconst 1, 1) := by decide +kernel
theorem dFi_moves_6 : decode prog_6_method_11_code 6 = .ok (.isub, 1) := by decide +kernel
theorem dFi_moves_7 : decode prog_6_method_11_code 7 = .ok (.invokestatic 114, 3) := by decide +kernel
theorem dFi_moves_10 : decode prog_6_method_11_code 10 = .ok (.ireturn, 1) := by decide +kernel
set_option maxRecDepth 100000 in
set_option maxHeartbeats 4000000 in
theorem sFi_moves (σ : KM) : kSem 1 (⟨"KeyPath$PathFinder", "moves", "()I"⟩ : MethodName) prog_6_method_11_code 1 (some .int) [kr 8] σ (fFi_moves σ) := by
  refine kSem.of (L0 := [lq 8]) (by decide) (Nat.le_of_ble_eq_true rfl) rfl (fun X q hX hR => ?_)
  have hT : ∀ z : Int × KM, (fun z => z = q) z → z = q := fun _ h => h
  refine k_iconst hX dFi_moves_0 ?_
  refine k_aload_n hX dFi_moves_1 rfl ?_
  refine gf_61 hX dFi_moves_2 ?_
  refine k_iconst hX dFi_moves_5 ?_
  refine k_isub hX dFi_moves_6 ?_
  refine k_mmax hX (by decide) (Nat.le_of_ble_eq_true rfl) tw_802 tw_535 tw_12 tw_536 dFi_moves_7 (fun y1 => ?_)
  exact k_iret hX hR hT dFi_moves_10
theorem cl_111 {X : KC} {d n : Nat} {cc : ByteArray} {pc : Nat} {L : List (Option KV)} {st : List KV} {σ : KM} {Z : Type} {Θ : Z → Prop} {G : Int → KM → Option Z} (hX : kOk X d cc n "KeyPath") (hdd : 1 + 1 ≤ d) (hst : k_cat st ≤ 8) (hd : decode cc pc = .ok (.invokevirtual 267, 3)) (h : ∀ r τ, kJ X (pc + 3) L (ki r :: st) τ (G r τ) Θ) : kJ X pc L (kr 8 :: st) σ (kCall (fFi_moves σ) G) Θ :=
  k_callV (np := 0) (av := []) (ret := (some .int)) hX (by decide) rfl rfl rfl (sFi_moves σ) ⟨⟨hdd, by decide⟩, tw_801, tw_8, by decide +kernel⟩ rfl tw_798 tw_799 tw_800 hst hd h
theorem cl_112 {X : KC} {d n : Nat} {cc : ByteArray} {pc : Nat} {L : List (Option KV)} {st : List KV} {σ : KM} {Z : Type} {Θ : Z → Prop} {G : Int → KM → Option Z} (hX : kOk X d cc n "KeyPath$Detours") (hdd : 1 + 1 ≤ d) (hst : k_cat st ≤ 8) (hd : decode cc pc = .ok (.invokevirtual 71, 3)) (h : ∀ r τ, kJ X (pc + 3) L (ki r :: st) τ (G r τ) Θ) : kJ X pc L (kr 8 :: st) σ (kCall (fFi_moves σ) G) Θ :=
  k_callV (np := 0) (av := []) (ret := (some .int)) hX (by decide) rfl rfl rfl (sFi_moves σ) ⟨⟨hdd, by decide⟩, tw_801, tw_8, by decide +kernel⟩ rfl tw_807 tw_799 tw_800 hst hd h
theorem dDe_leastOf_42_0 : decode prog_2_method_10_code 0 = .ok (.ldc 52, 2) := by decide +kernel
theorem dDe_leastOf_42_2 : decode prog_2_method_10_code 2 = .ok (.istore_n 2, 1) := by decide +kernel
theorem dDe_leastOf_42_3 : decode prog_2_method_10_code 3 = .ok (.iconst 0, 1) := by decide +kernel
theorem dDe_leastOf_42_4 : decode prog_2_method_10_code 4 = .ok (.istore_n 3, 1) := by decide +kernel
theorem dDe_leastOf_42_5 : decode prog_2_method_10_code 5 = .ok (.iload_n 3, 1) := by decide +kernel
theorem dDe_leastOf_42_6 : decode prog_2_method_10_code 6 = .ok (.bipush 24, 2) := by decide +kernel
theorem dDe_leastOf_42_8 : decode prog_2_method_10_code 8 = .ok (.if_icmp .ge 19, 3) := by decide +kernel
theorem dDe_leastOf_42_11 : decode prog_2_method_10_code 11 = .ok (.iload_n 2, 1) := by decide +kernel
theorem dDe_leastOf_42_12 : decode prog_2_method_10_code 12 = .ok (.aload_n 0, 1) := by decide +kernel
theorem dDe_leastOf_42_13 : decode prog_2_method_10_code 13 = .ok (.iload_n 1, 1) := by decide +kernel
theorem dDe_leastOf_42_14 : decode prog_2_method_10_code 14 = .ok (.iload_n 3, 1) := by decide +kernel
theorem dDe_leastOf_42_15 : decode prog_2_method_10_code 15 = .ok (.iadd, 1) := by decide +kernel
theorem dDe_leastOf_42_16 : decode prog_2_method_10_code 16 = .ok (.iaload, 1) := by decide +kernel
theorem dDe_leastOf_42_17 : decode prog_2_method_10_code 17 = .ok (.invokestatic 56, 3) := by decide +kernel
theorem dDe_leastOf_42_20 : decode prog_2_method_10_code 20 = .ok (.istore_n 2, 1) := by decide +kernel
theorem dDe_leastOf_42_21 : decode prog_2_method_10_code 21 = .ok (.iinc 3 1, 3) := by decide +kernel
theorem dDe_leastOf_42_24 : decode prog_2_method_10_code 24 = .ok (.goto (-19), 3) := by decide +kernel
theorem dDe_leastOf_42_27 : decode prog_2_method_10_code 27 = .ok (.iload_n 2, 1) := by decide +kernel
theorem dDe_leastOf_42_28 : decode prog_2_method_10_code 28 = .ok (.ireturn, 1) := by decide +kernel
set_option maxRecDepth 100000 in
set_option maxHeartbeats 4000000 in
theorem tDe_leastOf_42_J27 {X : KC} {q : Int × KM} (hX : kOk X 1 prog_2_method_10_code 4 "KeyPath$Detours") (hR : kRet X (some .int) q) (x2 : Int) (σ : KM) {Θ : (Int × KM) → Prop} (hT : ∀ z, Θ (z) → z = q) : kJ X 27 [lq 42, none, li x2, none] [] σ (fDe_leastOf_42_J27 x2 σ) Θ := by
  refine k_iload_n hX dDe_leastOf_42_27 rfl ?_
  exact k_iret hX hR hT dDe_leastOf_42_28
set_option maxRecDepth 100000 in
set_option maxHeartbeats 4000000 in
theorem tDe_leastOf_42_B5 {X : KC} {q : Int × KM} (hX : kOk X 1 prog_2_method_10_code 4 "KeyPath$Detours") (hR : kRet X (some .int) q) (x1 x2 x3 : Int) (σ : KM) {Θ : ((Int × Int × KM) ⊕ (Int × KM)) → Prop} (hT : ∀ z, Θ (.inr (z)) → z = q) (hb0 : ∀ s : Int × Int × KM, Θ (.inl s) → kW X 5 [lq 42, li x1, li s.1, li s.2.1] [] s.2.2) : kJ X 5 [lq 42, li x1, li x2, li x3] [] σ (fDe_leastOf_42_B5 x1 x2 x3 σ) Θ := by
  refine k_iload_n hX dDe_leastOf_42_5 rfl ?_
  refine k_bipush hX dDe_leastOf_42_6 (by decide) ?_
  refine k_icmp_ge (tgt := 27) hX dDe_leastOf_42_8 (by decide) ?_ ?_
  · refine k_exit ?_
    refine k_less [true, false, true, false] (L' := [lq 42, none, li x2, none]) rfl ?_
    exact tDe_leastOf_42_J27 hX hR x2 σ hT
  · refine k_iload_n hX dDe_leastOf_42_11 rfl ?_
    refine k_aload_n hX dDe_leastOf_42_12 rfl ?_
    refine k_iload_n hX dDe_leastOf_42_13 rfl ?_
    refine k_iload_n hX dDe_leastOf_42_14 rfl ?_
    refine k_iadd hX dDe_leastOf_42_15 ?_
    refine k_iald hX (by decide) rfl dDe_leastOf_42_16 rfl (fun y1 => ?_)
    refine k_mmin hX (by decide) (Nat.le_of_ble_eq_true rfl) tw_768 tw_379 tw_12 tw_380 dDe_leastOf_42_17 (fun y2 => ?_)
    refine k_istore_n (L' := [lq 42, li x1, li y2, li x3]) hX dDe_leastOf_42_20 rfl (by decide) rfl ?_
    refine k_iincL (Lf := fun y3 => [lq 42, li x1, li y2, li y3]) hX dDe_leastOf_42_21 rfl (by decide) rfl (fun _ => rfl) (fun y3 => ?_)
    refine k_goto (tgt := 5) hX dDe_leastOf_42_24 (by decide) ?_
    exact k_back (hb0 (y2, y3, σ))
set_option maxRecDepth 100000 in
set_option maxHeartbeats 4000000 in
theorem tDe_leastOf_42_L5 {X : KC} {q : Int × KM} (hX : kOk X 1 prog_2_method_10_code 4 "KeyPath$Detours") (hR : kRet X (some .int) q) (x1 x2 x3 : Int) (σ : KM) {Θ : (Int × KM) → Prop} (hT : ∀ z, Θ (z) → z = q) : kJ X 5 [lq 42, li x1, li x2, li x3] [] σ (fDe_leastOf_42_L5 x1 x2 x3 σ) Θ :=
  k_iter (f := fun s => fDe_leastOf_42_B5 x1 s.1 s.2.1 s.2.2) (Lf := fun s => [lq 42, li x1, li s.1, li s.2.1]) (mf := fun s => s.2.2) (Θ := Θ) (fun s => tDe_leastOf_42_B5 hX hR x1 s.1 s.2.1 s.2.2 hT (fun _ h9 => h9)) kF (x2, x3, σ)
set_option maxRecDepth 100000 in
set_option maxHeartbeats 4000000 in
theorem sDe_leastOf_42 (x1 : Int) (σ : KM) : kSem 1 (⟨"KeyPath$Detours", "leastOf", "([II)I"⟩ : MethodName) prog_2_method_10_code 4 (some .int) [kr 42, ki x1] σ (fDe_leastOf_42 x1 σ) := by
  refine kSem.of (L0 := [lq 42, li x1, none, none]) (by decide) (Nat.le_of_ble_eq_true rfl) rfl (fun X q hX hR => ?_)
  have hT : ∀ z : Int × KM, (fun z => z = q) z → z = q := fun _ h => h
  refine k_ldc (v := 1000000000) (w := 0) hX dDe_leastOf_42_0 tw_767 ?_
  refine k_istore_n (L' := [lq 42, li x1, li 1000000000, none]) hX dDe_leastOf_42_2 rfl (by decide) rfl ?_
  refine k_iconst hX dDe_leastOf_42_3 ?_
  refine k_istore_n (L' := [lq 42, li x1, li 1000000000, li 0]) hX dDe_leastOf_42_4 rfl (by decide) rfl ?_
  exact tDe_leastOf_42_L5 hX hR x1 1000000000 0 σ hT
theorem cl_113 {X : KC} {d n : Nat} {cc : ByteArray} {pc : Nat} {L : List (Option KV)} {st : List KV} {σ : KM} {Z : Type} {Θ : Z → Prop} {G : Int → KM → Option Z} {x1 : Int} (hX : kOk X d cc n "KeyPath$Detours") (hdd : 1 + 1 ≤ d) (hst : k_cat st ≤ 8) (hd : decode cc pc = .ok (.invokestatic 79, 3)) (h : ∀ r τ, kJ X (pc + 3) L (ki r :: st) τ (G r τ) Θ) : kJ X pc L (ki x1 :: kr 42 :: st) σ (kCall (fDe_leastOf_42 x1 σ) G) Θ :=
  k_callS (np := 2) (av := [kr 42, ki x1]) (ret := (some .int)) hX (sDe_leastOf_42 _ σ) ⟨⟨hdd, by decide⟩, tw_814, tw_10, by decide +kernel⟩ rfl tw_812 tw_813 hst hd h
theorem dDe_cheapestMove_42_0 : decode prog_2_method_4_code 0 = .ok (.ldc 52, 2) := by decide +kernel
theorem dDe_cheapestMove_42_2 : decode prog_2_method_4_code 2 = .ok (.istore 4, 2) := by decide +kernel
theorem dDe_cheapestMove_42_4 : decode prog_2_method_4_code 4 = .ok (.iconst 0, 1) := by decide +kernel
theorem dDe_cheapestMove_42_5 : decode prog_2_method_4_code 5 = .ok (.istore 5, 2) := by decide +kernel
theorem dDe_cheapestMove_42_7 : decode prog_2_method_4_code 7 = .ok (.iload 5, 2) := by decide +kernel
theorem dDe_cheapestMove_42_9 : decode prog_2_method_4_code 9 = .ok (.bipush 24, 2) := by decide +kernel
theorem dDe_cheapestMove_42_11 : decode prog_2_method_4_code 11 = .ok (.if_icmp .ge 35, 3) := by decide +kernel
theorem dDe_cheapestMove_42_14 : decode prog_2_method_4_code 14 = .ok (.iload 4, 2) := by decide +kernel
theorem dDe_cheapestMove_42_16 : decode prog_2_method_4_code 16 = .ok (.aload_n 1, 1) := by decide +kernel
theorem dDe_cheapestMove_42_17 : decode prog_2_method_4_code 17 = .ok (.iload_n 2, 1) := by decide +kernel
theorem dDe_cheapestMove_42_18 : decode prog_2_method_4_code 18 = .ok (.iload 5, 2) := by decide +kernel
theorem dDe_cheapestMove_42_20 : decode prog_2_method_4_code 20 = .ok (.iadd, 1) := by decide +kernel
theorem dDe_cheapestMove_42_21 : decode prog_2_method_4_code 21 = .ok (.iaload, 1) := by decide +kernel
theorem dDe_cheapestMove_42_22 : decode prog_2_method_4_code 22 = .ok (.aload_n 0, 1) := by decide +kernel
theorem dDe_cheapestMove_42_23 : decode prog_2_method_4_code 23 = .ok (.getfield 53, 3) := by decide +kernel
theorem dDe_cheapestMove_42_26 : decode prog_2_method_4_code 26 = .ok (.iload 5, 2) := by decide +kernel
theorem dDe_cheapestMove_42_28 : decode prog_2_method_4_code 28 = .ok (.bipush 24, 2) := by decide +kernel
theorem dDe_cheapestMove_42_30 : decode prog_2_method_4_code 30 = .ok (.imul, 1) := by decide +kernel
theorem dDe_cheapestMove_42_31 : decode prog_2_method_4_code 31 = .ok (.iload_n 3, 1) := by decide +kernel
theorem dDe_cheapestMove_42_32 : decode prog_2_method_4_code 32 = .ok (.iadd, 1) := by decide +kernel
theorem dDe_cheapestMove_42_33 : decode prog_2_method_4_code 33 = .ok (.iaload, 1) := by decide +kernel
theorem dDe_cheapestMove_42_34 : decode prog_2_method_4_code 34 = .ok (.iadd, 1) := by decide +kernel
theorem dDe_cheapestMove_42_35 : decode prog_2_method_4_code 35 = .ok (.invokestatic 56, 3) := by decide +kernel
theorem dDe_cheapestMove_42_38 : decode prog_2_method_4_code 38 = .ok (.istore 4, 2) := by decide +kernel
theorem dDe_cheapestMove_42_40 : decode prog_2_method_4_code 40 = .ok (.iinc 5 1, 3) := by decide +kernel
theorem dDe_cheapestMove_42_43 : decode prog_2_method_4_code 43 = .ok (.goto (-36), 3) := by decide +kernel
theorem dDe_cheapestMove_42_46 : decode prog_2_method_4_code 46 = .ok (.iload 4, 2) := by decide +kernel
theorem dDe_cheapestMove_42_48 : decode prog_2_method_4_code 48 = .ok (.ireturn, 1) := by decide +kernel
set_option maxRecDepth 100000 in
set_option maxHeartbeats 4000000 in
theorem tDe_cheapestMove_42_J46 {X : KC} {q : Int × KM} (hX : kOk X 1 prog_2_method_4_code 6 "KeyPath$Detours") (hR : kRet X (some .int) q) (x4 : Int) (σ : KM) {Θ : (Int × KM) → Prop} (hT : ∀ z, Θ (z) → z = q) : kJ X 46 [lq 8, lq 42, none, none, li x4, none] [] σ (fDe_cheapestMove_42_J46 x4 σ) Θ := by
  refine k_iload hX dDe_cheapestMove_42_46 rfl ?_
  exact k_iret hX hR hT dDe_cheapestMove_42_48
set_option maxRecDepth 100000 in
set_option maxHeartbeats 4000000 in
theorem tDe_cheapestMove_42_B7 {X : KC} {q : Int × KM} (hX : kOk X 1 prog_2_method_4_code 6 "KeyPath$Detours") (hR : kRet X (some .int) q) (x2 x3 x4 x5 : Int) (σ : KM) {Θ : ((Int × Int × KM) ⊕ (Int × KM)) → Prop} (hT : ∀ z, Θ (.inr (z)) → z = q) (hb0 : ∀ s : Int × Int × KM, Θ (.inl s) → kW X 7 [lq 8, lq 42, li x2, li x3, li s.1, li s.2.1] [] s.2.2) : kJ X 7 [lq 8, lq 42, li x2, li x3, li x4, li x5] [] σ (fDe_cheapestMove_42_B7 x2 x3 x4 x5 σ) Θ := by
  refine k_iload hX dDe_cheapestMove_42_7 rfl ?_
  refine k_bipush hX dDe_cheapestMove_42_9 (by decide) ?_
  refine k_icmp_ge (tgt := 46) hX dDe_cheapestMove_42_11 (by decide) ?_ ?_
  · refine k_exit ?_
    refine k_less [true, true, false, false, true, false] (L' := [lq 8, lq 42, none, none, li x4, none]) rfl ?_
    exact tDe_cheapestMove_42_J46 hX hR x4 σ hT
  · refine k_iload hX dDe_cheapestMove_42_14 rfl ?_
    refine k_aload_n hX dDe_cheapestMove_42_16 rfl ?_
    refine k_iload_n hX dDe_cheapestMove_42_17 rfl ?_
    refine k_iload hX dDe_cheapestMove_42_18 rfl ?_
    refine k_iadd hX dDe_cheapestMove_42_20 ?_
    refine k_iald hX (by decide) rfl dDe_cheapestMove_42_21 rfl (fun y1 => ?_)
    refine k_aload_n hX dDe_cheapestMove_42_22 rfl ?_
    refine gf_115 hX dDe_cheapestMove_42_23 ?_
    refine k_iload hX dDe_cheapestMove_42_26 rfl ?_
    refine k_bipush hX dDe_cheapestMove_42_28 (by decide) ?_
    refine k_imul hX dDe_cheapestMove_42_30 ?_
    refine k_iload_n hX dDe_cheapestMove_42_31 rfl ?_
    refine k_iadd hX dDe_cheapestMove_42_32 ?_
    refine k_iald hX (by decide) rfl dDe_cheapestMove_42_33 rfl (fun y2 => ?_)
    refine k_iadd hX dDe_cheapestMove_42_34 ?_
    refine k_mmin hX (by decide) (Nat.le_of_ble_eq_true rfl) tw_768 tw_379 tw_12 tw_380 dDe_cheapestMove_42_35 (fun y3 => ?_)
    refine k_istore (L' := [lq 8, lq 42, li x2, li x3, li y3, li x5]) hX dDe_cheapestMove_42_38 rfl (by decide) rfl ?_
    refine k_iincL (Lf := fun y4 => [lq 8, lq 42, li x2, li x3, li y3, li y4]) hX dDe_cheapestMove_42_40 rfl (by decide) rfl (fun _ => rfl) (fun y4 => ?_)
    refine k_goto (tgt := 7) hX dDe_cheapestMove_42_43 (by decide) ?_
    exact k_back (hb0 (y3, y4, σ))
set_option maxRecDepth 100000 in
set_option maxHeartbeats 4000000 in
theorem tDe_cheapestMove_42_L7 {X : KC} {q : Int × KM} (hX : kOk X 1 prog_2_method_4_code 6 "KeyPath$Detours") (hR : kRet X (some .int) q) (x2 x3 x4 x5 : Int) (σ : KM) {Θ : (Int × KM) → Prop} (hT : ∀ z, Θ (z) → z = q) : kJ X 7 [lq 8, lq 42, li x2, li x3, li x4, li x5] [] σ (fDe_cheapestMove_42_L7 x2 x3 x4 x5 σ) Θ :=
  k_iter (f := fun s => fDe_cheapestMove_42_B7 x2 x3 s.1 s.2.1 s.2.2) (Lf := fun s => [lq 8, lq 42, li x2, li x3, li s.1, li s.2.1]) (mf := fun s => s.2.2) (Θ := Θ) (fun s => tDe_cheapestMove_42_B7 hX hR x2 x3 s.1 s.2.1 s.2.2 hT (fun _ h9 => h9)) kF (x4, x5, σ)
set_option maxRecDepth 100000 in
set_option maxHeartbeats 4000000 in
theorem sDe_cheapestMove_42 (x2 x3 : Int) (σ : KM) : kSem 1 (⟨"KeyPath$Detours", "cheapestMove", "(LKeyPath$PathFinder;[III)I"⟩ : MethodName) prog_2_method_4_code 6 (some .int) [kr 8, kr 42, ki x2, ki x3] σ (fDe_cheapestMove_42 x2 x3 σ) := by
  refine kSem.of (L0 := [lq 8, lq 42, li x2, li x3, none, none]) (by decide) (Nat.le_of_ble_eq_true rfl) rfl (fun X q hX hR => ?_)
  have hT : ∀ z : Int × KM, (fun z => z = q) z → z = q := fun _ h => h
  refine k_ldc (v := 1000000000) (w := 0) hX dDe_cheapestMove_42_0 tw_767 ?_
  refine k_istore (L' := [lq 8, lq 42, li x2, li x3, li 1000000000, none]) hX dDe_cheapestMove_42_2 rfl (by decide) rfl ?_
  refine k_iconst hX dDe_cheapestMove_42_4 ?_
  refine k_istore (L' := [lq 8, lq 42, li x2, li x3, li 1000000000, li 0]) hX dDe_cheapestMove_42_5 rfl (by decide) rfl ?_
  exact tDe_cheapestMove_42_L7 hX hR x2 x3 1000000000 0 σ hT
theorem cl_114 {X : KC} {d n : Nat} {cc : ByteArray} {pc : Nat} {L : List (Option KV)} {st : List KV} {σ : KM} {Z : Type} {Θ : Z → Prop} {G : Int → KM → Option Z} {x2 x3 : Int} (hX : kOk X d cc n "KeyPath$Detours") (hdd : 1 + 1 ≤ d) (hst : k_cat st ≤ 8) (hd : decode cc pc = .ok (.invokestatic 41, 3)) (h : ∀ r τ, kJ X (pc + 3) L (ki r :: st) τ (G r τ) Θ) : kJ X pc L (ki x3 :: ki x2 :: kr 42 :: kr 8 :: st) σ (kCall (fDe_cheapestMove_42 x2 x3 σ) G) Θ :=
  k_callS (np := 4) (av := [kr 8, kr 42, ki x2, ki x3]) (ret := (some .int)) hX (sDe_cheapestMove_42 _ _ σ) ⟨⟨hdd, by decide⟩, tw_766, tw_10, by decide +kernel⟩ rfl tw_764 tw_765 hst hd h
theorem dDe_goOn_0 : decode prog_2_method_9_code 0 = .ok (.iconst 0, 1) := by decide +kernel
theorem dDe_goOn_1 : decode prog_2_method_9_code 1 = .ok (.istore 4, 2) := by decide +kernel
theorem dDe_goOn_3 : decode prog_2_method_9_code 3 = .ok (.iload 4, 2) := by decide +kernel
theorem dDe_goOn_5 : decode prog_2_method_9_code 5 = .ok (.bipush 24, 2) := by decide +kernel
theorem dDe_goOn_7 : decode prog_2_method_9_code 7 = .ok (.if_icmp .ge 89, 3) := by decide +kernel
theorem dDe_goOn_10 : decode prog_2_method_9_code 10 = .ok (.iload_n 3, 1) := by decide +kernel
theorem dDe_goOn_11 : decode prog_2_method_9_code 11 = .ok (.bipush 24, 2) := by decide +kernel
theorem dDe_goOn_13 : decode prog_2_method_9_code 13 = .ok (.imul, 1) := by decide +kernel
theorem dDe_goOn_14 : decode prog_2_method_9_code 14 = .ok (.iload 4, 2) := by decide +kernel
theorem dDe_goOn_16 : decode prog_2_method_9_code 16 = .ok (.iadd, 1) := by decide +kernel
theorem dDe_goOn_17 : decode prog_2_method_9_code 17 = .ok (.istore 5, 2) := by decide +kernel
theorem dDe_goOn_19 : decode prog_2_method_9_code 19 = .ok (.aload_n 0, 1) := by decide +kernel
theorem dDe_goOn_20 : decode prog_2_method_9_code 20 = .ok (.getfield 15, 3) := by decide +kernel
theorem dDe_goOn_23 : decode prog_2_method_9_code 23 = .ok (.iload 5, 2) := by decide +kernel
theorem dDe_goOn_25 : decode prog_2_method_9_code 25 = .ok (.iaload, 1) := by decide +kernel
theorem dDe_goOn_26 : decode prog_2_method_9_code 26 = .ok (.istore 6, 2) := by decide +kernel
theorem dDe_goOn_28 : decode prog_2_method_9_code 28 = .ok (.iload_n 3, 1) := by decide +kernel
theorem dDe_goOn_29 : decode prog_2_method_9_code 29 = .ok (.ifCond .le 37, 3) := by decide +kernel
theorem dDe_goOn_32 : decode prog_2_method_9_code 32 = .ok (.aload_n 1, 1) := by decide +kernel
theorem dDe_goOn_33 : decode prog_2_method_9_code 33 = .ok (.getfield 37, 3) := by decide +kernel
theorem dDe_goOn_36 : decode prog_2_method_9_code 36 = .ok (.iload_n 2, 1) := by decide +kernel
theorem dDe_goOn_37 : decode prog_2_method_9_code 37 = .ok (.baload, 1) := by decide +kernel
theorem dDe_goOn_38 : decode prog_2_method_9_code 38 = .ok (.ifCond .ne 28, 3) := by decide +kernel
theorem dDe_goOn_41 : decode prog_2_method_9_code 41 = .ok (.iload 6, 2) := by decide +kernel
theorem dDe_goOn_43 : decode prog_2_method_9_code 43 = .ok (.aload_n 1, 1) := by decide +kernel
theorem dDe_goOn_44 : decode prog_2_method_9_code 44 = .ok (.aload_n 0, 1) := by decide +kernel
theorem dDe_goOn_45 : decode prog_2_method_9_code 45 = .ok (.getfield 15, 3) := by decide +kernel
theorem dDe_goOn_48 : decode prog_2_method_9_code 48 = .ok (.iload 5, 2) := by decide +kernel
theorem dDe_goOn_50 : decode prog_2_method_9_code 50 = .ok (.iload 4, 2) := by decide +kernel
theorem dDe_goOn_52 : decode prog_2_method_9_code 52 = .ok (.isub, 1) := by decide +kernel
theorem dDe_goOn_53 : decode prog_2_method_9_code 53 = .ok (.bipush 24, 2) := by decide +kernel
theorem dDe_goOn_55 : decode prog_2_method_9_code 55 = .ok (.isub, 1) := by decide +kernel
theorem dDe_goOn_56 : decode prog_2_method_9_code 56 = .ok (.iload 4, 2) := by decide +kernel
theorem dDe_goOn_58 : decode prog_2_method_9_code 58 = .ok (.invokestatic 41, 3) := by decide +kernel
theorem dDe_goOn_61 : decode prog_2_method_9_code 61 = .ok (.invokestatic 56, 3) := by decide +kernel
theorem dDe_goOn_64 : decode prog_2_method_9_code 64 = .ok (.istore 6, 2) := by decide +kernel
theorem dDe_goOn_66 : decode prog_2_method_9_code 66 = .ok (.aload_n 0, 1) := by decide +kernel
theorem dDe_goOn_67 : decode prog_2_method_9_code 67 = .ok (.getfield 15, 3) := by decide +kernel
theorem dDe_goOn_70 : decode prog_2_method_9_code 70 = .ok (.iload 5, 2) := by decide +kernel
theorem dDe_goOn_72 : decode prog_2_method_9_code 72 = .ok (.aload_n 1, 1) := by decide +kernel
theorem dDe_goOn_73 : decode prog_2_method_9_code 73 = .ok (.getfield 45, 3) := by decide +kernel
theorem dDe_goOn_76 : decode prog_2_method_9_code 76 = .ok (.iload_n 2, 1) := by decide +kernel
theorem dDe_goOn_77 : decode prog_2_method_9_code 77 = .ok (.bipush 24, 2) := by decide +kernel
theorem dDe_goOn_79 : decode prog_2_method_9_code 79 = .ok (.imul, 1) := by decide +kernel
theorem dDe_goOn_80 : decode prog_2_method_9_code 80 = .ok (.iload 4, 2) := by decide +kernel
theorem dDe_goOn_82 : decode prog_2_method_9_code 82 = .ok (.iadd, 1) := by decide +kernel
theorem dDe_goOn_83 : decode prog_2_method_9_code 83 = .ok (.iaload, 1) := by decide +kernel
theorem dDe_goOn_84 : decode prog_2_method_9_code 84 = .ok (.iload 6, 2) := by decide +kernel
theorem dDe_goOn_86 : decode prog_2_method_9_code 86 = .ok (.invokestatic 48, 3) := by decide +kernel
theorem dDe_goOn_89 : decode prog_2_method_9_code 89 = .ok (.iastore, 1) := by decide +kernel
theorem dDe_goOn_90 : decode prog_2_method_9_code 90 = .ok (.iinc 4 1, 3) := by decide +kernel
theorem dDe_goOn_93 : decode prog_2_method_9_code 93 = .ok (.goto (-90), 3) := by decide +kernel
theorem dDe_goOn_96 : decode prog_2_method_9_code 96 = .ok (.return_, 1) := by decide +kernel
set_option maxRecDepth 100000 in
set_option maxHeartbeats 4000000 in
theorem tDe_goOn_J96 {X : KC} {q : Int × KM} (hX : kOk X 2 prog_2_method_9_code 7 "KeyPath$Detours") (hR : kRet X none q) (σ : KM) {Θ : (Int × KM) → Prop} (hT : ∀ z, Θ (z) → z = q) : kJ X 96 [lq 9, lq 8, none, none, none, none, none] [] σ (fDe_goOn_J96 σ) Θ := by
  exact k_vret hX hR hT dDe_goOn_96
set_option maxRecDepth 100000 in
set_option maxHeartbeats 4000000 in
theorem tDe_goOn_J66 {X : KC} {q : Int × KM} (hX : kOk X 2 prog_2_method_9_code 7 "KeyPath$Detours") (hR : kRet X none q) (x2 x3 x4 x5 x6 : Int) (σ : KM) {Θ : ((Int × KM) ⊕ (Int × KM)) → Prop} (hT : ∀ z, Θ (.inr (z)) → z = q) (hb0 : ∀ s : Int × KM, Θ (.inl s) → kW X 3 [lq 9, lq 8, li x2, li x3, li s.1, none, none] [] s.2) : kJ X 66 [lq 9, lq 8, li x2, li x3, li x4, li x5, li x6] [] σ (fDe_goOn_J66 x2 x3 x4 x5 x6 σ) Θ := by
  refine k_aload_n hX dDe_goOn_66 rfl ?_
  refine gf_155 hX dDe_goOn_67 ?_
  refine k_iload hX dDe_goOn_70 rfl ?_
  refine k_aload_n hX dDe_goOn_72 rfl ?_
  refine gf_113 hX dDe_goOn_73 ?_
  refine k_iload_n hX dDe_goOn_76 rfl ?_
  refine k_bipush hX dDe_goOn_77 (by decide) ?_
  refine k_imul hX dDe_goOn_79 ?_
  refine k_iload hX dDe_goOn_80 rfl ?_
  refine k_iadd hX dDe_goOn_82 ?_
  refine k_iald hX (by decide) rfl dDe_goOn_83 rfl (fun y1 => ?_)
  refine k_iload hX dDe_goOn_84 rfl ?_
  refine cl_57 hX (by decide) (Nat.le_of_ble_eq_true rfl) dDe_goOn_86 (fun r3 τ2 => ?_)
  refine k_iast hX (by decide) rfl dDe_goOn_89 rfl (fun τ4 => ?_)
  refine k_iincL (Lf := fun y5 => [lq 9, lq 8, li x2, li x3, li y5, li x5, li x6]) hX dDe_goOn_90 rfl (by decide) rfl (fun _ => rfl) (fun y5 => ?_)
  refine k_goto (tgt := 3) hX dDe_goOn_93 (by decide) ?_
  refine k_less [true, true, true, true, true, false, false] (L' := [lq 9, lq 8, li x2, li x3, li y5, none, none]) rfl ?_
  exact k_back (hb0 (y5, τ4))
set_option maxRecDepth 100000 in
set_option maxHeartbeats 4000000 in
theorem tDe_goOn_B3 {X : KC} {q : Int × KM} (hX : kOk X 2 prog_2_method_9_code 7 "KeyPath$Detours") (hR : kRet X none q) (x2 x3 x4 : Int) (σ : KM) {Θ : ((Int × KM) ⊕ (Int × KM)) → Prop} (hT : ∀ z, Θ (.inr (z)) → z = q) (hb0 : ∀ s : Int × KM, Θ (.inl s) → kW X 3 [lq 9, lq 8, li x2, li x3, li s.1, none, none] [] s.2) : kJ X 3 [lq 9, lq 8, li x2, li x3, li x4, none, none] [] σ (fDe_goOn_B3 x2 x3 x4 σ) Θ := by
  refine k_iload hX dDe_goOn_3 rfl ?_
  refine k_bipush hX dDe_goOn_5 (by decide) ?_
  refine k_icmp_ge (tgt := 96) hX dDe_goOn_7 (by decide) ?_ ?_
  · refine k_exit ?_
    refine k_less [true, true, false, false, false, true, true] (L' := [lq 9, lq 8, none, none, none, none, none]) rfl ?_
    exact tDe_goOn_J96 hX hR σ hT
  · refine k_iload_n hX dDe_goOn_10 rfl ?_
    refine k_bipush hX dDe_goOn_11 (by decide) ?_
    refine k_imul hX dDe_goOn_13 ?_
    refine k_iload hX dDe_goOn_14 rfl ?_
    refine k_iadd hX dDe_goOn_16 ?_
    refine k_istoreL (Lf := fun y1 => [lq 9, lq 8, li x2, li x3, li x4, li y1, none]) hX dDe_goOn_17 rfl (by decide) (fun _ => rfl) (fun y1 => ?_)
    refine k_aload_n hX dDe_goOn_19 rfl ?_
    refine gf_155 hX dDe_goOn_20 ?_
    refine k_iload hX dDe_goOn_23 rfl ?_
    refine k_iald hX (by decide) rfl dDe_goOn_25 rfl (fun y2 => ?_)
    refine k_istore (L' := [lq 9, lq 8, li x2, li x3, li x4, li y1, li y2]) hX dDe_goOn_26 rfl (by decide) rfl ?_
    refine k_iload_n hX dDe_goOn_28 rfl ?_
    refine k_if_le (tgt := 66) hX dDe_goOn_29 (by decide) ?_ ?_
    · exact tDe_goOn_J66 hX hR x2 x3 x4 y1 y2 σ hT hb0
    · refine k_aload_n hX dDe_goOn_32 rfl ?_
      refine gf_114 hX dDe_goOn_33 ?_
      refine k_iload_n hX dDe_goOn_36 rfl ?_
      refine k_zald hX (by decide) rfl dDe_goOn_37 rfl (fun y3 => ?_)
      refine k_if_ne (tgt := 66) hX dDe_goOn_38 (by decide) ?_ ?_
      · exact tDe_goOn_J66 hX hR x2 x3 x4 y1 y2 σ hT hb0
      · refine k_iload hX dDe_goOn_41 rfl ?_
        refine k_aload_n hX dDe_goOn_43 rfl ?_
        refine k_aload_n hX dDe_goOn_44 rfl ?_
        refine gf_155 hX dDe_goOn_45 ?_
        refine k_iload hX dDe_goOn_48 rfl ?_
        refine k_iload hX dDe_goOn_50 rfl ?_
        refine k_isub hX dDe_goOn_52 ?_
        refine k_bipush hX dDe_goOn_53 (by decide) ?_
        refine k_isub hX dDe_goOn_55 ?_
        refine k_iload hX dDe_goOn_56 rfl ?_
        refine cl_114 hX (by decide) (Nat.le_of_ble_eq_true rfl) dDe_goOn_58 (fun r5 τ4 => ?_)
        refine k_mmin hX (by decide) (Nat.le_of_ble_eq_true rfl) tw_768 tw_379 tw_12 tw_380 dDe_goOn_61 (fun y6 => ?_)
        refine k_istore (L' := [lq 9, lq 8, li x2, li x3, li x4, li y1, li y6]) hX dDe_goOn_64 rfl (by decide) rfl ?_
        exact tDe_goOn_J66 hX hR x2 x3 x4 y1 y6 τ4 hT hb0
set_option maxRecDepth 100000 in
set_option maxHeartbeats 4000000 in
theorem tDe_goOn_L3 {X : KC} {q : Int × KM} (hX : kOk X 2 prog_2_method_9_code 7 "KeyPath$Detours") (hR : kRet X none q) (x2 x3 x4 : Int) (σ : KM) {Θ : (Int × KM) → Prop} (hT : ∀ z, Θ (z) → z = q) : kJ X 3 [lq 9, lq 8, li x2, li x3, li x4, none, none] [] σ (fDe_goOn_L3 x2 x3 x4 σ) Θ :=
  k_iter (f := fun s => fDe_goOn_B3 x2 x3 s.1 s.2) (Lf := fun s => [lq 9, lq 8, li x2, li x3, li s.1, none, none]) (mf := fun s => s.2) (Θ := Θ) (fun s => tDe_goOn_B3 hX hR x2 x3 s.1 s.2 hT (fun _ h9 => h9)) kF (x4, σ)
set_option maxRecDepth 100000 in
set_option maxHeartbeats 4000000 in
theorem sDe_goOn (x2 x3 : Int) (σ : KM) : kSem 2 (⟨"KeyPath$Detours", "goOn", "(LKeyPath$PathFinder;II)V"⟩ : MethodName) prog_2_method_9_code 7 none [kr 9, kr 8, ki x2, ki x3] σ (fDe_goOn x2 x3 σ) := by
  refine kSem.of (L0 := [lq 9, lq 8, li x2, li x3, none, none, none]) (by decide) (Nat.le_of_ble_eq_true rfl) rfl (fun X q hX hR => ?_)
  have hT : ∀ z : Int × KM, (fun z => z = q) z → z = q := fun _ h => h
  refine k_iconst hX dDe_goOn_0 ?_
  refine k_istore (L' := [lq 9, lq 8, li x2, li x3, li 0, none, none]) hX dDe_goOn_1 rfl (by decide) rfl ?_
  exact tDe_goOn_L3 hX hR x2 x3 0 σ hT
theorem cl_115 {X : KC} {d n : Nat} {cc : ByteArray} {pc : Nat} {L : List (Option KV)} {st : List KV} {σ : KM} {Z : Type} {Θ : Z → Prop} {G : Int → KM → Option Z} {x2 x3 : Int} (hX : kOk X d cc n "KeyPath$Detours") (hdd : 2 + 1 ≤ d) (hst : k_cat st ≤ 8) (hd : decode cc pc = .ok (.invokevirtual 75, 3)) (h : ∀ r τ, kJ X (pc + 3) L (st) τ (G r τ) Θ) : kJ X pc L (ki x3 :: ki x2 :: kr 8 :: kr 9 :: st) σ (kCall (fDe_goOn x2 x3 σ) G) Θ :=
  k_callV (np := 3) (av := [kr 8, ki x2, ki x3]) (ret := none) hX (by decide) rfl rfl rfl (sDe_goOn _ _ σ) ⟨⟨hdd, by decide⟩, tw_811, tw_10, by decide +kernel⟩ rfl tw_808 tw_810 ts_33 hst hd h
theorem dDe_countMoves_0 : decode prog_2_method_8_code 0 = .ok (.aload_n 0, 1) := by decide +kernel
theorem dDe_countMoves_1 : decode prog_2_method_8_code 1 = .ok (.getfield 28, 3) := by decide +kernel
theorem dDe_countMoves_4 : decode prog_2_method_8_code 4 = .ok (.ifCond .eq 4, 3) := by decide +kernel
theorem dDe_countMoves_7 : decode prog_2_method_8_code 7 = .ok (.return_, 1) := by decide +kernel
theorem dDe_countMoves_8 : decode prog_2_method_8_code 8 = .ok (.bipush 48, 2) := by decide +kernel
theorem dDe_countMoves_10 : decode prog_2_method_8_code 10 = .ok (.aload_n 1, 1) := by decide +kernel
theorem dDe_countMoves_11 : decode prog_2_method_8_code 11 = .ok (.invokevirtual 71, 3) := by decide +kernel
theorem dDe_countMoves_14 : decode prog_2_method_8_code 14 = .ok (.invokestatic 56, 3) := by decide +kernel
theorem dDe_countMoves_17 : decode prog_2_method_8_code 17 = .ok (.istore_n 2, 1) := by decide +kernel
theorem dDe_countMoves_18 : decode prog_2_method_8_code 18 = .ok (.iconst 0, 1) := by decide +kernel
theorem dDe_countMoves_19 : decode prog_2_method_8_code 19 = .ok (.istore_n 3, 1) := by decide +kernel
theorem dDe_countMoves_20 : decode prog_2_method_8_code 20 = .ok (.iload_n 3, 1) := by decide +kernel
theorem dDe_countMoves_21 : decode prog_2_method_8_code 21 = .ok (.iload_n 2, 1) := by decide +kernel
theorem dDe_countMoves_22 : decode prog_2_method_8_code 22 = .ok (.bipush 24, 2) := by decide +kernel
theorem dDe_countMoves_24 : decode prog_2_method_8_code 24 = .ok (.imul, 1) := by decide +kernel
theorem dDe_countMoves_25 : decode prog_2_method_8_code 25 = .ok (.if_icmp .ge 24, 3) := by decide +kernel
theorem dDe_countMoves_28 : decode prog_2_method_8_code 28 = .ok (.aload_n 0, 1) := by decide +kernel
theorem dDe_countMoves_29 : decode prog_2_method_8_code 29 = .ok (.getfield 15, 3) := by decide +kernel
theorem dDe_countMoves_32 : decode prog_2_method_8_code 32 = .ok (.iload_n 3, 1) := by decide +kernel
theorem dDe_countMoves_33 : decode prog_2_method_8_code 33 = .ok (.aload_n 1, 1) := by decide +kernel
theorem dDe_countMoves_34 : decode prog_2_method_8_code 34 = .ok (.getfield 45, 3) := by decide +kernel
theorem dDe_countMoves_37 : decode prog_2_method_8_code 37 = .ok (.iload_n 3, 1) := by decide +kernel
theorem dDe_countMoves_38 : decode prog_2_method_8_code 38 = .ok (.bipush 24, 2) := by decide +kernel
theorem dDe_countMoves_40 : decode prog_2_method_8_code 40 = .ok (.irem, 1) := by decide +kernel
theorem dDe_countMoves_41 : decode prog_2_method_8_code 41 = .ok (.iaload, 1) := by decide +kernel
theorem dDe_countMoves_42 : decode prog_2_method_8_code 42 = .ok (.iastore, 1) := by decide +kernel
theorem dDe_countMoves_43 : decode prog_2_method_8_code 43 = .ok (.iinc 3 1, 3) := by decide +kernel
theorem dDe_countMoves_46 : decode prog_2_method_8_code 46 = .ok (.goto (-26), 3) := by decide +kernel
theorem dDe_countMoves_49 : decode prog_2_method_8_code 49 = .ok (.iconst 1, 1) := by decide +kernel
theorem dDe_countMoves_50 : decode prog_2_method_8_code 50 = .ok (.istore_n 3, 1) := by decide +kernel
theorem dDe_countMoves_51 : decode prog_2_method_8_code 51 = .ok (.iload_n 3, 1) := by decide +kernel
theorem dDe_countMoves_52 : decode prog_2_method_8_code 52 = .ok (.aload_n 1, 1) := by decide +kernel
theorem dDe_countMoves_53 : decode prog_2_method_8_code 53 = .ok (.getfield 31, 3) := by decide +kernel
theorem dDe_countMoves_56 : decode prog_2_method_8_code 56 = .ok (.if_icmp .ge 33, 3) := by decide +kernel
theorem dDe_countMoves_59 : decode prog_2_method_8_code 59 = .ok (.iload_n 2, 1) := by decide +kernel
theorem dDe_countMoves_60 : decode prog_2_method_8_code 60 = .ok (.iconst 1, 1) := by decide +kernel
theorem dDe_countMoves_61 : decode prog_2_method_8_code 61 = .ok (.isub, 1) := by decide +kernel
theorem dDe_countMoves_62 : decode prog_2_method_8_code 62 = .ok (.istore 4, 2) := by decide +kernel
theorem dDe_countMoves_64 : decode prog_2_method_8_code 64 = .ok (.iload 4, 2) := by decide +kernel
theorem dDe_countMoves_66 : decode prog_2_method_8_code 66 = .ok (.ifCond .lt 17, 3) := by decide +kernel
theorem dDe_countMoves_69 : decode prog_2_method_8_code 69 = .ok (.aload_n 0, 1) := by decide +kernel
theorem dDe_countMoves_70 : decode prog_2_method_8_code 70 = .ok (.aload_n 1, 1) := by decide +kernel
theorem dDe_countMoves_71 : decode prog_2_method_8_code 71 = .ok (.iload_n 3, 1) := by decide +kernel
theorem dDe_countMoves_72 : decode prog_2_method_8_code 72 = .ok (.iload 4, 2) := by decide +kernel
theorem dDe_countMoves_74 : decode prog_2_method_8_code 74 = .ok (.invokevirtual 75, 3) := by decide +kernel
theorem dDe_countMoves_77 : decode prog_2_method_8_code 77 = .ok (.iinc 4 (-1), 3) := by decide +kernel
theorem dDe_countMoves_80 : decode prog_2_method_8_code 80 = .ok (.goto (-16), 3) := by decide +kernel
theorem dDe_countMoves_83 : decode prog_2_method_8_code 83 = .ok (.iinc 3 1, 3) := by decide +kernel
theorem dDe_countMoves_86 : decode prog_2_method_8_code 86 = .ok (.goto (-35), 3) := by decide +kernel
theorem dDe_countMoves_89 : decode prog_2_method_8_code 89 = .ok (.iconst 0, 1) := by decide +kernel
theorem dDe_countMoves_90 : decode prog_2_method_8_code 90 = .ok (.istore_n 3, 1) := by decide +kernel
theorem dDe_countMoves_91 : decode prog_2_method_8_code 91 = .ok (.iload_n 3, 1) := by decide +kernel
theorem dDe_countMoves_92 : decode prog_2_method_8_code 92 = .ok (.iload_n 2, 1) := by decide +kernel
theorem dDe_countMoves_93 : decode prog_2_method_8_code 93 = .ok (.if_icmp .ge 26, 3) := by decide +kernel
theorem dDe_countMoves_96 : decode prog_2_method_8_code 96 = .ok (.aload_n 0, 1) := by decide +kernel
theorem dDe_countMoves_97 : decode prog_2_method_8_code 97 = .ok (.getfield 18, 3) := by decide +kernel
theorem dDe_countMoves_100 : decode prog_2_method_8_code 100 = .ok (.iload_n 3, 1) := by decide +kernel
theorem dDe_countMoves_101 : decode prog_2_method_8_code 101 = .ok (.aload_n 0, 1) := by decide +kernel
theorem dDe_countMoves_102 : decode prog_2_method_8_code 102 = .ok (.getfield 15, 3) := by decide +kernel
theorem dDe_countMoves_105 : decode prog_2_method_8_code 105 = .ok (.iload_n 3, 1) := by decide +kernel
theorem dDe_countMoves_106 : decode prog_2_method_8_code 106 = .ok (.bipush 24, 2) := by decide +kernel
theorem dDe_countMoves_108 : decode prog_2_method_8_code 108 = .ok (.imul, 1) := by decide +kernel
theorem dDe_countMoves_109 : decode prog_2_method_8_code 109 = .ok (.invokestatic 79, 3) := by decide +kernel
theorem dDe_countMoves_112 : decode prog_2_method_8_code 112 = .ok (.iastore, 1) := by decide +kernel
theorem dDe_countMoves_113 : decode prog_2_method_8_code 113 = .ok (.iinc 3 1, 3) := by decide +kernel
theorem dDe_countMoves_116 : decode prog_2_method_8_code 116 = .ok (.goto (-25), 3) := by decide +kernel
theorem dDe_countMoves_119 : decode prog_2_method_8_code 119 = .ok (.aload_n 0, 1) := by decide +kernel
theorem dDe_countMoves_120 : decode prog_2_method_8_code 120 = .ok (.iconst 1, 1) := by decide +kernel
theorem dDe_countMoves_121 : decode prog_2_method_8_code 121 = .ok (.putfield 28, 3) := by decide +kernel
theorem dDe_countMoves_124 : decode prog_2_method_8_code 124 = .ok (.return_, 1) := by decide +kernel
set_option maxRecDepth 100000 in
set_option maxHeartbeats 4000000 in
theorem tDe_countMoves_J119 {X : KC} {q : Int × KM} (hX : kOk X 3 prog_2_method_8_code 5 "KeyPath$Detours") (hR : kRet X none q) (σ : KM) {Θ : (Int × KM) → Prop} (hT : ∀ z, Θ (z) → z = q) : kJ X 119 [lq 9, lq 8, none, none, none] [] σ (fDe_countMoves_J119 σ) Θ := by
  refine k_aload_n hX dDe_countMoves_119 rfl ?_
  refine k_iconst hX dDe_countMoves_120 ?_
  refine gz_69 hX dDe_countMoves_121 (fun τ1 => ?_)
  exact k_vret hX hR hT dDe_countMoves_124
set_option maxRecDepth 100000 in
set_option maxHeartbeats 4000000 in
theorem tDe_countMoves_B91 {X : KC} {q : Int × KM} (hX : kOk X 3 prog_2_method_8_code 5 "KeyPath$Detours") (hR : kRet X none q) (x2 x3 : Int) (σ : KM) {Θ : ((Int × KM) ⊕ (Int × KM)) → Prop} (hT : ∀ z, Θ (.inr (z)) → z = q) (hb0 : ∀ s : Int × KM, Θ (.inl s) → kW X 91 [lq 9, lq 8, li x2, li s.1, none] [] s.2) : kJ X 91 [lq 9, lq 8, li x2, li x3, none] [] σ (fDe_countMoves_B91 x2 x3 σ) Θ := by
  refine k_iload_n hX dDe_countMoves_91 rfl ?_
  refine k_iload_n hX dDe_countMoves_92 rfl ?_
  refine k_icmp_ge (tgt := 119) hX dDe_countMoves_93 (by decide) ?_ ?_
  · refine k_exit ?_
    refine k_less [true, true, false, false, true] (L' := [lq 9, lq 8, none, none, none]) rfl ?_
    exact tDe_countMoves_J119 hX hR σ hT
  · refine k_aload_n hX dDe_countMoves_96 rfl ?_
    refine gf_154 hX dDe_countMoves_97 ?_
    refine k_iload_n hX dDe_countMoves_100 rfl ?_
    refine k_aload_n hX dDe_countMoves_101 rfl ?_
    refine gf_155 hX dDe_countMoves_102 ?_
    refine k_iload_n hX dDe_countMoves_105 rfl ?_
    refine k_bipush hX dDe_countMoves_106 (by decide) ?_
    refine k_imul hX dDe_countMoves_108 ?_
    refine cl_113 hX (by decide) (Nat.le_of_ble_eq_true rfl) dDe_countMoves_109 (fun r2 τ1 => ?_)
    refine k_iast hX (by decide) rfl dDe_countMoves_112 rfl (fun τ3 => ?_)
    refine k_iincL (Lf := fun y4 => [lq 9, lq 8, li x2, li y4, none]) hX dDe_countMoves_113 rfl (by decide) rfl (fun _ => rfl) (fun y4 => ?_)
    refine k_goto (tgt := 91) hX dDe_countMoves_116 (by decide) ?_
    exact k_back (hb0 (y4, τ3))
set_option maxRecDepth 100000 in
set_option maxHeartbeats 4000000 in
theorem tDe_countMoves_L91 {X : KC} {q : Int × KM} (hX : kOk X 3 prog_2_method_8_code 5 "KeyPath$Detours") (hR : kRet X none q) (x2 x3 : Int) (σ : KM) {Θ : (Int × KM) → Prop} (hT : ∀ z, Θ (z) → z = q) : kJ X 91 [lq 9, lq 8, li x2, li x3, none] [] σ (fDe_countMoves_L91 x2 x3 σ) Θ :=
  k_iter (f := fun s => fDe_countMoves_B91 x2 s.1 s.2) (Lf := fun s => [lq 9, lq 8, li x2, li s.1, none]) (mf := fun s => s.2) (Θ := Θ) (fun s => tDe_countMoves_B91 hX hR x2 s.1 s.2 hT (fun _ h9 => h9)) kF (x3, σ)
set_option maxRecDepth 100000 in
set_option maxHeartbeats 4000000 in
theorem tDe_countMoves_J89 {X : KC} {q : Int × KM} (hX : kOk X 3 prog_2_method_8_code 5 "KeyPath$Detours") (hR : kRet X none q) (x2 : Int) (σ : KM) {Θ : (Int × KM) → Prop} (hT : ∀ z, Θ (z) → z = q) : kJ X 89 [lq 9, lq 8, li x2, none, none] [] σ (fDe_countMoves_J89 x2 σ) Θ := by
  refine k_iconst hX dDe_countMoves_89 ?_
  refine k_istore_n (L' := [lq 9, lq 8, li x2, li 0, none]) hX dDe_countMoves_90 rfl (by decide) rfl ?_
  exact tDe_countMoves_L91 hX hR x2 0 σ hT
set_option maxRecDepth 100000 in
set_option maxHeartbeats 4000000 in
theorem tDe_countMoves_J83 {X : KC} {q : Int × KM} (hX : kOk X 3 prog_2_method_8_code 5 "KeyPath$Detours") (hR : kRet X none q) (x2 x3 : Int) (σ : KM) {Θ : ((Int × KM) ⊕ (Int × KM)) → Prop} (hT : ∀ z, Θ (.inr (z)) → z = q) (hb0 : ∀ s : Int × KM, Θ (.inl s) → kW X 51 [lq 9, lq 8, li x2, li s.1, none] [] s.2) : kJ X 83 [lq 9, lq 8, li x2, li x3, none] [] σ (fDe_countMoves_J83 x2 x3 σ) Θ := by
  refine k_iincL (Lf := fun y1 => [lq 9, lq 8, li x2, li y1, none]) hX dDe_countMoves_83 rfl (by decide) rfl (fun _ => rfl) (fun y1 => ?_)
  refine k_goto (tgt := 51) hX dDe_countMoves_86 (by decide) ?_
  exact k_back (hb0 (y1, σ))
set_option maxRecDepth 100000 in
set_option maxHeartbeats 4000000 in
theorem tDe_countMoves_B64 {X : KC} {q : Int × KM} (hX : kOk X 3 prog_2_method_8_code 5 "KeyPath$Detours") (hR : kRet X none q) (x2 x3 x4 : Int) (σ : KM) {Θ : ((Int × KM) ⊕ ((Int × KM) ⊕ (Int × KM))) → Prop} (hT : ∀ z, Θ (.inr (.inr (z))) → z = q) (hb0 : ∀ s : Int × KM, Θ (.inl s) → kW X 64 [lq 9, lq 8, li x2, li x3, li s.1] [] s.2) (hb1 : ∀ s : Int × KM, Θ (.inr (.inl s)) → kW X 51 [lq 9, lq 8, li x2, li s.1, none] [] s.2) : kJ X 64 [lq 9, lq 8, li x2, li x3, li x4] [] σ (fDe_countMoves_B64 x2 x3 x4 σ) Θ := by
  refine k_iload hX dDe_countMoves_64 rfl ?_
  refine k_if_lt (tgt := 83) hX dDe_countMoves_66 (by decide) ?_ ?_
  · refine k_exit ?_
    refine k_less [true, true, true, true, false] (L' := [lq 9, lq 8, li x2, li x3, none]) rfl ?_
    exact tDe_countMoves_J83 hX hR x2 x3 σ hT hb1
  · refine k_aload_n hX dDe_countMoves_69 rfl ?_
    refine k_aload_n hX dDe_countMoves_70 rfl ?_
    refine k_iload_n hX dDe_countMoves_71 rfl ?_
    refine k_iload hX dDe_countMoves_72 rfl ?_
    refine cl_115 hX (by decide) (Nat.le_of_ble_eq_true rfl) dDe_countMoves_74 (fun _ τ1 => ?_)
    refine k_iincL (Lf := fun y2 => [lq 9, lq 8, li x2, li x3, li y2]) hX dDe_countMoves_77 rfl (by decide) rfl (fun _ => rfl) (fun y2 => ?_)
    refine k_goto (tgt := 64) hX dDe_countMoves_80 (by decide) ?_
    exact k_back (hb0 (y2, τ1))
set_option maxRecDepth 100000 in
set_option maxHeartbeats 4000000 in
theorem tDe_countMoves_L64 {X : KC} {q : Int × KM} (hX : kOk X 3 prog_2_method_8_code 5 "KeyPath$Detours") (hR : kRet X none q) (x2 x3 x4 : Int) (σ : KM) {Θ : ((Int × KM) ⊕ (Int × KM)) → Prop} (hT : ∀ z, Θ (.inr (z)) → z = q) (hb0 : ∀ s : Int × KM, Θ (.inl s) → kW X 51 [lq 9, lq 8, li x2, li s.1, none] [] s.2) : kJ X 64 [lq 9, lq 8, li x2, li x3, li x4] [] σ (fDe_countMoves_L64 x2 x3 x4 σ) Θ :=
  k_iter (f := fun s => fDe_countMoves_B64 x2 x3 s.1 s.2) (Lf := fun s => [lq 9, lq 8, li x2, li x3, li s.1]) (mf := fun s => s.2) (Θ := Θ) (fun s => tDe_countMoves_B64 hX hR x2 x3 s.1 s.2 hT (fun _ h9 => h9) hb0) kF (x4, σ)
set_option maxRecDepth 100000 in
set_option maxHeartbeats 4000000 in
theorem tDe_countMoves_B51 {X : KC} {q : Int × KM} (hX : kOk X 3 prog_2_method_8_code 5 "KeyPath$Detours") (hR : kRet X none q) (x2 x3 : Int) (σ : KM) {Θ : ((Int × KM) ⊕ (Int × KM)) → Prop} (hT : ∀ z, Θ (.inr (z)) → z = q) (hb0 : ∀ s : Int × KM, Θ (.inl s) → kW X 51 [lq 9, lq 8, li x2, li s.1, none] [] s.2) : kJ X 51 [lq 9, lq 8, li x2, li x3, none] [] σ (fDe_countMoves_B51 x2 x3 σ) Θ := by
  refine k_iload_n hX dDe_countMoves_51 rfl ?_
  refine k_aload_n hX dDe_countMoves_52 rfl ?_
  refine gf_111 hX dDe_countMoves_53 ?_
  refine k_icmp_ge (tgt := 89) hX dDe_countMoves_56 (by decide) ?_ ?_
  · refine k_exit ?_
    refine k_less [true, true, true, false, true] (L' := [lq 9, lq 8, li x2, none, none]) rfl ?_
    exact tDe_countMoves_J89 hX hR x2 σ hT
  · refine k_iload_n hX dDe_countMoves_59 rfl ?_
    refine k_iconst hX dDe_countMoves_60 ?_
    refine k_isub hX dDe_countMoves_61 ?_
    refine k_istoreL (Lf := fun y1 => [lq 9, lq 8, li x2, li x3, li y1]) hX dDe_countMoves_62 rfl (by decide) (fun _ => rfl) (fun y1 => ?_)
    exact tDe_countMoves_L64 hX hR x2 x3 y1 σ hT hb0
set_option maxRecDepth 100000 in
set_option maxHeartbeats 4000000 in
theorem tDe_countMoves_L51 {X : KC} {q : Int × KM} (hX : kOk X 3 prog_2_method_8_code 5 "KeyPath$Detours") (hR : kRet X none q) (x2 x3 : Int) (σ : KM) {Θ : (Int × KM) → Prop} (hT : ∀ z, Θ (z) → z = q) : kJ X 51 [lq 9, lq 8, li x2, li x3, none] [] σ (fDe_countMoves_L51 x2 x3 σ) Θ :=
  k_iter (f := fun s => fDe_countMoves_B51 x2 s.1 s.2) (Lf := fun s => [lq 9, lq 8, li x2, li s.1, none]) (mf := fun s => s.2) (Θ := Θ) (fun s => tDe_countMoves_B51 hX hR x2 s.1 s.2 hT (fun _ h9 => h9)) kF (x3, σ)
set_option maxRecDepth 100000 in
set_option maxHeartbeats 4000000 in
theorem tDe_countMoves_J49 {X : KC} {q : Int × KM} (hX : kOk X 3 prog_2_method_8_code 5 "KeyPath$Detours") (hR : kRet X none q) (x2 : Int) (σ : KM) {Θ : (Int × KM) → Prop} (hT : ∀ z, Θ (z) → z = q) : kJ X 49 [lq 9, lq 8, li x2, none, none] [] σ (fDe_countMoves_J49 x2 σ) Θ := by
  refine k_iconst hX dDe_countMoves_49 ?_
  refine k_istore_n (L' := [lq 9, lq 8, li x2, li 1, none]) hX dDe_countMoves_50 rfl (by decide) rfl ?_
  exact tDe_countMoves_L51 hX hR x2 1 σ hT
set_option maxRecDepth 100000 in
set_option maxHeartbeats 4000000 in
theorem tDe_countMoves_B20 {X : KC} {q : Int × KM} (hX : kOk X 3 prog_2_method_8_code 5 "KeyPath$Detours") (hR : kRet X none q) (x2 x3 : Int) (σ : KM) {Θ : ((Int × KM) ⊕ (Int × KM)) → Prop} (hT : ∀ z, Θ (.inr (z)) → z = q) (hb0 : ∀ s : Int × KM, Θ (.inl s) → kW X 20 [lq 9, lq 8, li x2, li s.1, none] [] s.2) : kJ X 20 [lq 9, lq 8, li x2, li x3, none] [] σ (fDe_countMoves_B20 x2 x3 σ) Θ := by
  refine k_iload_n hX dDe_countMoves_20 rfl ?_
  refine k_iload_n hX dDe_countMoves_21 rfl ?_
  refine k_bipush hX dDe_countMoves_22 (by decide) ?_
  refine k_imul hX dDe_countMoves_24 ?_
  refine k_icmp_ge (tgt := 49) hX dDe_countMoves_25 (by decide) ?_ ?_
  · refine k_exit ?_
    refine k_less [true, true, true, false, true] (L' := [lq 9, lq 8, li x2, none, none]) rfl ?_
    exact tDe_countMoves_J49 hX hR x2 σ hT
  · refine k_aload_n hX dDe_countMoves_28 rfl ?_
    refine gf_155 hX dDe_countMoves_29 ?_
    refine k_iload_n hX dDe_countMoves_32 rfl ?_
    refine k_aload_n hX dDe_countMoves_33 rfl ?_
    refine gf_113 hX dDe_countMoves_34 ?_
    refine k_iload_n hX dDe_countMoves_37 rfl ?_
    refine k_bipush hX dDe_countMoves_38 (by decide) ?_
    refine k_irem hX dDe_countMoves_40 (fun y1 => ?_)
    refine k_iald hX (by decide) rfl dDe_countMoves_41 rfl (fun y2 => ?_)
    refine k_iast hX (by decide) rfl dDe_countMoves_42 rfl (fun τ3 => ?_)
    refine k_iincL (Lf := fun y4 => [lq 9, lq 8, li x2, li y4, none]) hX dDe_countMoves_43 rfl (by decide) rfl (fun _ => rfl) (fun y4 => ?_)
    refine k_goto (tgt := 20) hX dDe_countMoves_46 (by decide) ?_
    exact k_back (hb0 (y4, τ3))
set_option maxRecDepth 100000 in
set_option maxHeartbeats 4000000 in
theorem tDe_countMoves_L20 {X : KC} {q : Int × KM} (hX : kOk X 3 prog_2_method_8_code 5 "KeyPath$Detours") (hR : kRet X none q) (x2 x3 : Int) (σ : KM) {Θ : (Int × KM) → Prop} (hT : ∀ z, Θ (z) → z = q) : kJ X 20 [lq 9, lq 8, li x2, li x3, none] [] σ (fDe_countMoves_L20 x2 x3 σ) Θ :=
  k_iter (f := fun s => fDe_countMoves_B20 x2 s.1 s.2) (Lf := fun s => [lq 9, lq 8, li x2, li s.1, none]) (mf := fun s => s.2) (Θ := Θ) (fun s => tDe_countMoves_B20 hX hR x2 s.1 s.2 hT (fun _ h9 => h9)) kF (x3, σ)
set_option maxRecDepth 100000 in
set_option maxHeartbeats 4000000 in
theorem sDe_countMoves (σ : KM) : kSem 3 (⟨"KeyPath$Detours", "countMoves", "(LKeyPath$PathFinder;)V"⟩ : MethodName) prog_2_method_8_code 5 none [kr 9, kr 8] σ (fDe_countMoves σ) := by
  refine kSem.of (L0 := [lq 9, lq 8, none, none, none]) (by decide) (Nat.le_of_ble_eq_true rfl) rfl (fun X q hX hR => ?_)
  have hT : ∀ z : Int × KM, (fun z => z = q) z → z = q := fun _ h => h
  refine k_aload_n hX dDe_countMoves_0 rfl ?_
  refine gf_153 hX dDe_countMoves_1 ?_
  refine k_if_eq (tgt := 8) hX dDe_countMoves_4 (by decide) ?_ ?_
  · refine k_bipush hX dDe_countMoves_8 (by decide) ?_
    refine k_aload_n hX dDe_countMoves_10 rfl ?_
    refine cl_112 hX (by decide) (Nat.le_of_ble_eq_true rfl) dDe_countMoves_11 (fun r2 τ1 => ?_)
    refine k_mmin hX (by decide) (Nat.le_of_ble_eq_true rfl) tw_768 tw_379 tw_12 tw_380 dDe_countMoves_14 (fun y3 => ?_)
    refine k_istore_n (L' := [lq 9, lq 8, li y3, none, none]) hX dDe_countMoves_17 rfl (by decide) rfl ?_
    refine k_iconst hX dDe_countMoves_18 ?_
    refine k_istore_n (L' := [lq 9, lq 8, li y3, li 0, none]) hX dDe_countMoves_19 rfl (by decide) rfl ?_
    exact tDe_countMoves_L20 hX hR y3 0 τ1 hT
  · exact k_vret hX hR hT dDe_countMoves_7
theorem cl_116 {X : KC} {d n : Nat} {cc : ByteArray} {pc : Nat} {L : List (Option KV)} {st : List KV} {σ : KM} {Z : Type} {Θ : Z → Prop} {G : Int → KM → Option Z} (hX : kOk X d cc n "KeyPath") (hdd : 3 + 1 ≤ d) (hst : k_cat st ≤ 8) (hd : decode cc pc = .ok (.invokevirtual 270, 3)) (h : ∀ r τ, kJ X (pc + 3) L (st) τ (G r τ) Θ) : kJ X pc L (kr 8 :: kr 9 :: st) σ (kCall (fDe_countMoves σ) G) Θ :=
  k_callV (np := 1) (av := [kr 8]) (ret := none) hX (by decide) rfl rfl rfl (sDe_countMoves σ) ⟨⟨hdd, by decide⟩, tw_806, tw_10, by decide +kernel⟩ rfl tw_803 tw_804 tw_805 hst hd h
theorem dP_within_0 : decode prog_1_method_28_code 0 = .ok (.iconst 0, 1) := by decide +kernel
theorem dP_within_1 : decode prog_1_method_28_code 1 = .ok (.bipush 47, 2) := by decide +kernel
theorem dP_within_3 : decode prog_1_method_28_code 3 = .ok (.iload_n 1, 1) := by decide +kernel
theorem dP_within_4 : decode prog_1_method_28_code 4 = .ok (.invokestatic 138, 3) := by decide +kernel
theorem dP_within_7 : decode prog_1_method_28_code 7 = .ok (.ifCond .eq 6, 3) := by decide +kernel
theorem dP_within_10 : decode prog_1_method_28_code 10 = .ok (.bipush (-3), 2) := by decide +kernel
theorem dP_within_12 : decode prog_1_method_28_code 12 = .ok (.ireturn, 1) := by decide +kernel
theorem dP_within_13 : decode prog_1_method_28_code 13 = .ok (.aload_n 0, 1) := by decide +kernel
theorem dP_within_14 : decode prog_1_method_28_code 14 = .ok (.invokevirtual 233, 3) := by decide +kernel
theorem dP_within_17 : decode prog_1_method_28_code 17 = .ok (.ifCond .eq 6, 3) := by decide +kernel
theorem dP_within_20 : decode prog_1_method_28_code 20 = .ok (.bipush (-5), 2) := by decide +kernel
theorem dP_within_22 : decode prog_1_method_28_code 22 = .ok (.ireturn, 1) := by decide +kernel
theorem dP_within_23 : decode prog_1_method_28_code 23 = .ok (.iload_n 1, 1) := by decide +kernel
theorem dP_within_24 : decode prog_1_method_28_code 24 = .ok (.aload_n 0, 1) := by decide +kernel
theorem dP_within_25 : decode prog_1_method_28_code 25 = .ok (.getfield 54, 3) := by decide +kernel
theorem dP_within_28 : decode prog_1_method_28_code 28 = .ok (.invokevirtual 267, 3) := by decide +kernel
theorem dP_within_31 : decode prog_1_method_28_code 31 = .ok (.if_icmp .lt 11, 3) := by decide +kernel
theorem dP_within_34 : decode prog_1_method_28_code 34 = .ok (.aload_n 0, 1) := by decide +kernel
theorem dP_within_35 : decode prog_1_method_28_code 35 = .ok (.getfield 54, 3) := by decide +kernel
theorem dP_within_38 : decode prog_1_method_28_code 38 = .ok (.getfield 237, 3) := by decide +kernel
theorem dP_within_41 : decode prog_1_method_28_code 41 = .ok (.ireturn, 1) := by decide +kernel
theorem dP_within_42 : decode prog_1_method_28_code 42 = .ok (.aload_n 0, 1) := by decide +kernel
theorem dP_within_43 : decode prog_1_method_28_code 43 = .ok (.getfield 61, 3) := by decide +kernel
theorem dP_within_46 : decode prog_1_method_28_code 46 = .ok (.aload_n 0, 1) := by decide +kernel
theorem dP_within_47 : decode prog_1_method_28_code 47 = .ok (.getfield 54, 3) := by decide +kernel
theorem dP_within_50 : decode prog_1_method_28_code 50 = .ok (.invokevirtual 270, 3) := by decide +kernel
theorem dP_within_53 : decode prog_1_method_28_code 53 = .ok (.aload_n 0, 1) := by decide +kernel
theorem dP_within_54 : decode prog_1_method_28_code 54 = .ok (.getfield 61, 3) := by decide +kernel
theorem dP_within_57 : decode prog_1_method_28_code 57 = .ok (.getfield 273, 3) := by decide +kernel
theorem dP_within_60 : decode prog_1_method_28_code 60 = .ok (.iload_n 1, 1) := by decide +kernel
theorem dP_within_61 : decode prog_1_method_28_code 61 = .ok (.iaload, 1) := by decide +kernel
theorem dP_within_62 : decode prog_1_method_28_code 62 = .ok (.invokestatic 254, 3) := by decide +kernel
theorem dP_within_65 : decode prog_1_method_28_code 65 = .ok (.ireturn, 1) := by decide +kernel
set_option maxRecDepth 100000 in
set_option maxHeartbeats 4000000 in
theorem sP_within (x1 : Int) (σ : KM) : kSem 8 (⟨"KeyPath", "within", "(I)I"⟩ : MethodName) prog_1_method_28_code 2 (some .int) [kr 0, ki x1] σ (fP_within x1 σ) := by
  refine kSem.of (L0 := [lq 0, li x1]) (by decide) (Nat.le_of_ble_eq_true rfl) rfl (fun X q hX hR => ?_)
  have hT : ∀ z : Int × KM, (fun z => z = q) z → z = q := fun _ h => h
  refine k_iconst hX dP_within_0 ?_
  refine k_bipush hX dP_within_1 (by decide) ?_
  refine k_iload_n hX dP_within_3 rfl ?_
  refine cl_43 hX (by decide) (Nat.le_of_ble_eq_true rfl) dP_within_4 (fun r2 τ1 => ?_)
  refine k_if_eq (tgt := 13) hX dP_within_7 (by decide) ?_ ?_
  · refine k_aload_n hX dP_within_13 rfl ?_
    refine cl_33 hX (by decide) (Nat.le_of_ble_eq_true rfl) dP_within_14 (fun r4 τ3 => ?_)
    refine k_if_eq (tgt := 23) hX dP_within_17 (by decide) ?_ ?_
    · refine k_iload_n hX dP_within_23 rfl ?_
      refine k_aload_n hX dP_within_24 rfl ?_
      refine gf_20 hX dP_within_25 ?_
      refine cl_111 hX (by decide) (Nat.le_of_ble_eq_true rfl) dP_within_28 (fun r6 τ5 => ?_)
      refine k_icmp_lt (tgt := 42) hX dP_within_31 (by decide) ?_ ?_
      · refine k_aload_n hX dP_within_42 rfl ?_
        refine gf_67 hX dP_within_43 ?_
        refine k_aload_n hX dP_within_46 rfl ?_
        refine gf_20 hX dP_within_47 ?_
        refine cl_116 hX (by decide) (Nat.le_of_ble_eq_true rfl) dP_within_50 (fun _ τ7 => ?_)
        refine k_aload_n hX dP_within_53 rfl ?_
        refine gf_67 hX dP_within_54 ?_
        refine gf_156 hX dP_within_57 ?_
        refine k_iload_n hX dP_within_60 rfl ?_
        refine k_iald hX (by decide) rfl dP_within_61 rfl (fun y8 => ?_)
        refine cl_61 hX (by decide) (Nat.le_of_ble_eq_true rfl) dP_within_62 (fun r10 τ9 => ?_)
        exact k_iret hX hR hT dP_within_65
      · refine k_aload_n hX dP_within_34 rfl ?_
        refine gf_20 hX dP_within_35 ?_
        refine gf_73 hX dP_within_38 ?_
        exact k_iret hX hR hT dP_within_41
    · refine k_bipush hX dP_within_20 (by decide) ?_
      exact k_iret hX hR hT dP_within_22
  · refine k_bipush hX dP_within_10 (by decide) ?_
    exact k_iret hX hR hT dP_within_12
