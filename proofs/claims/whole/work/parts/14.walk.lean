theorem dTR_readNames_0 : decode prog_8_method_9_code 0 = .ok (.iconst 0, 1) := by decide +kernel
theorem dTR_readNames_1 : decode prog_8_method_9_code 1 = .ok (.istore_n 1, 1) := by decide +kernel
theorem dTR_readNames_2 : decode prog_8_method_9_code 2 = .ok (.iload_n 1, 1) := by decide +kernel
theorem dTR_readNames_3 : decode prog_8_method_9_code 3 = .ok (.bipush 6, 2) := by decide +kernel
theorem dTR_readNames_5 : decode prog_8_method_9_code 5 = .ok (.if_icmp .gt 49, 3) := by decide +kernel
theorem dTR_readNames_8 : decode prog_8_method_9_code 8 = .ok (.aload_n 0, 1) := by decide +kernel
theorem dTR_readNames_9 : decode prog_8_method_9_code 9 = .ok (.getfield 47, 3) := by decide +kernel
theorem dTR_readNames_12 : decode prog_8_method_9_code 12 = .ok (.ifCond .ne 42, 3) := by decide +kernel
theorem dTR_readNames_15 : decode prog_8_method_9_code 15 = .ok (.aload_n 0, 1) := by decide +kernel
theorem dTR_readNames_16 : decode prog_8_method_9_code 16 = .ok (.invokevirtual 53, 3) := by decide +kernel
theorem dTR_readNames_19 : decode prog_8_method_9_code 19 = .ok (.istore_n 2, 1) := by decide +kernel
theorem dTR_readNames_20 : decode prog_8_method_9_code 20 = .ok (.iload_n 2, 1) := by decide +kernel
theorem dTR_readNames_21 : decode prog_8_method_9_code 21 = .ok (.bipush 41, 2) := by decide +kernel
theorem dTR_readNames_23 : decode prog_8_method_9_code 23 = .ok (.if_icmp .ne 21, 3) := by decide +kernel
theorem dTR_readNames_26 : decode prog_8_method_9_code 26 = .ok (.aload_n 0, 1) := by decide +kernel
theorem dTR_readNames_27 : decode prog_8_method_9_code 27 = .ok (.getfield 60, 3) := by decide +kernel
theorem dTR_readNames_30 : decode prog_8_method_9_code 30 = .ok (.ifCond .le 14, 3) := by decide +kernel
theorem dTR_readNames_33 : decode prog_8_method_9_code 33 = .ok (.aload_n 0, 1) := by decide +kernel
theorem dTR_readNames_34 : decode prog_8_method_9_code 34 = .ok (.dup, 1) := by decide +kernel
theorem dTR_readNames_35 : decode prog_8_method_9_code 35 = .ok (.getfield 41, 3) := by decide +kernel
theorem dTR_readNames_38 : decode prog_8_method_9_code 38 = .ok (.iconst 1, 1) := by decide +kernel
theorem dTR_readNames_39 : decode prog_8_method_9_code 39 = .ok (.iadd, 1) := by decide +kernel
theorem dTR_readNames_40 : decode prog_8_method_9_code 40 = .ok (.putfield 41, 3) := by decide +kernel
theorem dTR_readNames_43 : decode prog_8_method_9_code 43 = .ok (.return_, 1) := by decide +kernel
theorem dTR_readNames_44 : decode prog_8_method_9_code 44 = .ok (.aload_n 0, 1) := by decide +kernel
theorem dTR_readNames_45 : decode prog_8_method_9_code 45 = .ok (.invokevirtual 73, 3) := by decide +kernel
theorem dTR_readNames_48 : decode prog_8_method_9_code 48 = .ok (.iinc 1 1, 3) := by decide +kernel
theorem dTR_readNames_51 : decode prog_8_method_9_code 51 = .ok (.goto (-49), 3) := by decide +kernel
theorem dTR_readNames_54 : decode prog_8_method_9_code 54 = .ok (.return_, 1) := by decide +kernel
set_option maxRecDepth 100000 in
set_option maxHeartbeats 4000000 in
theorem tTR_readNames_J54 {X : KC} {q : Int × KM} (hX : kOk X 4 prog_8_method_9_code 3 "KeyPath$TextReader") (hR : kRet X none q) (σ : KM) {Θ : (Int × KM) → Prop} (hT : ∀ z, Θ (z) → z = q) : kJ X 54 [lq 1, none, none] [] σ (fTR_readNames_J54 σ) Θ := by
  exact k_vret hX hR hT dTR_readNames_54
set_option maxRecDepth 100000 in
set_option maxHeartbeats 4000000 in
theorem tTR_readNames_J44 {X : KC} {q : Int × KM} (hX : kOk X 4 prog_8_method_9_code 3 "KeyPath$TextReader") (hR : kRet X none q) (x1 : Int) (σ : KM) {Θ : ((Int × KM) ⊕ (Int × KM)) → Prop} (hT : ∀ z, Θ (.inr (z)) → z = q) (hb0 : ∀ s : Int × KM, Θ (.inl s) → kW X 2 [lq 1, li s.1, none] [] s.2) : kJ X 44 [lq 1, li x1, none] [] σ (fTR_readNames_J44 x1 σ) Θ := by
  refine k_aload_n hX dTR_readNames_44 rfl ?_
  refine cl_71 hX (by decide) (Nat.le_of_ble_eq_true rfl) dTR_readNames_45 (fun _ τ1 => ?_)
  refine k_iincL (Lf := fun y2 => [lq 1, li y2, none]) hX dTR_readNames_48 rfl (by decide) rfl (fun _ => rfl) (fun y2 => ?_)
  refine k_goto (tgt := 2) hX dTR_readNames_51 (by decide) ?_
  exact k_back (hb0 (y2, τ1))
set_option maxRecDepth 100000 in
set_option maxHeartbeats 4000000 in
theorem tTR_readNames_J33 {X : KC} {q : Int × KM} (hX : kOk X 4 prog_8_method_9_code 3 "KeyPath$TextReader") (hR : kRet X none q) (σ : KM) {Θ : (Int × KM) → Prop} (hT : ∀ z, Θ (z) → z = q) : kJ X 33 [lq 1, none, none] [] σ (fTR_readNames_J33 σ) Θ := by
  refine k_aload_n hX dTR_readNames_33 rfl ?_
  refine k_dupr hX dTR_readNames_34 ?_
  refine gf_126 hX dTR_readNames_35 ?_
  refine k_iconst hX dTR_readNames_38 ?_
  refine k_iadd hX dTR_readNames_39 ?_
  refine gp_118 hX dTR_readNames_40 (fun τ1 => ?_)
  exact k_vret hX hR hT dTR_readNames_43
set_option maxRecDepth 100000 in
set_option maxHeartbeats 4000000 in
theorem tTR_readNames_B2 {X : KC} {q : Int × KM} (hX : kOk X 4 prog_8_method_9_code 3 "KeyPath$TextReader") (hR : kRet X none q) (x1 : Int) (σ : KM) {Θ : ((Int × KM) ⊕ (Int × KM)) → Prop} (hT : ∀ z, Θ (.inr (z)) → z = q) (hb0 : ∀ s : Int × KM, Θ (.inl s) → kW X 2 [lq 1, li s.1, none] [] s.2) : kJ X 2 [lq 1, li x1, none] [] σ (fTR_readNames_B2 x1 σ) Θ := by
  refine k_iload_n hX dTR_readNames_2 rfl ?_
  refine k_bipush hX dTR_readNames_3 (by decide) ?_
  refine k_icmp_gt (tgt := 54) hX dTR_readNames_5 (by decide) ?_ ?_
  · refine k_exit ?_
    refine k_less [true, false, true] (L' := [lq 1, none, none]) rfl ?_
    exact tTR_readNames_J54 hX hR σ hT
  · refine k_aload_n hX dTR_readNames_8 rfl ?_
    refine gf_125 hX dTR_readNames_9 ?_
    refine k_if_ne (tgt := 54) hX dTR_readNames_12 (by decide) ?_ ?_
    · refine k_exit ?_
      refine k_less [true, false, true] (L' := [lq 1, none, none]) rfl ?_
      exact tTR_readNames_J54 hX hR σ hT
    · refine k_aload_n hX dTR_readNames_15 rfl ?_
      refine cl_64 hX (by decide) (Nat.le_of_ble_eq_true rfl) dTR_readNames_16 (fun r2 τ1 => ?_)
      refine k_istore_n (L' := [lq 1, li x1, li r2]) hX dTR_readNames_19 rfl (by decide) rfl ?_
      refine k_iload_n hX dTR_readNames_20 rfl ?_
      refine k_bipush hX dTR_readNames_21 (by decide) ?_
      refine k_icmp_ne (tgt := 44) hX dTR_readNames_23 (by decide) ?_ ?_
      · refine k_less [true, true, false] (L' := [lq 1, li x1, none]) rfl ?_
        exact tTR_readNames_J44 hX hR x1 τ1 hT hb0
      · refine k_aload_n hX dTR_readNames_26 rfl ?_
        refine gf_128 hX dTR_readNames_27 ?_
        refine k_if_le (tgt := 44) hX dTR_readNames_30 (by decide) ?_ ?_
        · refine k_less [true, true, false] (L' := [lq 1, li x1, none]) rfl ?_
          exact tTR_readNames_J44 hX hR x1 τ1 hT hb0
        · refine k_exit ?_
          refine k_less [true, false, false] (L' := [lq 1, none, none]) rfl ?_
          exact tTR_readNames_J33 hX hR τ1 hT
set_option maxRecDepth 100000 in
set_option maxHeartbeats 4000000 in
theorem tTR_readNames_L2 {X : KC} {q : Int × KM} (hX : kOk X 4 prog_8_method_9_code 3 "KeyPath$TextReader") (hR : kRet X none q) (x1 : Int) (σ : KM) {Θ : (Int × KM) → Prop} (hT : ∀ z, Θ (z) → z = q) : kJ X 2 [lq 1, li x1, none] [] σ (fTR_readNames_L2 x1 σ) Θ :=
  k_iter (f := fun s => fTR_readNames_B2 s.1 s.2) (Lf := fun s => [lq 1, li s.1, none]) (mf := fun s => s.2) (Θ := Θ) (fun s => tTR_readNames_B2 hX hR s.1 s.2 hT (fun _ h9 => h9)) kF (x1, σ)
set_option maxRecDepth 100000 in
set_option maxHeartbeats 4000000 in
theorem sTR_readNames (σ : KM) : kSem 4 (⟨"KeyPath$TextReader", "readNames", "()V"⟩ : MethodName) prog_8_method_9_code 3 none [kr 1] σ (fTR_readNames σ) := by
  refine kSem.of (L0 := [lq 1, none, none]) (by decide) (Nat.le_of_ble_eq_true rfl) rfl (fun X q hX hR => ?_)
  have hT : ∀ z : Int × KM, (fun z => z = q) z → z = q := fun _ h => h
  refine k_iconst hX dTR_readNames_0 ?_
  refine k_istore_n (L' := [lq 1, li 0, none]) hX dTR_readNames_1 rfl (by decide) rfl ?_
  exact tTR_readNames_L2 hX hR 0 σ hT
theorem cl_78 {X : KC} {d n : Nat} {cc : ByteArray} {pc : Nat} {L : List (Option KV)} {st : List KV} {σ : KM} {Z : Type} {Θ : Z → Prop} {G : Int → KM → Option Z} (hX : kOk X d cc n "KeyPath$TextReader") (hdd : 4 + 1 ≤ d) (hst : k_cat st ≤ 8) (hd : decode cc pc = .ok (.invokevirtual 66, 3)) (h : ∀ r τ, kJ X (pc + 3) L (st) τ (G r τ) Θ) : kJ X pc L (kr 1 :: st) σ (kCall (fTR_readNames σ) G) Θ :=
  k_callV (np := 0) (av := []) (ret := none) hX (by decide) rfl rfl rfl (sTR_readNames σ) ⟨⟨hdd, by decide⟩, tw_429, tw_2, by decide +kernel⟩ rfl tw_426 tw_428 ts_7 hst hd h
theorem dTR_readPart_0 : decode prog_8_method_6_code 0 = .ok (.aload_n 0, 1) := by decide +kernel
theorem dTR_readPart_1 : decode prog_8_method_6_code 1 = .ok (.invokevirtual 53, 3) := by decide +kernel
theorem dTR_readPart_4 : decode prog_8_method_6_code 4 = .ok (.istore_n 1, 1) := by decide +kernel
theorem dTR_readPart_5 : decode prog_8_method_6_code 5 = .ok (.aload_n 0, 1) := by decide +kernel
theorem dTR_readPart_6 : decode prog_8_method_6_code 6 = .ok (.iconst 0, 1) := by decide +kernel
theorem dTR_readPart_7 : decode prog_8_method_6_code 7 = .ok (.putfield 60, 3) := by decide +kernel
theorem dTR_readPart_10 : decode prog_8_method_6_code 10 = .ok (.iload_n 1, 1) := by decide +kernel
theorem dTR_readPart_11 : decode prog_8_method_6_code 11 = .ok (.bipush 124, 2) := by decide +kernel
theorem dTR_readPart_13 : decode prog_8_method_6_code 13 = .ok (.if_icmp .ne 16, 3) := by decide +kernel
theorem dTR_readPart_16 : decode prog_8_method_6_code 16 = .ok (.aload_n 0, 1) := by decide +kernel
theorem dTR_readPart_17 : decode prog_8_method_6_code 17 = .ok (.dup, 1) := by decide +kernel
theorem dTR_readPart_18 : decode prog_8_method_6_code 18 = .ok (.getfield 41, 3) := by decide +kernel
theorem dTR_readPart_21 : decode prog_8_method_6_code 21 = .ok (.iconst 1, 1) := by decide +kernel
theorem dTR_readPart_22 : decode prog_8_method_6_code 22 = .ok (.iadd, 1) := by decide +kernel
theorem dTR_readPart_23 : decode prog_8_method_6_code 23 = .ok (.putfield 41, 3) := by decide +kernel
theorem dTR_readPart_26 : decode prog_8_method_6_code 26 = .ok (.goto 80, 3) := by decide +kernel
theorem dTR_readPart_29 : decode prog_8_method_6_code 29 = .ok (.iload_n 1, 1) := by decide +kernel
theorem dTR_readPart_30 : decode prog_8_method_6_code 30 = .ok (.bipush 45, 2) := by decide +kernel
theorem dTR_readPart_32 : decode prog_8_method_6_code 32 = .ok (.if_icmp .ne 20, 3) := by decide +kernel
theorem dTR_readPart_35 : decode prog_8_method_6_code 35 = .ok (.aload_n 0, 1) := by decide +kernel
theorem dTR_readPart_36 : decode prog_8_method_6_code 36 = .ok (.dup, 1) := by decide +kernel
theorem dTR_readPart_37 : decode prog_8_method_6_code 37 = .ok (.getfield 41, 3) := by decide +kernel
theorem dTR_readPart_40 : decode prog_8_method_6_code 40 = .ok (.iconst 1, 1) := by decide +kernel
theorem dTR_readPart_41 : decode prog_8_method_6_code 41 = .ok (.iadd, 1) := by decide +kernel
theorem dTR_readPart_42 : decode prog_8_method_6_code 42 = .ok (.putfield 41, 3) := by decide +kernel
theorem dTR_readPart_45 : decode prog_8_method_6_code 45 = .ok (.aload_n 0, 1) := by decide +kernel
theorem dTR_readPart_46 : decode prog_8_method_6_code 46 = .ok (.invokevirtual 63, 3) := by decide +kernel
theorem dTR_readPart_49 : decode prog_8_method_6_code 49 = .ok (.goto 57, 3) := by decide +kernel
theorem dTR_readPart_52 : decode prog_8_method_6_code 52 = .ok (.iload_n 1, 1) := by decide +kernel
theorem dTR_readPart_53 : decode prog_8_method_6_code 53 = .ok (.bipush 40, 2) := by decide +kernel
theorem dTR_readPart_55 : decode prog_8_method_6_code 55 = .ok (.if_icmp .ne 24, 3) := by decide +kernel
theorem dTR_readPart_58 : decode prog_8_method_6_code 58 = .ok (.aload_n 0, 1) := by decide +kernel
theorem dTR_readPart_59 : decode prog_8_method_6_code 59 = .ok (.dup, 1) := by decide +kernel
theorem dTR_readPart_60 : decode prog_8_method_6_code 60 = .ok (.getfield 41, 3) := by decide +kernel
theorem dTR_readPart_63 : decode prog_8_method_6_code 63 = .ok (.iconst 1, 1) := by decide +kernel
theorem dTR_readPart_64 : decode prog_8_method_6_code 64 = .ok (.iadd, 1) := by decide +kernel
theorem dTR_readPart_65 : decode prog_8_method_6_code 65 = .ok (.putfield 41, 3) := by decide +kernel
theorem dTR_readPart_68 : decode prog_8_method_6_code 68 = .ok (.aload_n 0, 1) := by decide +kernel
theorem dTR_readPart_69 : decode prog_8_method_6_code 69 = .ok (.invokevirtual 66, 3) := by decide +kernel
theorem dTR_readPart_72 : decode prog_8_method_6_code 72 = .ok (.aload_n 0, 1) := by decide +kernel
theorem dTR_readPart_73 : decode prog_8_method_6_code 73 = .ok (.invokevirtual 63, 3) := by decide +kernel
theorem dTR_readPart_76 : decode prog_8_method_6_code 76 = .ok (.goto 30, 3) := by decide +kernel
theorem dTR_readPart_79 : decode prog_8_method_6_code 79 = .ok (.iload_n 1, 1) := by decide +kernel
theorem dTR_readPart_80 : decode prog_8_method_6_code 80 = .ok (.invokestatic 69, 3) := by decide +kernel
theorem dTR_readPart_83 : decode prog_8_method_6_code 83 = .ok (.ifCond .eq 14, 3) := by decide +kernel
theorem dTR_readPart_86 : decode prog_8_method_6_code 86 = .ok (.aload_n 0, 1) := by decide +kernel
theorem dTR_readPart_87 : decode prog_8_method_6_code 87 = .ok (.invokevirtual 73, 3) := by decide +kernel
theorem dTR_readPart_90 : decode prog_8_method_6_code 90 = .ok (.aload_n 0, 1) := by decide +kernel
theorem dTR_readPart_91 : decode prog_8_method_6_code 91 = .ok (.invokevirtual 63, 3) := by decide +kernel
theorem dTR_readPart_94 : decode prog_8_method_6_code 94 = .ok (.goto 12, 3) := by decide +kernel
theorem dTR_readPart_97 : decode prog_8_method_6_code 97 = .ok (.aload_n 0, 1) := by decide +kernel
theorem dTR_readPart_98 : decode prog_8_method_6_code 98 = .ok (.iconst 1, 1) := by decide +kernel
theorem dTR_readPart_99 : decode prog_8_method_6_code 99 = .ok (.aload_n 0, 1) := by decide +kernel
theorem dTR_readPart_100 : decode prog_8_method_6_code 100 = .ok (.getfield 41, 3) := by decide +kernel
theorem dTR_readPart_103 : decode prog_8_method_6_code 103 = .ok (.invokevirtual 76, 3) := by decide +kernel
theorem dTR_readPart_106 : decode prog_8_method_6_code 106 = .ok (.return_, 1) := by decide +kernel
set_option maxRecDepth 100000 in
set_option maxHeartbeats 4000000 in
theorem tTR_readPart_J106 {X : KC} {q : Int × KM} (hX : kOk X 5 prog_8_method_6_code 2 "KeyPath$TextReader") (hR : kRet X none q) (σ : KM) {Θ : (Int × KM) → Prop} (hT : ∀ z, Θ (z) → z = q) : kJ X 106 [lq 1, none] [] σ (fTR_readPart_J106 σ) Θ := by
  exact k_vret hX hR hT dTR_readPart_106
set_option maxRecDepth 100000 in
set_option maxHeartbeats 4000000 in
theorem sTR_readPart (σ : KM) : kSem 5 (⟨"KeyPath$TextReader", "readPart", "()V"⟩ : MethodName) prog_8_method_6_code 2 none [kr 1] σ (fTR_readPart σ) := by
  refine kSem.of (L0 := [lq 1, none]) (by decide) (Nat.le_of_ble_eq_true rfl) rfl (fun X q hX hR => ?_)
  have hT : ∀ z : Int × KM, (fun z => z = q) z → z = q := fun _ h => h
  refine k_aload_n hX dTR_readPart_0 rfl ?_
  refine cl_64 hX (by decide) (Nat.le_of_ble_eq_true rfl) dTR_readPart_1 (fun r2 τ1 => ?_)
  refine k_istore_n (L' := [lq 1, li r2]) hX dTR_readPart_4 rfl (by decide) rfl ?_
  refine k_aload_n hX dTR_readPart_5 rfl ?_
  refine k_iconst hX dTR_readPart_6 ?_
  refine gp_127 hX dTR_readPart_7 (fun τ3 => ?_)
  refine k_iload_n hX dTR_readPart_10 rfl ?_
  refine k_bipush hX dTR_readPart_11 (by decide) ?_
  refine k_icmp_ne (tgt := 29) hX dTR_readPart_13 (by decide) ?_ ?_
  · refine k_iload_n hX dTR_readPart_29 rfl ?_
    refine k_bipush hX dTR_readPart_30 (by decide) ?_
    refine k_icmp_ne (tgt := 52) hX dTR_readPart_32 (by decide) ?_ ?_
    · refine k_iload_n hX dTR_readPart_52 rfl ?_
      refine k_bipush hX dTR_readPart_53 (by decide) ?_
      refine k_icmp_ne (tgt := 79) hX dTR_readPart_55 (by decide) ?_ ?_
      · refine k_iload_n hX dTR_readPart_79 rfl ?_
        refine cl_65 hX (by decide) (Nat.le_of_ble_eq_true rfl) dTR_readPart_80 (fun r5 τ4 => ?_)
        refine k_if_eq (tgt := 97) hX dTR_readPart_83 (by decide) ?_ ?_
        · refine k_aload_n hX dTR_readPart_97 rfl ?_
          refine k_iconst hX dTR_readPart_98 ?_
          refine k_aload_n hX dTR_readPart_99 rfl ?_
          refine gf_126 hX dTR_readPart_100 ?_
          refine cl_66 hX (by decide) (Nat.le_of_ble_eq_true rfl) dTR_readPart_103 (fun _ τ6 => ?_)
          refine k_less [true, false] (L' := [lq 1, none]) rfl ?_
          exact tTR_readPart_J106 hX hR τ6 hT
        · refine k_aload_n hX dTR_readPart_86 rfl ?_
          refine cl_71 hX (by decide) (Nat.le_of_ble_eq_true rfl) dTR_readPart_87 (fun _ τ7 => ?_)
          refine k_aload_n hX dTR_readPart_90 rfl ?_
          refine cl_77 hX (by decide) (Nat.le_of_ble_eq_true rfl) dTR_readPart_91 (fun _ τ8 => ?_)
          refine k_goto (tgt := 106) hX dTR_readPart_94 (by decide) ?_
          refine k_less [true, false] (L' := [lq 1, none]) rfl ?_
          exact tTR_readPart_J106 hX hR τ8 hT
      · refine k_aload_n hX dTR_readPart_58 rfl ?_
        refine k_dupr hX dTR_readPart_59 ?_
        refine gf_126 hX dTR_readPart_60 ?_
        refine k_iconst hX dTR_readPart_63 ?_
        refine k_iadd hX dTR_readPart_64 ?_
        refine gp_118 hX dTR_readPart_65 (fun τ9 => ?_)
        refine k_aload_n hX dTR_readPart_68 rfl ?_
        refine cl_78 hX (by decide) (Nat.le_of_ble_eq_true rfl) dTR_readPart_69 (fun _ τ10 => ?_)
        refine k_aload_n hX dTR_readPart_72 rfl ?_
        refine cl_77 hX (by decide) (Nat.le_of_ble_eq_true rfl) dTR_readPart_73 (fun _ τ11 => ?_)
        refine k_goto (tgt := 106) hX dTR_readPart_76 (by decide) ?_
        refine k_less [true, false] (L' := [lq 1, none]) rfl ?_
        exact tTR_readPart_J106 hX hR τ11 hT
    · refine k_aload_n hX dTR_readPart_35 rfl ?_
      refine k_dupr hX dTR_readPart_36 ?_
      refine gf_126 hX dTR_readPart_37 ?_
      refine k_iconst hX dTR_readPart_40 ?_
      refine k_iadd hX dTR_readPart_41 ?_
      refine gp_118 hX dTR_readPart_42 (fun τ12 => ?_)
      refine k_aload_n hX dTR_readPart_45 rfl ?_
      refine cl_77 hX (by decide) (Nat.le_of_ble_eq_true rfl) dTR_readPart_46 (fun _ τ13 => ?_)
      refine k_goto (tgt := 106) hX dTR_readPart_49 (by decide) ?_
      refine k_less [true, false] (L' := [lq 1, none]) rfl ?_
      exact tTR_readPart_J106 hX hR τ13 hT
  · refine k_aload_n hX dTR_readPart_16 rfl ?_
    refine k_dupr hX dTR_readPart_17 ?_
    refine gf_126 hX dTR_readPart_18 ?_
    refine k_iconst hX dTR_readPart_21 ?_
    refine k_iadd hX dTR_readPart_22 ?_
    refine gp_118 hX dTR_readPart_23 (fun τ14 => ?_)
    refine k_goto (tgt := 106) hX dTR_readPart_26 (by decide) ?_
    refine k_less [true, false] (L' := [lq 1, none]) rfl ?_
    exact tTR_readPart_J106 hX hR τ14 hT
theorem cl_79 {X : KC} {d n : Nat} {cc : ByteArray} {pc : Nat} {L : List (Option KV)} {st : List KV} {σ : KM} {Z : Type} {Θ : Z → Prop} {G : Int → KM → Option Z} (hX : kOk X d cc n "KeyPath$TextReader") (hdd : 5 + 1 ≤ d) (hst : k_cat st ≤ 8) (hd : decode cc pc = .ok (.invokevirtual 57, 3)) (h : ∀ r τ, kJ X (pc + 3) L (st) τ (G r τ) Θ) : kJ X pc L (kr 1 :: st) σ (kCall (fTR_readPart σ) G) Θ :=
  k_callV (np := 0) (av := []) (ret := none) hX (by decide) rfl rfl rfl (sTR_readPart σ) ⟨⟨hdd, by decide⟩, tw_388, tw_2, by decide +kernel⟩ rfl tw_385 tw_387 ts_1 hst hd h
theorem dTR_read_0 : decode prog_8_method_3_code 0 = .ok (.aload_n 0, 1) := by decide +kernel
theorem dTR_read_1 : decode prog_8_method_3_code 1 = .ok (.iload_n 1, 1) := by decide +kernel
theorem dTR_read_2 : decode prog_8_method_3_code 2 = .ok (.aload_n 0, 1) := by decide +kernel
theorem dTR_read_3 : decode prog_8_method_3_code 3 = .ok (.getfield 29, 3) := by decide +kernel
theorem dTR_read_6 : decode prog_8_method_3_code 6 = .ok (.invokestatic 32, 3) := by decide +kernel
theorem dTR_read_9 : decode prog_8_method_3_code 9 = .ok (.putfield 38, 3) := by decide +kernel
theorem dTR_read_12 : decode prog_8_method_3_code 12 = .ok (.aload_n 0, 1) := by decide +kernel
theorem dTR_read_13 : decode prog_8_method_3_code 13 = .ok (.iconst 0, 1) := by decide +kernel
theorem dTR_read_14 : decode prog_8_method_3_code 14 = .ok (.putfield 41, 3) := by decide +kernel
theorem dTR_read_17 : decode prog_8_method_3_code 17 = .ok (.aload_n 0, 1) := by decide +kernel
theorem dTR_read_18 : decode prog_8_method_3_code 18 = .ok (.iconst 0, 1) := by decide +kernel
theorem dTR_read_19 : decode prog_8_method_3_code 19 = .ok (.putfield 44, 3) := by decide +kernel
theorem dTR_read_22 : decode prog_8_method_3_code 22 = .ok (.aload_n 0, 1) := by decide +kernel
theorem dTR_read_23 : decode prog_8_method_3_code 23 = .ok (.iconst 0, 1) := by decide +kernel
theorem dTR_read_24 : decode prog_8_method_3_code 24 = .ok (.putfield 47, 3) := by decide +kernel
theorem dTR_read_27 : decode prog_8_method_3_code 27 = .ok (.aload_n 0, 1) := by decide +kernel
theorem dTR_read_28 : decode prog_8_method_3_code 28 = .ok (.iconst (-1), 1) := by decide +kernel
theorem dTR_read_29 : decode prog_8_method_3_code 29 = .ok (.putfield 22, 3) := by decide +kernel
theorem dTR_read_32 : decode prog_8_method_3_code 32 = .ok (.aload_n 0, 1) := by decide +kernel
theorem dTR_read_33 : decode prog_8_method_3_code 33 = .ok (.getfield 18, 3) := by decide +kernel
theorem dTR_read_36 : decode prog_8_method_3_code 36 = .ok (.iconst 0, 1) := by decide +kernel
theorem dTR_read_37 : decode prog_8_method_3_code 37 = .ok (.putfield 50, 3) := by decide +kernel
theorem dTR_read_40 : decode prog_8_method_3_code 40 = .ok (.iconst 0, 1) := by decide +kernel
theorem dTR_read_41 : decode prog_8_method_3_code 41 = .ok (.istore_n 2, 1) := by decide +kernel
theorem dTR_read_42 : decode prog_8_method_3_code 42 = .ok (.iload_n 2, 1) := by decide +kernel
theorem dTR_read_43 : decode prog_8_method_3_code 43 = .ok (.aload_n 0, 1) := by decide +kernel
theorem dTR_read_44 : decode prog_8_method_3_code 44 = .ok (.getfield 38, 3) := by decide +kernel
theorem dTR_read_47 : decode prog_8_method_3_code 47 = .ok (.if_icmp .gt 31, 3) := by decide +kernel
theorem dTR_read_50 : decode prog_8_method_3_code 50 = .ok (.aload_n 0, 1) := by decide +kernel
theorem dTR_read_51 : decode prog_8_method_3_code 51 = .ok (.getfield 47, 3) := by decide +kernel
theorem dTR_read_54 : decode prog_8_method_3_code 54 = .ok (.ifCond .ne 24, 3) := by decide +kernel
theorem dTR_read_57 : decode prog_8_method_3_code 57 = .ok (.aload_n 0, 1) := by decide +kernel
theorem dTR_read_58 : decode prog_8_method_3_code 58 = .ok (.invokevirtual 53, 3) := by decide +kernel
theorem dTR_read_61 : decode prog_8_method_3_code 61 = .ok (.iconst (-1), 1) := by decide +kernel
theorem dTR_read_62 : decode prog_8_method_3_code 62 = .ok (.if_icmp .ne 6, 3) := by decide +kernel
theorem dTR_read_65 : decode prog_8_method_3_code 65 = .ok (.goto 13, 3) := by decide +kernel
theorem dTR_read_68 : decode prog_8_method_3_code 68 = .ok (.aload_n 0, 1) := by decide +kernel
theorem dTR_read_69 : decode prog_8_method_3_code 69 = .ok (.invokevirtual 57, 3) := by decide +kernel
theorem dTR_read_72 : decode prog_8_method_3_code 72 = .ok (.iinc 2 1, 3) := by decide +kernel
theorem dTR_read_75 : decode prog_8_method_3_code 75 = .ok (.goto (-33), 3) := by decide +kernel
theorem dTR_read_78 : decode prog_8_method_3_code 78 = .ok (.aload_n 0, 1) := by decide +kernel
theorem dTR_read_79 : decode prog_8_method_3_code 79 = .ok (.iconst 0, 1) := by decide +kernel
theorem dTR_read_80 : decode prog_8_method_3_code 80 = .ok (.putfield 29, 3) := by decide +kernel
theorem dTR_read_83 : decode prog_8_method_3_code 83 = .ok (.return_, 1) := by decide +kernel
set_option maxRecDepth 100000 in
set_option maxHeartbeats 4000000 in
theorem tTR_read_J78 {X : KC} {q : Int × KM} (hX : kOk X 6 prog_8_method_3_code 3 "KeyPath$TextReader") (hR : kRet X none q) (σ : KM) {Θ : (Int × KM) → Prop} (hT : ∀ z, Θ (z) → z = q) : kJ X 78 [lq 1, none, none] [] σ (fTR_read_J78 σ) Θ := by
  refine k_aload_n hX dTR_read_78 rfl ?_
  refine k_iconst hX dTR_read_79 ?_
  refine gp_103 hX dTR_read_80 (fun τ1 => ?_)
  exact k_vret hX hR hT dTR_read_83
set_option maxRecDepth 100000 in
set_option maxHeartbeats 4000000 in
theorem tTR_read_J65 {X : KC} {q : Int × KM} (hX : kOk X 6 prog_8_method_3_code 3 "KeyPath$TextReader") (hR : kRet X none q) (σ : KM) {Θ : (Int × KM) → Prop} (hT : ∀ z, Θ (z) → z = q) : kJ X 65 [lq 1, none, none] [] σ (fTR_read_J65 σ) Θ := by
  refine k_goto (tgt := 78) hX dTR_read_65 (by decide) ?_
  exact tTR_read_J78 hX hR σ hT
set_option maxRecDepth 100000 in
set_option maxHeartbeats 4000000 in
theorem tTR_read_B42 {X : KC} {q : Int × KM} (hX : kOk X 6 prog_8_method_3_code 3 "KeyPath$TextReader") (hR : kRet X none q) (x2 : Int) (σ : KM) {Θ : ((Int × KM) ⊕ (Int × KM)) → Prop} (hT : ∀ z, Θ (.inr (z)) → z = q) (hb0 : ∀ s : Int × KM, Θ (.inl s) → kW X 42 [lq 1, none, li s.1] [] s.2) : kJ X 42 [lq 1, none, li x2] [] σ (fTR_read_B42 x2 σ) Θ := by
  refine k_iload_n hX dTR_read_42 rfl ?_
  refine k_aload_n hX dTR_read_43 rfl ?_
  refine gf_124 hX dTR_read_44 ?_
  refine k_icmp_gt (tgt := 78) hX dTR_read_47 (by decide) ?_ ?_
  · refine k_exit ?_
    refine k_less [true, true, false] (L' := [lq 1, none, none]) rfl ?_
    exact tTR_read_J78 hX hR σ hT
  · refine k_aload_n hX dTR_read_50 rfl ?_
    refine gf_125 hX dTR_read_51 ?_
    refine k_if_ne (tgt := 78) hX dTR_read_54 (by decide) ?_ ?_
    · refine k_exit ?_
      refine k_less [true, true, false] (L' := [lq 1, none, none]) rfl ?_
      exact tTR_read_J78 hX hR σ hT
    · refine k_aload_n hX dTR_read_57 rfl ?_
      refine cl_64 hX (by decide) (Nat.le_of_ble_eq_true rfl) dTR_read_58 (fun r2 τ1 => ?_)
      refine k_iconst hX dTR_read_61 ?_
      refine k_icmp_ne (tgt := 68) hX dTR_read_62 (by decide) ?_ ?_
      · refine k_aload_n hX dTR_read_68 rfl ?_
        refine cl_79 hX (by decide) (Nat.le_of_ble_eq_true rfl) dTR_read_69 (fun _ τ3 => ?_)
        refine k_iincL (Lf := fun y4 => [lq 1, none, li y4]) hX dTR_read_72 rfl (by decide) rfl (fun _ => rfl) (fun y4 => ?_)
        refine k_goto (tgt := 42) hX dTR_read_75 (by decide) ?_
        exact k_back (hb0 (y4, τ3))
      · refine k_exit ?_
        refine k_less [true, true, false] (L' := [lq 1, none, none]) rfl ?_
        exact tTR_read_J65 hX hR τ1 hT
set_option maxRecDepth 100000 in
set_option maxHeartbeats 4000000 in
theorem tTR_read_L42 {X : KC} {q : Int × KM} (hX : kOk X 6 prog_8_method_3_code 3 "KeyPath$TextReader") (hR : kRet X none q) (x2 : Int) (σ : KM) {Θ : (Int × KM) → Prop} (hT : ∀ z, Θ (z) → z = q) : kJ X 42 [lq 1, none, li x2] [] σ (fTR_read_L42 x2 σ) Θ :=
  k_iter (f := fun s => fTR_read_B42 s.1 s.2) (Lf := fun s => [lq 1, none, li s.1]) (mf := fun s => s.2) (Θ := Θ) (fun s => tTR_read_B42 hX hR s.1 s.2 hT (fun _ h9 => h9)) kF (x2, σ)
set_option maxRecDepth 100000 in
set_option maxHeartbeats 4000000 in
theorem sTR_read (x1 : Int) (σ : KM) : kSem 6 (⟨"KeyPath$TextReader", "read", "(I)V"⟩ : MethodName) prog_8_method_3_code 3 none [kr 1, ki x1] σ (fTR_read x1 σ) := by
  refine kSem.of (L0 := [lq 1, li x1, none]) (by decide) (Nat.le_of_ble_eq_true rfl) rfl (fun X q hX hR => ?_)
  have hT : ∀ z : Int × KM, (fun z => z = q) z → z = q := fun _ h => h
  refine k_aload_n hX dTR_read_0 rfl ?_
  refine k_iload_n hX dTR_read_1 rfl ?_
  refine k_aload_n hX dTR_read_2 rfl ?_
  refine gf_101 hX dTR_read_3 ?_
  refine k_mmin hX (by decide) (Nat.le_of_ble_eq_true rfl) tw_378 tw_379 tw_12 tw_380 dTR_read_6 (fun y1 => ?_)
  refine gp_117 hX dTR_read_9 (fun τ2 => ?_)
  refine k_aload_n hX dTR_read_12 rfl ?_
  refine k_iconst hX dTR_read_13 ?_
  refine gp_118 hX dTR_read_14 (fun τ3 => ?_)
  refine k_aload_n hX dTR_read_17 rfl ?_
  refine k_iconst hX dTR_read_18 ?_
  refine gp_119 hX dTR_read_19 (fun τ4 => ?_)
  refine k_aload_n hX dTR_read_22 rfl ?_
  refine k_iconst hX dTR_read_23 ?_
  refine gp_120 hX dTR_read_24 (fun τ5 => ?_)
  refine k_aload_n hX dTR_read_27 rfl ?_
  refine k_iconst hX dTR_read_28 ?_
  refine gp_121 hX dTR_read_29 (fun τ6 => ?_)
  refine k_aload_n hX dTR_read_32 rfl ?_
  refine gf_122 hX dTR_read_33 ?_
  refine k_iconst hX dTR_read_36 ?_
  refine gp_123 hX dTR_read_37 (fun τ7 => ?_)
  refine k_iconst hX dTR_read_40 ?_
  refine k_istore_n (L' := [lq 1, li x1, li 0]) hX dTR_read_41 rfl (by decide) rfl ?_
  refine k_less [true, false, true] (L' := [lq 1, none, li 0]) rfl ?_
  exact tTR_read_L42 hX hR 0 τ7 hT
theorem cl_80 {X : KC} {d n : Nat} {cc : ByteArray} {pc : Nat} {L : List (Option KV)} {st : List KV} {σ : KM} {Z : Type} {Θ : Z → Prop} {G : Int → KM → Option Z} {x1 : Int} (hX : kOk X d cc n "KeyPath") (hdd : 6 + 1 ≤ d) (hst : k_cat st ≤ 8) (hd : decode cc pc = .ok (.invokevirtual 73, 3)) (h : ∀ r τ, kJ X (pc + 3) L (st) τ (G r τ) Θ) : kJ X pc L (ki x1 :: kr 1 :: st) σ (kCall (fTR_read x1 σ) G) Θ :=
  k_callV (np := 1) (av := [ki x1]) (ret := none) hX (by decide) rfl rfl rfl (sTR_read _ σ) ⟨⟨hdd, by decide⟩, tw_377, tw_2, by decide +kernel⟩ rfl tw_374 tw_375 tw_376 hst hd h
theorem dNo_become_0 : decode prog_5_method_10_code 0 = .ok (.aload_n 1, 1) := by decide +kernel
theorem dNo_become_1 : decode prog_5_method_10_code 1 = .ok (.getfield 9, 3) := by decide +kernel
theorem dNo_become_4 : decode prog_5_method_10_code 4 = .ok (.iconst 0, 1) := by decide +kernel
theorem dNo_become_5 : decode prog_5_method_10_code 5 = .ok (.aload_n 0, 1) := by decide +kernel
theorem dNo_become_6 : decode prog_5_method_10_code 6 = .ok (.getfield 9, 3) := by decide +kernel
theorem dNo_become_9 : decode prog_5_method_10_code 9 = .ok (.iconst 0, 1) := by decide +kernel
theorem dNo_become_10 : decode prog_5_method_10_code 10 = .ok (.bipush 100, 2) := by decide +kernel
theorem dNo_become_12 : decode prog_5_method_10_code 12 = .ok (.invokestatic 29, 3) := by decide +kernel
theorem dNo_become_15 : decode prog_5_method_10_code 15 = .ok (.aload_n 1, 1) := by decide +kernel
theorem dNo_become_16 : decode prog_5_method_10_code 16 = .ok (.getfield 15, 3) := by decide +kernel
theorem dNo_become_19 : decode prog_5_method_10_code 19 = .ok (.iconst 0, 1) := by decide +kernel
theorem dNo_become_20 : decode prog_5_method_10_code 20 = .ok (.aload_n 0, 1) := by decide +kernel
theorem dNo_become_21 : decode prog_5_method_10_code 21 = .ok (.getfield 15, 3) := by decide +kernel
theorem dNo_become_24 : decode prog_5_method_10_code 24 = .ok (.iconst 0, 1) := by decide +kernel
theorem dNo_become_25 : decode prog_5_method_10_code 25 = .ok (.bipush 100, 2) := by decide +kernel
theorem dNo_become_27 : decode prog_5_method_10_code 27 = .ok (.invokestatic 29, 3) := by decide +kernel
theorem dNo_become_30 : decode prog_5_method_10_code 30 = .ok (.aload_n 1, 1) := by decide +kernel
theorem dNo_become_31 : decode prog_5_method_10_code 31 = .ok (.getfield 18, 3) := by decide +kernel
theorem dNo_become_34 : decode prog_5_method_10_code 34 = .ok (.iconst 0, 1) := by decide +kernel
theorem dNo_become_35 : decode prog_5_method_10_code 35 = .ok (.aload_n 0, 1) := by decide +kernel
theorem dNo_become_36 : decode prog_5_method_10_code 36 = .ok (.getfield 18, 3) := by decide +kernel
theorem dNo_become_39 : decode prog_5_method_10_code 39 = .ok (.iconst 0, 1) := by decide +kernel
theorem dNo_become_40 : decode prog_5_method_10_code 40 = .ok (.bipush 100, 2) := by decide +kernel
theorem dNo_become_42 : decode prog_5_method_10_code 42 = .ok (.invokestatic 29, 3) := by decide +kernel
theorem dNo_become_45 : decode prog_5_method_10_code 45 = .ok (.aload_n 0, 1) := by decide +kernel
theorem dNo_become_46 : decode prog_5_method_10_code 46 = .ok (.aload_n 1, 1) := by decide +kernel
theorem dNo_become_47 : decode prog_5_method_10_code 47 = .ok (.getfield 21, 3) := by decide +kernel
theorem dNo_become_50 : decode prog_5_method_10_code 50 = .ok (.putfield 21, 3) := by decide +kernel
theorem dNo_become_53 : decode prog_5_method_10_code 53 = .ok (.return_, 1) := by decide +kernel
set_option maxRecDepth 100000 in
set_option maxHeartbeats 4000000 in
theorem sNo_become (σ : KM) : kSem 1 (⟨"KeyPath$Notes", "become", "(LKeyPath$Notes;)V"⟩ : MethodName) prog_5_method_10_code 2 none [kr 3, kr 2] σ (fNo_become σ) := by
  refine kSem.of (L0 := [lq 3, lq 2]) (by decide) (Nat.le_of_ble_eq_true rfl) rfl (fun X q hX hR => ?_)
  have hT : ∀ z : Int × KM, (fun z => z = q) z → z = q := fun _ h => h
  refine k_aload_n hX dNo_become_0 rfl ?_
  refine gf_133 hX dNo_become_1 ?_
  refine k_iconst hX dNo_become_4 ?_
  refine k_aload_n hX dNo_become_5 rfl ?_
  refine gf_4 hX dNo_become_6 ?_
  refine k_iconst hX dNo_become_9 ?_
  refine k_bipush hX dNo_become_10 (by decide) ?_
  refine k_copy hX (by decide) (Nat.le_of_ble_eq_true rfl) (by decide) (by decide) rfl rfl tw_423 tw_425 tw_424 tw_13 dNo_become_12 rfl rfl (fun τ1 => ?_)
  refine k_aload_n hX dNo_become_15 rfl ?_
  refine gf_135 hX dNo_become_16 ?_
  refine k_iconst hX dNo_become_19 ?_
  refine k_aload_n hX dNo_become_20 rfl ?_
  refine gf_5 hX dNo_become_21 ?_
  refine k_iconst hX dNo_become_24 ?_
  refine k_bipush hX dNo_become_25 (by decide) ?_
  refine k_copy hX (by decide) (Nat.le_of_ble_eq_true rfl) (by decide) (by decide) rfl rfl tw_423 tw_425 tw_424 tw_13 dNo_become_27 rfl rfl (fun τ2 => ?_)
  refine k_aload_n hX dNo_become_30 rfl ?_
  refine gf_134 hX dNo_become_31 ?_
  refine k_iconst hX dNo_become_34 ?_
  refine k_aload_n hX dNo_become_35 rfl ?_
  refine gf_95 hX dNo_become_36 ?_
  refine k_iconst hX dNo_become_39 ?_
  refine k_bipush hX dNo_become_40 (by decide) ?_
  refine k_copy hX (by decide) (Nat.le_of_ble_eq_true rfl) (by decide) (by decide) rfl rfl tw_423 tw_425 tw_424 tw_13 dNo_become_42 rfl rfl (fun τ3 => ?_)
  refine k_aload_n hX dNo_become_45 rfl ?_
  refine k_aload_n hX dNo_become_46 rfl ?_
  refine gf_132 hX dNo_become_47 ?_
  refine gp_96 hX dNo_become_50 (fun τ4 => ?_)
  exact k_vret hX hR hT dNo_become_53
theorem cl_81 {X : KC} {d n : Nat} {cc : ByteArray} {pc : Nat} {L : List (Option KV)} {st : List KV} {σ : KM} {Z : Type} {Θ : Z → Prop} {G : Int → KM → Option Z} (hX : kOk X d cc n "KeyPath") (hdd : 1 + 1 ≤ d) (hst : k_cat st ≤ 8) (hd : decode cc pc = .ok (.invokevirtual 82, 3)) (h : ∀ r τ, kJ X (pc + 3) L (st) τ (G r τ) Θ) : kJ X pc L (kr 2 :: kr 3 :: st) σ (kCall (fNo_become σ) G) Θ :=
  k_callV (np := 1) (av := [kr 2]) (ret := none) hX (by decide) rfl rfl rfl (sNo_become σ) ⟨⟨hdd, by decide⟩, tw_450, tw_3, by decide +kernel⟩ rfl tw_447 tw_448 tw_449 hst hd h
theorem dHi_forget_0 : decode prog_3_method_5_code 0 = .ok (.aload_n 0, 1) := by decide +kernel
theorem dHi_forget_1 : decode prog_3_method_5_code 1 = .ok (.iconst 0, 1) := by decide +kernel
theorem dHi_forget_2 : decode prog_3_method_5_code 2 = .ok (.putfield 27, 3) := by decide +kernel
theorem dHi_forget_5 : decode prog_3_method_5_code 5 = .ok (.return_, 1) := by decide +kernel
set_option maxRecDepth 100000 in
set_option maxHeartbeats 4000000 in
theorem sHi_forget (σ : KM) : kSem 1 (⟨"KeyPath$History", "forget", "()V"⟩ : MethodName) prog_3_method_5_code 1 none [kr 4] σ (fHi_forget σ) := by
  refine kSem.of (L0 := [lq 4]) (by decide) (Nat.le_of_ble_eq_true rfl) rfl (fun X q hX hR => ?_)
  have hT : ∀ z : Int × KM, (fun z => z = q) z → z = q := fun _ h => h
  refine k_aload_n hX dHi_forget_0 rfl ?_
  refine k_iconst hX dHi_forget_1 ?_
  refine gp_94 hX dHi_forget_2 (fun τ1 => ?_)
  exact k_vret hX hR hT dHi_forget_5
theorem cl_82 {X : KC} {d n : Nat} {cc : ByteArray} {pc : Nat} {L : List (Option KV)} {st : List KV} {σ : KM} {Z : Type} {Θ : Z → Prop} {G : Int → KM → Option Z} (hX : kOk X d cc n "KeyPath") (hdd : 1 + 1 ≤ d) (hst : k_cat st ≤ 8) (hd : decode cc pc = .ok (.invokevirtual 86, 3)) (h : ∀ r τ, kJ X (pc + 3) L (st) τ (G r τ) Θ) : kJ X pc L (kr 4 :: st) σ (kCall (fHi_forget σ) G) Θ :=
  k_callV (np := 0) (av := []) (ret := none) hX (by decide) rfl rfl rfl (sHi_forget σ) ⟨⟨hdd, by decide⟩, tw_454, tw_4, by decide +kernel⟩ rfl tw_451 tw_452 tw_453 hst hd h
theorem dP_load_0 : decode prog_1_method_3_code 0 = .ok (.iload_n 1, 1) := by decide +kernel
theorem dP_load_1 : decode prog_1_method_3_code 1 = .ok (.ifCond .lt 14, 3) := by decide +kernel
theorem dP_load_4 : decode prog_1_method_3_code 4 = .ok (.iload_n 1, 1) := by decide +kernel
theorem dP_load_5 : decode prog_1_method_3_code 5 = .ok (.aload_n 0, 1) := by decide +kernel
theorem dP_load_6 : decode prog_1_method_3_code 6 = .ok (.getfield 12, 3) := by decide +kernel
theorem dP_load_9 : decode prog_1_method_3_code 9 = .ok (.getfield 65, 3) := by decide +kernel
theorem dP_load_12 : decode prog_1_method_3_code 12 = .ok (.if_icmp .le 6, 3) := by decide +kernel
theorem dP_load_15 : decode prog_1_method_3_code 15 = .ok (.bipush (-3), 2) := by decide +kernel
theorem dP_load_17 : decode prog_1_method_3_code 17 = .ok (.ireturn, 1) := by decide +kernel
theorem dP_load_18 : decode prog_1_method_3_code 18 = .ok (.aload_n 0, 1) := by decide +kernel
theorem dP_load_19 : decode prog_1_method_3_code 19 = .ok (.getfield 12, 3) := by decide +kernel
theorem dP_load_22 : decode prog_1_method_3_code 22 = .ok (.iload_n 1, 1) := by decide +kernel
theorem dP_load_23 : decode prog_1_method_3_code 23 = .ok (.invokevirtual 73, 3) := by decide +kernel
theorem dP_load_26 : decode prog_1_method_3_code 26 = .ok (.aload_n 0, 1) := by decide +kernel
theorem dP_load_27 : decode prog_1_method_3_code 27 = .ok (.getfield 12, 3) := by decide +kernel
theorem dP_load_30 : decode prog_1_method_3_code 30 = .ok (.getfield 76, 3) := by decide +kernel
theorem dP_load_33 : decode prog_1_method_3_code 33 = .ok (.ifCond .eq 14, 3) := by decide +kernel
theorem dP_load_36 : decode prog_1_method_3_code 36 = .ok (.bipush (-30), 2) := by decide +kernel
theorem dP_load_38 : decode prog_1_method_3_code 38 = .ok (.aload_n 0, 1) := by decide +kernel
theorem dP_load_39 : decode prog_1_method_3_code 39 = .ok (.getfield 12, 3) := by decide +kernel
theorem dP_load_42 : decode prog_1_method_3_code 42 = .ok (.getfield 76, 3) := by decide +kernel
theorem dP_load_45 : decode prog_1_method_3_code 45 = .ok (.isub, 1) := by decide +kernel
theorem dP_load_46 : decode prog_1_method_3_code 46 = .ok (.ireturn, 1) := by decide +kernel
theorem dP_load_47 : decode prog_1_method_3_code 47 = .ok (.aload_n 0, 1) := by decide +kernel
theorem dP_load_48 : decode prog_1_method_3_code 48 = .ok (.getfield 19, 3) := by decide +kernel
theorem dP_load_51 : decode prog_1_method_3_code 51 = .ok (.aload_n 0, 1) := by decide +kernel
theorem dP_load_52 : decode prog_1_method_3_code 52 = .ok (.getfield 12, 3) := by decide +kernel
theorem dP_load_55 : decode prog_1_method_3_code 55 = .ok (.getfield 79, 3) := by decide +kernel
theorem dP_load_58 : decode prog_1_method_3_code 58 = .ok (.invokevirtual 82, 3) := by decide +kernel
theorem dP_load_61 : decode prog_1_method_3_code 61 = .ok (.aload_n 0, 1) := by decide +kernel
theorem dP_load_62 : decode prog_1_method_3_code 62 = .ok (.getfield 26, 3) := by decide +kernel
theorem dP_load_65 : decode prog_1_method_3_code 65 = .ok (.invokevirtual 86, 3) := by decide +kernel
theorem dP_load_68 : decode prog_1_method_3_code 68 = .ok (.aload_n 0, 1) := by decide +kernel
theorem dP_load_69 : decode prog_1_method_3_code 69 = .ok (.invokevirtual 89, 3) := by decide +kernel
theorem dP_load_72 : decode prog_1_method_3_code 72 = .ok (.aload_n 0, 1) := by decide +kernel
theorem dP_load_73 : decode prog_1_method_3_code 73 = .ok (.getfield 19, 3) := by decide +kernel
theorem dP_load_76 : decode prog_1_method_3_code 76 = .ok (.getfield 92, 3) := by decide +kernel
theorem dP_load_79 : decode prog_1_method_3_code 79 = .ok (.ireturn, 1) := by decide +kernel
set_option maxRecDepth 100000 in
set_option maxHeartbeats 4000000 in
theorem tP_load_J15 {X : KC} {q : Int × KM} (hX : kOk X 7 prog_1_method_3_code 2 "KeyPath") (hR : kRet X (some .int) q) (σ : KM) {Θ : (Int × KM) → Prop} (hT : ∀ z, Θ (z) → z = q) : kJ X 15 [lq 0, none] [] σ (fP_load_J15 σ) Θ := by
  refine k_bipush hX dP_load_15 (by decide) ?_
  exact k_iret hX hR hT dP_load_17
set_option maxRecDepth 100000 in
set_option maxHeartbeats 4000000 in
theorem sP_load (x1 : Int) (σ : KM) : kSem 7 (⟨"KeyPath", "load", "(I)I"⟩ : MethodName) prog_1_method_3_code 2 (some .int) [kr 0, ki x1] σ (fP_load x1 σ) := by
  refine kSem.of (L0 := [lq 0, li x1]) (by decide) (Nat.le_of_ble_eq_true rfl) rfl (fun X q hX hR => ?_)
  have hT : ∀ z : Int × KM, (fun z => z = q) z → z = q := fun _ h => h
  refine k_iload_n hX dP_load_0 rfl ?_
  refine k_if_lt (tgt := 15) hX dP_load_1 (by decide) ?_ ?_
  · refine k_less [true, false] (L' := [lq 0, none]) rfl ?_
    exact tP_load_J15 hX hR σ hT
  · refine k_iload_n hX dP_load_4 rfl ?_
    refine k_aload_n hX dP_load_5 rfl ?_
    refine gf_77 hX dP_load_6 ?_
    refine gf_78 hX dP_load_9 ?_
    refine k_icmp_le (tgt := 18) hX dP_load_12 (by decide) ?_ ?_
    · refine k_aload_n hX dP_load_18 rfl ?_
      refine gf_77 hX dP_load_19 ?_
      refine k_iload_n hX dP_load_22 rfl ?_
      refine cl_80 hX (by decide) (Nat.le_of_ble_eq_true rfl) dP_load_23 (fun _ τ1 => ?_)
      refine k_aload_n hX dP_load_26 rfl ?_
      refine gf_77 hX dP_load_27 ?_
      refine gf_100 hX dP_load_30 ?_
      refine k_if_eq (tgt := 47) hX dP_load_33 (by decide) ?_ ?_
      · refine k_aload_n hX dP_load_47 rfl ?_
        refine gf_2 hX dP_load_48 ?_
        refine k_aload_n hX dP_load_51 rfl ?_
        refine gf_77 hX dP_load_52 ?_
        refine gf_137 hX dP_load_55 ?_
        refine cl_81 hX (by decide) (Nat.le_of_ble_eq_true rfl) dP_load_58 (fun _ τ2 => ?_)
        refine k_aload_n hX dP_load_61 rfl ?_
        refine gf_75 hX dP_load_62 ?_
        refine cl_82 hX (by decide) (Nat.le_of_ble_eq_true rfl) dP_load_65 (fun _ τ3 => ?_)
        refine k_aload_n hX dP_load_68 rfl ?_
        refine cl_50 hX (by decide) (Nat.le_of_ble_eq_true rfl) dP_load_69 (fun _ τ4 => ?_)
        refine k_aload_n hX dP_load_72 rfl ?_
        refine gf_2 hX dP_load_73 ?_
        refine gf_74 hX dP_load_76 ?_
        exact k_iret hX hR hT dP_load_79
      · refine k_bipush hX dP_load_36 (by decide) ?_
        refine k_aload_n hX dP_load_38 rfl ?_
        refine gf_77 hX dP_load_39 ?_
        refine gf_100 hX dP_load_42 ?_
        refine k_isub hX dP_load_45 ?_
        exact k_iret hX hR hT dP_load_46
    · refine k_less [true, false] (L' := [lq 0, none]) rfl ?_
      exact tP_load_J15 hX hR σ hT
theorem dP_commonDivisor_0 : decode prog_1_method_59_code 0 = .ok (.iload_n 0, 1) := by decide +kernel
theorem dP_commonDivisor_1 : decode prog_1_method_59_code 1 = .ok (.istore_n 2, 1) := by decide +kernel
theorem dP_commonDivisor_2 : decode prog_1_method_59_code 2 = .ok (.iload_n 1, 1) := by decide +kernel
theorem dP_commonDivisor_3 : decode prog_1_method_59_code 3 = .ok (.istore_n 3, 1) := by decide +kernel
theorem dP_commonDivisor_4 : decode prog_1_method_59_code 4 = .ok (.iconst 0, 1) := by decide +kernel
theorem dP_commonDivisor_5 : decode prog_1_method_59_code 5 = .ok (.istore 4, 2) := by decide +kernel
theorem dP_commonDivisor_7 : decode prog_1_method_59_code 7 = .ok (.iload 4, 2) := by decide +kernel
theorem dP_commonDivisor_9 : decode prog_1_method_59_code 9 = .ok (.bipush 64, 2) := by decide +kernel
theorem dP_commonDivisor_11 : decode prog_1_method_59_code 11 = .ok (.if_icmp .ge 23, 3) := by decide +kernel
theorem dP_commonDivisor_14 : decode prog_1_method_59_code 14 = .ok (.iload_n 3, 1) := by decide +kernel
theorem dP_commonDivisor_15 : decode prog_1_method_59_code 15 = .ok (.ifCond .eq 19, 3) := by decide +kernel
theorem dP_commonDivisor_18 : decode prog_1_method_59_code 18 = .ok (.iload_n 2, 1) := by decide +kernel
theorem dP_commonDivisor_19 : decode prog_1_method_59_code 19 = .ok (.iload_n 3, 1) := by decide +kernel
theorem dP_commonDivisor_20 : decode prog_1_method_59_code 20 = .ok (.irem, 1) := by decide +kernel
theorem dP_commonDivisor_21 : decode prog_1_method_59_code 21 = .ok (.istore 5, 2) := by decide +kernel
theorem dP_commonDivisor_23 : decode prog_1_method_59_code 23 = .ok (.iload_n 3, 1) := by decide +kernel
theorem dP_commonDivisor_24 : decode prog_1_method_59_code 24 = .ok (.istore_n 2, 1) := by decide +kernel
theorem dP_commonDivisor_25 : decode prog_1_method_59_code 25 = .ok (.iload 5, 2) := by decide +kernel
theorem dP_commonDivisor_27 : decode prog_1_method_59_code 27 = .ok (.istore_n 3, 1) := by decide +kernel
theorem dP_commonDivisor_28 : decode prog_1_method_59_code 28 = .ok (.iinc 4 1, 3) := by decide +kernel
theorem dP_commonDivisor_31 : decode prog_1_method_59_code 31 = .ok (.goto (-24), 3) := by decide +kernel
theorem dP_commonDivisor_34 : decode prog_1_method_59_code 34 = .ok (.iload_n 2, 1) := by decide +kernel
theorem dP_commonDivisor_35 : decode prog_1_method_59_code 35 = .ok (.ireturn, 1) := by decide +kernel
set_option maxRecDepth 100000 in
set_option maxHeartbeats 4000000 in
theorem tP_commonDivisor_J34 {X : KC} {q : Int × KM} (hX : kOk X 1 prog_1_method_59_code 6 "KeyPath") (hR : kRet X (some .int) q) (x2 : Int) (σ : KM) {Θ : (Int × KM) → Prop} (hT : ∀ z, Θ (z) → z = q) : kJ X 34 [none, none, li x2, none, none, none] [] σ (fP_commonDivisor_J34 x2 σ) Θ := by
  refine k_iload_n hX dP_commonDivisor_34 rfl ?_
  exact k_iret hX hR hT dP_commonDivisor_35
set_option maxRecDepth 100000 in
set_option maxHeartbeats 4000000 in
theorem tP_commonDivisor_B7 {X : KC} {q : Int × KM} (hX : kOk X 1 prog_1_method_59_code 6 "KeyPath") (hR : kRet X (some .int) q) (x2 x3 x4 : Int) (σ : KM) {Θ : ((Int × Int × Int × KM) ⊕ (Int × KM)) → Prop} (hT : ∀ z, Θ (.inr (z)) → z = q) (hb0 : ∀ s : Int × Int × Int × KM, Θ (.inl s) → kW X 7 [none, none, li s.1, li s.2.1, li s.2.2.1, none] [] s.2.2.2) : kJ X 7 [none, none, li x2, li x3, li x4, none] [] σ (fP_commonDivisor_B7 x2 x3 x4 σ) Θ := by
  refine k_iload hX dP_commonDivisor_7 rfl ?_
  refine k_bipush hX dP_commonDivisor_9 (by decide) ?_
  refine k_icmp_ge (tgt := 34) hX dP_commonDivisor_11 (by decide) ?_ ?_
  · refine k_exit ?_
    refine k_less [true, true, true, false, false, true] (L' := [none, none, li x2, none, none, none]) rfl ?_
    exact tP_commonDivisor_J34 hX hR x2 σ hT
  · refine k_iload_n hX dP_commonDivisor_14 rfl ?_
    refine k_if_eq (tgt := 34) hX dP_commonDivisor_15 (by decide) ?_ ?_
    · refine k_exit ?_
      refine k_less [true, true, true, false, false, true] (L' := [none, none, li x2, none, none, none]) rfl ?_
      exact tP_commonDivisor_J34 hX hR x2 σ hT
    · refine k_iload_n hX dP_commonDivisor_18 rfl ?_
      refine k_iload_n hX dP_commonDivisor_19 rfl ?_
      refine k_irem hX dP_commonDivisor_20 (fun y1 => ?_)
      refine k_istore (L' := [none, none, li x2, li x3, li x4, li y1]) hX dP_commonDivisor_21 rfl (by decide) rfl ?_
      refine k_iload_n hX dP_commonDivisor_23 rfl ?_
      refine k_istore_n (L' := [none, none, li x3, li x3, li x4, li y1]) hX dP_commonDivisor_24 rfl (by decide) rfl ?_
      refine k_iload hX dP_commonDivisor_25 rfl ?_
      refine k_istore_n (L' := [none, none, li x3, li y1, li x4, li y1]) hX dP_commonDivisor_27 rfl (by decide) rfl ?_
      refine k_iincL (Lf := fun y2 => [none, none, li x3, li y1, li y2, li y1]) hX dP_commonDivisor_28 rfl (by decide) rfl (fun _ => rfl) (fun y2 => ?_)
      refine k_goto (tgt := 7) hX dP_commonDivisor_31 (by decide) ?_
      refine k_less [true, true, true, true, true, false] (L' := [none, none, li x3, li y1, li y2, none]) rfl ?_
      exact k_back (hb0 (x3, y1, y2, σ))
set_option maxRecDepth 100000 in
set_option maxHeartbeats 4000000 in
theorem tP_commonDivisor_L7 {X : KC} {q : Int × KM} (hX : kOk X 1 prog_1_method_59_code 6 "KeyPath") (hR : kRet X (some .int) q) (x2 x3 x4 : Int) (σ : KM) {Θ : (Int × KM) → Prop} (hT : ∀ z, Θ (z) → z = q) : kJ X 7 [none, none, li x2, li x3, li x4, none] [] σ (fP_commonDivisor_L7 x2 x3 x4 σ) Θ :=
  k_iter (f := fun s => fP_commonDivisor_B7 s.1 s.2.1 s.2.2.1 s.2.2.2) (Lf := fun s => [none, none, li s.1, li s.2.1, li s.2.2.1, none]) (mf := fun s => s.2.2.2) (Θ := Θ) (fun s => tP_commonDivisor_B7 hX hR s.1 s.2.1 s.2.2.1 s.2.2.2 hT (fun _ h9 => h9)) kF (x2, x3, x4, σ)
set_option maxRecDepth 100000 in
set_option maxHeartbeats 4000000 in
theorem sP_commonDivisor (x0 x1 : Int) (σ : KM) : kSem 1 (⟨"KeyPath", "commonDivisor", "(II)I"⟩ : MethodName) prog_1_method_59_code 6 (some .int) [ki x0, ki x1] σ (fP_commonDivisor x0 x1 σ) := by
  refine kSem.of (L0 := [li x0, li x1, none, none, none, none]) (by decide) (Nat.le_of_ble_eq_true rfl) rfl (fun X q hX hR => ?_)
  have hT : ∀ z : Int × KM, (fun z => z = q) z → z = q := fun _ h => h
  refine k_iload_n hX dP_commonDivisor_0 rfl ?_
  refine k_istore_n (L' := [li x0, li x1, li x0, none, none, none]) hX dP_commonDivisor_1 rfl (by decide) rfl ?_
  refine k_iload_n hX dP_commonDivisor_2 rfl ?_
  refine k_istore_n (L' := [li x0, li x1, li x0, li x1, none, none]) hX dP_commonDivisor_3 rfl (by decide) rfl ?_
  refine k_iconst hX dP_commonDivisor_4 ?_
  refine k_istore (L' := [li x0, li x1, li x0, li x1, li 0, none]) hX dP_commonDivisor_5 rfl (by decide) rfl ?_
  refine k_less [false, false, true, true, true, true] (L' := [none, none, li x0, li x1, li 0, none]) rfl ?_
  exact tP_commonDivisor_L7 hX hR x0 x1 0 σ hT
theorem cl_84 {X : KC} {d n : Nat} {cc : ByteArray} {pc : Nat} {L : List (Option KV)} {st : List KV} {σ : KM} {Z : Type} {Θ : Z → Prop} {G : Int → KM → Option Z} {x0 x1 : Int} (hX : kOk X d cc n "KeyPath") (hdd : 1 + 1 ≤ d) (hst : k_cat st ≤ 8) (hd : decode cc pc = .ok (.invokestatic 209, 3)) (h : ∀ r τ, kJ X (pc + 3) L (ki r :: st) τ (G r τ) Θ) : kJ X pc L (ki x1 :: ki x0 :: st) σ (kCall (fP_commonDivisor x0 x1 σ) G) Θ :=
  k_callS (np := 2) (av := [ki x0, ki x1]) (ret := (some .int)) hX (sP_commonDivisor _ _ σ) ⟨⟨hdd, by decide⟩, tw_615, tw_1, by decide +kernel⟩ rfl tw_613 tw_614 hst hd h
theorem dP_match_0 : decode prog_1_method_15_code 0 = .ok (.aload_n 0, 1) := by decide +kernel
theorem dP_match_1 : decode prog_1_method_15_code 1 = .ok (.iload_n 1, 1) := by decide +kernel
theorem dP_match_2 : decode prog_1_method_15_code 2 = .ok (.invokevirtual 196, 3) := by decide +kernel
theorem dP_match_5 : decode prog_1_method_15_code 5 = .ok (.ifCond .ne 19, 3) := by decide +kernel
theorem dP_match_8 : decode prog_1_method_15_code 8 = .ok (.iload_n 2, 1) := by decide +kernel
theorem dP_match_9 : decode prog_1_method_15_code 9 = .ok (.invokestatic 190, 3) := by decide +kernel
theorem dP_match_12 : decode prog_1_method_15_code 12 = .ok (.ifCond .ne 12, 3) := by decide +kernel
theorem dP_match_15 : decode prog_1_method_15_code 15 = .ok (.iconst 0, 1) := by decide +kernel
theorem dP_match_16 : decode prog_1_method_15_code 16 = .ok (.iconst 1, 1) := by decide +kernel
theorem dP_match_17 : decode prog_1_method_15_code 17 = .ok (.iload_n 3, 1) := by decide +kernel
theorem dP_match_18 : decode prog_1_method_15_code 18 = .ok (.invokestatic 138, 3) := by decide +kernel
theorem dP_match_21 : decode prog_1_method_15_code 21 = .ok (.ifCond .eq 6, 3) := by decide +kernel
theorem dP_match_24 : decode prog_1_method_15_code 24 = .ok (.bipush (-2), 2) := by decide +kernel
theorem dP_match_26 : decode prog_1_method_15_code 26 = .ok (.ireturn, 1) := by decide +kernel
theorem dP_match_27 : decode prog_1_method_15_code 27 = .ok (.aload_n 0, 1) := by decide +kernel
theorem dP_match_28 : decode prog_1_method_15_code 28 = .ok (.getfield 33, 3) := by decide +kernel
theorem dP_match_31 : decode prog_1_method_15_code 31 = .ok (.getfield 199, 3) := by decide +kernel
theorem dP_match_34 : decode prog_1_method_15_code 34 = .ok (.iload_n 1, 1) := by decide +kernel
theorem dP_match_35 : decode prog_1_method_15_code 35 = .ok (.iaload, 1) := by decide +kernel
theorem dP_match_36 : decode prog_1_method_15_code 36 = .ok (.istore 4, 2) := by decide +kernel
theorem dP_match_38 : decode prog_1_method_15_code 38 = .ok (.iload 4, 2) := by decide +kernel
theorem dP_match_40 : decode prog_1_method_15_code 40 = .ok (.ifCond .ne 5, 3) := by decide +kernel
theorem dP_match_43 : decode prog_1_method_15_code 43 = .ok (.iload_n 3, 1) := by decide +kernel
theorem dP_match_44 : decode prog_1_method_15_code 44 = .ok (.ireturn, 1) := by decide +kernel
theorem dP_match_45 : decode prog_1_method_15_code 45 = .ok (.aload_n 0, 1) := by decide +kernel
theorem dP_match_46 : decode prog_1_method_15_code 46 = .ok (.getfield 40, 3) := by decide +kernel
theorem dP_match_49 : decode prog_1_method_15_code 49 = .ok (.aload_n 0, 1) := by decide +kernel
theorem dP_match_50 : decode prog_1_method_15_code 50 = .ok (.getfield 33, 3) := by decide +kernel
theorem dP_match_53 : decode prog_1_method_15_code 53 = .ok (.iload_n 1, 1) := by decide +kernel
theorem dP_match_54 : decode prog_1_method_15_code 54 = .ok (.iload_n 2, 1) := by decide +kernel
theorem dP_match_55 : decode prog_1_method_15_code 55 = .ok (.invokevirtual 205, 3) := by decide +kernel
theorem dP_match_58 : decode prog_1_method_15_code 58 = .ok (.istore 5, 2) := by decide +kernel
theorem dP_match_60 : decode prog_1_method_15_code 60 = .ok (.iload 5, 2) := by decide +kernel
theorem dP_match_62 : decode prog_1_method_15_code 62 = .ok (.iload 4, 2) := by decide +kernel
theorem dP_match_64 : decode prog_1_method_15_code 64 = .ok (.invokestatic 209, 3) := by decide +kernel
theorem dP_match_67 : decode prog_1_method_15_code 67 = .ok (.istore 6, 2) := by decide +kernel
theorem dP_match_69 : decode prog_1_method_15_code 69 = .ok (.iload 6, 2) := by decide +kernel
theorem dP_match_71 : decode prog_1_method_15_code 71 = .ok (.iconst 1, 1) := by decide +kernel
theorem dP_match_72 : decode prog_1_method_15_code 72 = .ok (.if_icmp .ge 5, 3) := by decide +kernel
theorem dP_match_75 : decode prog_1_method_15_code 75 = .ok (.iload_n 3, 1) := by decide +kernel
theorem dP_match_76 : decode prog_1_method_15_code 76 = .ok (.ireturn, 1) := by decide +kernel
theorem dP_match_77 : decode prog_1_method_15_code 77 = .ok (.iload_n 3, 1) := by decide +kernel
theorem dP_match_78 : decode prog_1_method_15_code 78 = .ok (.ifCond .ne 11, 3) := by decide +kernel
theorem dP_match_81 : decode prog_1_method_15_code 81 = .ok (.iload 5, 2) := by decide +kernel
theorem dP_match_83 : decode prog_1_method_15_code 83 = .ok (.iload 6, 2) := by decide +kernel
theorem dP_match_85 : decode prog_1_method_15_code 85 = .ok (.idiv, 1) := by decide +kernel
theorem dP_match_86 : decode prog_1_method_15_code 86 = .ok (.goto 8, 3) := by decide +kernel
theorem dP_match_89 : decode prog_1_method_15_code 89 = .ok (.iload 4, 2) := by decide +kernel
theorem dP_match_91 : decode prog_1_method_15_code 91 = .ok (.iload 6, 2) := by decide +kernel
theorem dP_match_93 : decode prog_1_method_15_code 93 = .ok (.idiv, 1) := by decide +kernel
theorem dP_match_94 : decode prog_1_method_15_code 94 = .ok (.ireturn, 1) := by decide +kernel
set_option maxRecDepth 100000 in
set_option maxHeartbeats 4000000 in
theorem tP_match_J24 {X : KC} {q : Int × KM} (hX : kOk X 7 prog_1_method_15_code 7 "KeyPath") (hR : kRet X (some .int) q) (σ : KM) {Θ : (Int × KM) → Prop} (hT : ∀ z, Θ (z) → z = q) : kJ X 24 [lq 0, none, none, none, none, none, none] [] σ (fP_match_J24 σ) Θ := by
  refine k_bipush hX dP_match_24 (by decide) ?_
  exact k_iret hX hR hT dP_match_26
set_option maxRecDepth 100000 in
set_option maxHeartbeats 4000000 in
theorem tP_match_J94 {X : KC} {q : Int × KM} (hX : kOk X 7 prog_1_method_15_code 7 "KeyPath") (hR : kRet X (some .int) q) (t0 : Int) (σ : KM) {Θ : (Int × KM) → Prop} (hT : ∀ z, Θ (z) → z = q) : kJ X 94 [lq 0, none, none, none, none, none, none] [ki t0] σ (fP_match_J94 t0 σ) Θ := by
  exact k_iret hX hR hT dP_match_94
set_option maxRecDepth 100000 in
set_option maxHeartbeats 4000000 in
theorem sP_match (x1 x2 x3 : Int) (σ : KM) : kSem 7 (⟨"KeyPath", "match", "(III)I"⟩ : MethodName) prog_1_method_15_code 7 (some .int) [kr 0, ki x1, ki x2, ki x3] σ (fP_match x1 x2 x3 σ) := by
  refine kSem.of (L0 := [lq 0, li x1, li x2, li x3, none, none, none]) (by decide) (Nat.le_of_ble_eq_true rfl) rfl (fun X q hX hR => ?_)
  have hT : ∀ z : Int × KM, (fun z => z = q) z → z = q := fun _ h => h
  refine k_aload_n hX dP_match_0 rfl ?_
  refine k_iload_n hX dP_match_1 rfl ?_
  refine cl_9 hX (by decide) (Nat.le_of_ble_eq_true rfl) dP_match_2 (fun r2 τ1 => ?_)
  refine k_if_ne (tgt := 24) hX dP_match_5 (by decide) ?_ ?_
  · refine k_less [true, false, false, false, true, true, true] (L' := [lq 0, none, none, none, none, none, none]) rfl ?_
    exact tP_match_J24 hX hR τ1 hT
  · refine k_iload_n hX dP_match_8 rfl ?_
    refine cl_44 hX (by decide) (Nat.le_of_ble_eq_true rfl) dP_match_9 (fun r4 τ3 => ?_)
    refine k_if_ne (tgt := 24) hX dP_match_12 (by decide) ?_ ?_
    · refine k_less [true, false, false, false, true, true, true] (L' := [lq 0, none, none, none, none, none, none]) rfl ?_
      exact tP_match_J24 hX hR τ3 hT
    · refine k_iconst hX dP_match_15 ?_
      refine k_iconst hX dP_match_16 ?_
      refine k_iload_n hX dP_match_17 rfl ?_
      refine cl_43 hX (by decide) (Nat.le_of_ble_eq_true rfl) dP_match_18 (fun r6 τ5 => ?_)
      refine k_if_eq (tgt := 27) hX dP_match_21 (by decide) ?_ ?_
      · refine k_aload_n hX dP_match_27 rfl ?_
        refine gf_0 hX dP_match_28 ?_
        refine gf_116 hX dP_match_31 ?_
        refine k_iload_n hX dP_match_34 rfl ?_
        refine k_iald hX (by decide) rfl dP_match_35 rfl (fun y7 => ?_)
        refine k_istore (L' := [lq 0, li x1, li x2, li x3, li y7, none, none]) hX dP_match_36 rfl (by decide) rfl ?_
        refine k_iload hX dP_match_38 rfl ?_
        refine k_if_ne (tgt := 45) hX dP_match_40 (by decide) ?_ ?_
        · refine k_aload_n hX dP_match_45 rfl ?_
          refine gf_23 hX dP_match_46 ?_
          refine k_aload_n hX dP_match_49 rfl ?_
          refine gf_0 hX dP_match_50 ?_
          refine k_iload_n hX dP_match_53 rfl ?_
          refine k_iload_n hX dP_match_54 rfl ?_
          refine cl_83 hX (by decide) (Nat.le_of_ble_eq_true rfl) dP_match_55 (fun r9 τ8 => ?_)
          refine k_istore (L' := [lq 0, li x1, li x2, li x3, li y7, li r9, none]) hX dP_match_58 rfl (by decide) rfl ?_
          refine k_iload hX dP_match_60 rfl ?_
          refine k_iload hX dP_match_62 rfl ?_
          refine cl_84 hX (by decide) (Nat.le_of_ble_eq_true rfl) dP_match_64 (fun r11 τ10 => ?_)
          refine k_istore (L' := [lq 0, li x1, li x2, li x3, li y7, li r9, li r11]) hX dP_match_67 rfl (by decide) rfl ?_
          refine k_iload hX dP_match_69 rfl ?_
          refine k_iconst hX dP_match_71 ?_
          refine k_icmp_ge (tgt := 77) hX dP_match_72 (by decide) ?_ ?_
          · refine k_iload_n hX dP_match_77 rfl ?_
            refine k_if_ne (tgt := 89) hX dP_match_78 (by decide) ?_ ?_
            · refine k_iload hX dP_match_89 rfl ?_
              refine k_iload hX dP_match_91 rfl ?_
              refine k_idiv hX dP_match_93 (fun y12 => ?_)
              refine k_less [true, false, false, false, false, false, false] (L' := [lq 0, none, none, none, none, none, none]) rfl ?_
              exact tP_match_J94 hX hR y12 τ10 hT
            · refine k_iload hX dP_match_81 rfl ?_
              refine k_iload hX dP_match_83 rfl ?_
              refine k_idiv hX dP_match_85 (fun y13 => ?_)
              refine k_goto (tgt := 94) hX dP_match_86 (by decide) ?_
              refine k_less [true, false, false, false, false, false, false] (L' := [lq 0, none, none, none, none, none, none]) rfl ?_
              exact tP_match_J94 hX hR y13 τ10 hT
          · refine k_iload_n hX dP_match_75 rfl ?_
            exact k_iret hX hR hT dP_match_76
        · refine k_iload_n hX dP_match_43 rfl ?_
          exact k_iret hX hR hT dP_match_44
      · refine k_less [true, false, false, false, true, true, true] (L' := [lq 0, none, none, none, none, none, none]) rfl ?_
        exact tP_match_J24 hX hR τ5 hT
theorem dP_net_0 : decode prog_1_method_12_code 0 = .ok (.iconst 0, 1) := by decide +kernel
theorem dP_net_1 : decode prog_1_method_12_code 1 = .ok (.sipush 999, 3) := by decide +kernel
theorem dP_net_4 : decode prog_1_method_12_code 4 = .ok (.iload_n 1, 1) := by decide +kernel
theorem dP_net_5 : decode prog_1_method_12_code 5 = .ok (.invokestatic 138, 3) := by decide +kernel
theorem dP_net_8 : decode prog_1_method_12_code 8 = .ok (.ifCond .ne 36, 3) := by decide +kernel
theorem dP_net_11 : decode prog_1_method_12_code 11 = .ok (.iconst 0, 1) := by decide +kernel
theorem dP_net_12 : decode prog_1_method_12_code 12 = .ok (.sipush 999, 3) := by decide +kernel
theorem dP_net_15 : decode prog_1_method_12_code 15 = .ok (.iload_n 2, 1) := by decide +kernel
theorem dP_net_16 : decode prog_1_method_12_code 16 = .ok (.invokestatic 138, 3) := by decide +kernel
theorem dP_net_19 : decode prog_1_method_12_code 19 = .ok (.ifCond .ne 25, 3) := by decide +kernel
theorem dP_net_22 : decode prog_1_method_12_code 22 = .ok (.iconst 0, 1) := by decide +kernel
theorem dP_net_23 : decode prog_1_method_12_code 23 = .ok (.sipush 999, 3) := by decide +kernel
theorem dP_net_26 : decode prog_1_method_12_code 26 = .ok (.iload_n 3, 1) := by decide +kernel
theorem dP_net_27 : decode prog_1_method_12_code 27 = .ok (.invokestatic 138, 3) := by decide +kernel
theorem dP_net_30 : decode prog_1_method_12_code 30 = .ok (.ifCond .ne 14, 3) := by decide +kernel
theorem dP_net_33 : decode prog_1_method_12_code 33 = .ok (.iconst 0, 1) := by decide +kernel
theorem dP_net_34 : decode prog_1_method_12_code 34 = .ok (.bipush 100, 2) := by decide +kernel
theorem dP_net_36 : decode prog_1_method_12_code 36 = .ok (.iload 4, 2) := by decide +kernel
theorem dP_net_38 : decode prog_1_method_12_code 38 = .ok (.invokestatic 138, 3) := by decide +kernel
theorem dP_net_41 : decode prog_1_method_12_code 41 = .ok (.ifCond .eq 6, 3) := by decide +kernel
theorem dP_net_44 : decode prog_1_method_12_code 44 = .ok (.bipush (-3), 2) := by decide +kernel
theorem dP_net_46 : decode prog_1_method_12_code 46 = .ok (.ireturn, 1) := by decide +kernel
theorem dP_net_47 : decode prog_1_method_12_code 47 = .ok (.aload_n 0, 1) := by decide +kernel
theorem dP_net_48 : decode prog_1_method_12_code 48 = .ok (.getfield 47, 3) := by decide +kernel
theorem dP_net_51 : decode prog_1_method_12_code 51 = .ok (.getfield 171, 3) := by decide +kernel
theorem dP_net_54 : decode prog_1_method_12_code 54 = .ok (.istore 5, 2) := by decide +kernel
theorem dP_net_56 : decode prog_1_method_12_code 56 = .ok (.aload_n 0, 1) := by decide +kernel
theorem dP_net_57 : decode prog_1_method_12_code 57 = .ok (.getfield 47, 3) := by decide +kernel
theorem dP_net_60 : decode prog_1_method_12_code 60 = .ok (.iload_n 1, 1) := by decide +kernel
theorem dP_net_61 : decode prog_1_method_12_code 61 = .ok (.putfield 174, 3) := by decide +kernel
theorem dP_net_64 : decode prog_1_method_12_code 64 = .ok (.aload_n 0, 1) := by decide +kernel
theorem dP_net_65 : decode prog_1_method_12_code 65 = .ok (.getfield 47, 3) := by decide +kernel
theorem dP_net_68 : decode prog_1_method_12_code 68 = .ok (.iload_n 2, 1) := by decide +kernel
theorem dP_net_69 : decode prog_1_method_12_code 69 = .ok (.putfield 177, 3) := by decide +kernel
theorem dP_net_72 : decode prog_1_method_12_code 72 = .ok (.aload_n 0, 1) := by decide +kernel
theorem dP_net_73 : decode prog_1_method_12_code 73 = .ok (.getfield 47, 3) := by decide +kernel
theorem dP_net_76 : decode prog_1_method_12_code 76 = .ok (.iload_n 3, 1) := by decide +kernel
theorem dP_net_77 : decode prog_1_method_12_code 77 = .ok (.putfield 180, 3) := by decide +kernel
theorem dP_net_80 : decode prog_1_method_12_code 80 = .ok (.aload_n 0, 1) := by decide +kernel
theorem dP_net_81 : decode prog_1_method_12_code 81 = .ok (.getfield 47, 3) := by decide +kernel
theorem dP_net_84 : decode prog_1_method_12_code 84 = .ok (.iload 4, 2) := by decide +kernel
theorem dP_net_86 : decode prog_1_method_12_code 86 = .ok (.putfield 171, 3) := by decide +kernel
theorem dP_net_89 : decode prog_1_method_12_code 89 = .ok (.aload_n 0, 1) := by decide +kernel
theorem dP_net_90 : decode prog_1_method_12_code 90 = .ok (.getfield 47, 3) := by decide +kernel
theorem dP_net_93 : decode prog_1_method_12_code 93 = .ok (.iconst 1, 1) := by decide +kernel
theorem dP_net_94 : decode prog_1_method_12_code 94 = .ok (.putfield 183, 3) := by decide +kernel
theorem dP_net_97 : decode prog_1_method_12_code 97 = .ok (.aload_n 0, 1) := by decide +kernel
theorem dP_net_98 : decode prog_1_method_12_code 98 = .ok (.invokevirtual 187, 3) := by decide +kernel
theorem dP_net_101 : decode prog_1_method_12_code 101 = .ok (.iload 5, 2) := by decide +kernel
theorem dP_net_103 : decode prog_1_method_12_code 103 = .ok (.ireturn, 1) := by decide +kernel
set_option maxRecDepth 100000 in
set_option maxHeartbeats 4000000 in
theorem tP_net_J44 {X : KC} {q : Int × KM} (hX : kOk X 2 prog_1_method_12_code 6 "KeyPath") (hR : kRet X (some .int) q) (σ : KM) {Θ : (Int × KM) → Prop} (hT : ∀ z, Θ (z) → z = q) : kJ X 44 [lq 0, none, none, none, none, none] [] σ (fP_net_J44 σ) Θ := by
  refine k_bipush hX dP_net_44 (by decide) ?_
  exact k_iret hX hR hT dP_net_46
set_option maxRecDepth 100000 in
set_option maxHeartbeats 4000000 in
theorem sP_net (x1 x2 x3 x4 : Int) (σ : KM) : kSem 2 (⟨"KeyPath", "net", "(IIII)I"⟩ : MethodName) prog_1_method_12_code 6 (some .int) [kr 0, ki x1, ki x2, ki x3, ki x4] σ (fP_net x1 x2 x3 x4 σ) := by
  refine kSem.of (L0 := [lq 0, li x1, li x2, li x3, li x4, none]) (by decide) (Nat.le_of_ble_eq_true rfl) rfl (fun X q hX hR => ?_)
  have hT : ∀ z : Int × KM, (fun z => z = q) z → z = q := fun _ h => h
  refine k_iconst hX dP_net_0 ?_
  refine k_sipush hX dP_net_1 (by decide) ?_
  refine k_iload_n hX dP_net_4 rfl ?_
  refine cl_43 hX (by decide) (Nat.le_of_ble_eq_true rfl) dP_net_5 (fun r2 τ1 => ?_)
  refine k_if_ne (tgt := 44) hX dP_net_8 (by decide) ?_ ?_
  · refine k_less [true, false, false, false, false, true] (L' := [lq 0, none, none, none, none, none]) rfl ?_
    exact tP_net_J44 hX hR τ1 hT
  · refine k_iconst hX dP_net_11 ?_
    refine k_sipush hX dP_net_12 (by decide) ?_
    refine k_iload_n hX dP_net_15 rfl ?_
    refine cl_43 hX (by decide) (Nat.le_of_ble_eq_true rfl) dP_net_16 (fun r4 τ3 => ?_)
    refine k_if_ne (tgt := 44) hX dP_net_19 (by decide) ?_ ?_
    · refine k_less [true, false, false, false, false, true] (L' := [lq 0, none, none, none, none, none]) rfl ?_
      exact tP_net_J44 hX hR τ3 hT
    · refine k_iconst hX dP_net_22 ?_
      refine k_sipush hX dP_net_23 (by decide) ?_
      refine k_iload_n hX dP_net_26 rfl ?_
      refine cl_43 hX (by decide) (Nat.le_of_ble_eq_true rfl) dP_net_27 (fun r6 τ5 => ?_)
      refine k_if_ne (tgt := 44) hX dP_net_30 (by decide) ?_ ?_
      · refine k_less [true, false, false, false, false, true] (L' := [lq 0, none, none, none, none, none]) rfl ?_
        exact tP_net_J44 hX hR τ5 hT
      · refine k_iconst hX dP_net_33 ?_
        refine k_bipush hX dP_net_34 (by decide) ?_
        refine k_iload hX dP_net_36 rfl ?_
        refine cl_43 hX (by decide) (Nat.le_of_ble_eq_true rfl) dP_net_38 (fun r8 τ7 => ?_)
        refine k_if_eq (tgt := 47) hX dP_net_41 (by decide) ?_ ?_
        · refine k_aload_n hX dP_net_47 rfl ?_
          refine gf_32 hX dP_net_48 ?_
          refine gf_50 hX dP_net_51 ?_
          refine k_istoreL (Lf := fun y9 => [lq 0, li x1, li x2, li x3, li x4, li y9]) hX dP_net_54 rfl (by decide) (fun _ => rfl) (fun y9 => ?_)
          refine k_aload_n hX dP_net_56 rfl ?_
          refine gf_32 hX dP_net_57 ?_
          refine k_iload_n hX dP_net_60 rfl ?_
          refine gp_138 hX dP_net_61 (fun τ10 => ?_)
          refine k_aload_n hX dP_net_64 rfl ?_
          refine gf_32 hX dP_net_65 ?_
          refine k_iload_n hX dP_net_68 rfl ?_
          refine gp_139 hX dP_net_69 (fun τ11 => ?_)
          refine k_aload_n hX dP_net_72 rfl ?_
          refine gf_32 hX dP_net_73 ?_
          refine k_iload_n hX dP_net_76 rfl ?_
          refine gp_140 hX dP_net_77 (fun τ12 => ?_)
          refine k_aload_n hX dP_net_80 rfl ?_
          refine gf_32 hX dP_net_81 ?_
          refine k_iload hX dP_net_84 rfl ?_
          refine gp_141 hX dP_net_86 (fun τ13 => ?_)
          refine k_aload_n hX dP_net_89 rfl ?_
          refine gf_32 hX dP_net_90 ?_
          refine k_iconst hX dP_net_93 ?_
          refine gz_142 hX dP_net_94 (fun τ14 => ?_)
          refine k_aload_n hX dP_net_97 rfl ?_
          refine cl_48 hX (by decide) (Nat.le_of_ble_eq_true rfl) dP_net_98 (fun _ τ15 => ?_)
          refine k_iload hX dP_net_101 rfl ?_
          exact k_iret hX hR hT dP_net_103
        · refine k_less [true, false, false, false, false, true] (L' := [lq 0, none, none, none, none, none]) rfl ?_
          exact tP_net_J44 hX hR τ7 hT
theorem dP_note_0 : decode prog_1_method_9_code 0 = .ok (.iload_n 1, 1) := by decide +kernel
theorem dP_note_1 : decode prog_1_method_9_code 1 = .ok (.ifCond .lt 14, 3) := by decide +kernel
theorem dP_note_4 : decode prog_1_method_9_code 4 = .ok (.iload_n 1, 1) := by decide +kernel
theorem dP_note_5 : decode prog_1_method_9_code 5 = .ok (.aload_n 0, 1) := by decide +kernel
theorem dP_note_6 : decode prog_1_method_9_code 6 = .ok (.getfield 19, 3) := by decide +kernel
theorem dP_note_9 : decode prog_1_method_9_code 9 = .ok (.getfield 92, 3) := by decide +kernel
theorem dP_note_12 : decode prog_1_method_9_code 12 = .ok (.if_icmp .lt 6, 3) := by decide +kernel
theorem dP_note_15 : decode prog_1_method_9_code 15 = .ok (.bipush (-2), 2) := by decide +kernel
theorem dP_note_17 : decode prog_1_method_9_code 17 = .ok (.ireturn, 1) := by decide +kernel
theorem dP_note_18 : decode prog_1_method_9_code 18 = .ok (.iload_n 2, 1) := by decide +kernel
theorem dP_note_19 : decode prog_1_method_9_code 19 = .ok (.tableswitch 72 0 3 #[29, 39, 49, 59], 29) := by decide +kernel
theorem dP_note_48 : decode prog_1_method_9_code 48 = .ok (.aload_n 0, 1) := by decide +kernel
theorem dP_note_49 : decode prog_1_method_9_code 49 = .ok (.getfield 19, 3) := by decide +kernel
theorem dP_note_52 : decode prog_1_method_9_code 52 = .ok (.getfield 114, 3) := by decide +kernel
theorem dP_note_55 : decode prog_1_method_9_code 55 = .ok (.iload_n 1, 1) := by decide +kernel
theorem dP_note_56 : decode prog_1_method_9_code 56 = .ok (.iaload, 1) := by decide +kernel
theorem dP_note_57 : decode prog_1_method_9_code 57 = .ok (.ireturn, 1) := by decide +kernel
theorem dP_note_58 : decode prog_1_method_9_code 58 = .ok (.aload_n 0, 1) := by decide +kernel
theorem dP_note_59 : decode prog_1_method_9_code 59 = .ok (.getfield 19, 3) := by decide +kernel
theorem dP_note_62 : decode prog_1_method_9_code 62 = .ok (.getfield 118, 3) := by decide +kernel
theorem dP_note_65 : decode prog_1_method_9_code 65 = .ok (.iload_n 1, 1) := by decide +kernel
theorem dP_note_66 : decode prog_1_method_9_code 66 = .ok (.iaload, 1) := by decide +kernel
theorem dP_note_67 : decode prog_1_method_9_code 67 = .ok (.ireturn, 1) := by decide +kernel
theorem dP_note_68 : decode prog_1_method_9_code 68 = .ok (.aload_n 0, 1) := by decide +kernel
theorem dP_note_69 : decode prog_1_method_9_code 69 = .ok (.getfield 19, 3) := by decide +kernel
theorem dP_note_72 : decode prog_1_method_9_code 72 = .ok (.getfield 121, 3) := by decide +kernel
theorem dP_note_75 : decode prog_1_method_9_code 75 = .ok (.iload_n 1, 1) := by decide +kernel
theorem dP_note_76 : decode prog_1_method_9_code 76 = .ok (.iaload, 1) := by decide +kernel
theorem dP_note_77 : decode prog_1_method_9_code 77 = .ok (.ireturn, 1) := by decide +kernel
theorem dP_note_78 : decode prog_1_method_9_code 78 = .ok (.aload_n 0, 1) := by decide +kernel
theorem dP_note_79 : decode prog_1_method_9_code 79 = .ok (.getfield 19, 3) := by decide +kernel
theorem dP_note_82 : decode prog_1_method_9_code 82 = .ok (.getfield 121, 3) := by decide +kernel
theorem dP_note_85 : decode prog_1_method_9_code 85 = .ok (.iload_n 1, 1) := by decide +kernel
theorem dP_note_86 : decode prog_1_method_9_code 86 = .ok (.iaload, 1) := by decide +kernel
theorem dP_note_87 : decode prog_1_method_9_code 87 = .ok (.bipush 12, 2) := by decide +kernel
theorem dP_note_89 : decode prog_1_method_9_code 89 = .ok (.irem, 1) := by decide +kernel
theorem dP_note_90 : decode prog_1_method_9_code 90 = .ok (.ireturn, 1) := by decide +kernel
theorem dP_note_91 : decode prog_1_method_9_code 91 = .ok (.bipush (-2), 2) := by decide +kernel
theorem dP_note_93 : decode prog_1_method_9_code 93 = .ok (.ireturn, 1) := by decide +kernel
set_option maxRecDepth 100000 in
set_option maxHeartbeats 4000000 in
theorem tP_note_J15 {X : KC} {q : Int × KM} (hX : kOk X 1 prog_1_method_9_code 3 "KeyPath") (hR : kRet X (some .int) q) (σ : KM) {Θ : (Int × KM) → Prop} (hT : ∀ z, Θ (z) → z = q) : kJ X 15 [lq 0, none, none] [] σ (fP_note_J15 σ) Θ := by
  refine k_bipush hX dP_note_15 (by decide) ?_
  exact k_iret hX hR hT dP_note_17
set_option maxRecDepth 100000 in
set_option maxHeartbeats 4000000 in
theorem sP_note (x1 x2 : Int) (σ : KM) : kSem 1 (⟨"KeyPath", "note", "(II)I"⟩ : MethodName) prog_1_method_9_code 3 (some .int) [kr 0, ki x1, ki x2] σ (fP_note x1 x2 σ) := by
  refine kSem.of (L0 := [lq 0, li x1, li x2]) (by decide) (Nat.le_of_ble_eq_true rfl) rfl (fun X q hX hR => ?_)
  have hT : ∀ z : Int × KM, (fun z => z = q) z → z = q := fun _ h => h
  refine k_iload_n hX dP_note_0 rfl ?_
  refine k_if_lt (tgt := 15) hX dP_note_1 (by decide) ?_ ?_
  · refine k_less [true, false, false] (L' := [lq 0, none, none]) rfl ?_
    exact tP_note_J15 hX hR σ hT
  · refine k_iload_n hX dP_note_4 rfl ?_
    refine k_aload_n hX dP_note_5 rfl ?_
    refine gf_2 hX dP_note_6 ?_
    refine gf_74 hX dP_note_9 ?_
    refine k_icmp_lt (tgt := 18) hX dP_note_12 (by decide) ?_ ?_
    · refine k_iload_n hX dP_note_18 rfl ?_
      refine k_tsw (ts := [48, 58, 68, 78]) (te := 91) hX dP_note_19 (by decide) (by decide) rfl (by decide) (k_ts_c ?_ (k_ts_c ?_ (k_ts_c ?_ (k_ts_c ?_ (k_ts_n))))) ?_
      · refine k_aload_n hX dP_note_48 rfl ?_
        refine gf_2 hX dP_note_49 ?_
        refine gf_85 hX dP_note_52 ?_
        refine k_iload_n hX dP_note_55 rfl ?_
        refine k_iald hX (by decide) rfl dP_note_56 rfl (fun y1 => ?_)
        exact k_iret hX hR hT dP_note_57
      · refine k_aload_n hX dP_note_58 rfl ?_
        refine gf_2 hX dP_note_59 ?_
        refine gf_86 hX dP_note_62 ?_
        refine k_iload_n hX dP_note_65 rfl ?_
        refine k_iald hX (by decide) rfl dP_note_66 rfl (fun y2 => ?_)
        exact k_iret hX hR hT dP_note_67
      · refine k_aload_n hX dP_note_68 rfl ?_
        refine gf_2 hX dP_note_69 ?_
        refine gf_87 hX dP_note_72 ?_
        refine k_iload_n hX dP_note_75 rfl ?_
        refine k_iald hX (by decide) rfl dP_note_76 rfl (fun y3 => ?_)
        exact k_iret hX hR hT dP_note_77
      · refine k_aload_n hX dP_note_78 rfl ?_
        refine gf_2 hX dP_note_79 ?_
        refine gf_87 hX dP_note_82 ?_
        refine k_iload_n hX dP_note_85 rfl ?_
        refine k_iald hX (by decide) rfl dP_note_86 rfl (fun y4 => ?_)
        refine k_bipush hX dP_note_87 (by decide) ?_
        refine k_irem hX dP_note_89 (fun y5 => ?_)
        exact k_iret hX hR hT dP_note_90
      · refine k_bipush hX dP_note_91 (by decide) ?_
        exact k_iret hX hR hT dP_note_93
    · refine k_less [true, false, false] (L' := [lq 0, none, none]) rfl ?_
      exact tP_note_J15 hX hR σ hT
theorem dP_outside_0 : decode prog_1_method_35_code 0 = .ok (.aload_n 0, 1) := by decide +kernel
theorem dP_outside_1 : decode prog_1_method_35_code 1 = .ok (.invokevirtual 233, 3) := by decide +kernel
theorem dP_outside_4 : decode prog_1_method_35_code 4 = .ok (.ifCond .eq 6, 3) := by decide +kernel
theorem dP_outside_7 : decode prog_1_method_35_code 7 = .ok (.bipush (-5), 2) := by decide +kernel
theorem dP_outside_9 : decode prog_1_method_35_code 9 = .ok (.ireturn, 1) := by decide +kernel
theorem dP_outside_10 : decode prog_1_method_35_code 10 = .ok (.iconst 0, 1) := by decide +kernel
theorem dP_outside_11 : decode prog_1_method_35_code 11 = .ok (.istore_n 1, 1) := by decide +kernel
theorem dP_outside_12 : decode prog_1_method_35_code 12 = .ok (.iconst 0, 1) := by decide +kernel
theorem dP_outside_13 : decode prog_1_method_35_code 13 = .ok (.istore_n 2, 1) := by decide +kernel
theorem dP_outside_14 : decode prog_1_method_35_code 14 = .ok (.iload_n 2, 1) := by decide +kernel
theorem dP_outside_15 : decode prog_1_method_35_code 15 = .ok (.aload_n 0, 1) := by decide +kernel
theorem dP_outside_16 : decode prog_1_method_35_code 16 = .ok (.getfield 33, 3) := by decide +kernel
theorem dP_outside_19 : decode prog_1_method_35_code 19 = .ok (.getfield 158, 3) := by decide +kernel
theorem dP_outside_22 : decode prog_1_method_35_code 22 = .ok (.if_icmp .ge 34, 3) := by decide +kernel
theorem dP_outside_25 : decode prog_1_method_35_code 25 = .ok (.aload_n 0, 1) := by decide +kernel
theorem dP_outside_26 : decode prog_1_method_35_code 26 = .ok (.getfield 33, 3) := by decide +kernel
theorem dP_outside_29 : decode prog_1_method_35_code 29 = .ok (.getfield 221, 3) := by decide +kernel
theorem dP_outside_32 : decode prog_1_method_35_code 32 = .ok (.iload_n 2, 1) := by decide +kernel
theorem dP_outside_33 : decode prog_1_method_35_code 33 = .ok (.iaload, 1) := by decide +kernel
theorem dP_outside_34 : decode prog_1_method_35_code 34 = .ok (.iconst (-1), 1) := by decide +kernel
theorem dP_outside_35 : decode prog_1_method_35_code 35 = .ok (.if_icmp .eq 15, 3) := by decide +kernel
theorem dP_outside_38 : decode prog_1_method_35_code 38 = .ok (.aload_n 0, 1) := by decide +kernel
theorem dP_outside_39 : decode prog_1_method_35_code 39 = .ok (.iload_n 2, 1) := by decide +kernel
theorem dP_outside_40 : decode prog_1_method_35_code 40 = .ok (.invokevirtual 301, 3) := by decide +kernel
theorem dP_outside_43 : decode prog_1_method_35_code 43 = .ok (.iconst (-1), 1) := by decide +kernel
theorem dP_outside_44 : decode prog_1_method_35_code 44 = .ok (.if_icmp .ne 6, 3) := by decide +kernel
theorem dP_outside_47 : decode prog_1_method_35_code 47 = .ok (.iinc 1 1, 3) := by decide +kernel
theorem dP_outside_50 : decode prog_1_method_35_code 50 = .ok (.iinc 2 1, 3) := by decide +kernel
theorem dP_outside_53 : decode prog_1_method_35_code 53 = .ok (.goto (-39), 3) := by decide +kernel
theorem dP_outside_56 : decode prog_1_method_35_code 56 = .ok (.iload_n 1, 1) := by decide +kernel
theorem dP_outside_57 : decode prog_1_method_35_code 57 = .ok (.ireturn, 1) := by decide +kernel
set_option maxRecDepth 100000 in
set_option maxHeartbeats 4000000 in
theorem tP_outside_J56 {X : KC} {q : Int × KM} (hX : kOk X 8 prog_1_method_35_code 3 "KeyPath") (hR : kRet X (some .int) q) (x1 : Int) (σ : KM) {Θ : (Int × KM) → Prop} (hT : ∀ z, Θ (z) → z = q) : kJ X 56 [lq 0, li x1, none] [] σ (fP_outside_J56 x1 σ) Θ := by
  refine k_iload_n hX dP_outside_56 rfl ?_
  exact k_iret hX hR hT dP_outside_57
set_option maxRecDepth 100000 in
set_option maxHeartbeats 4000000 in
theorem tP_outside_J50 {X : KC} {q : Int × KM} (hX : kOk X 8 prog_1_method_35_code 3 "KeyPath") (hR : kRet X (some .int) q) (x1 x2 : Int) (σ : KM) {Θ : ((Int × Int × KM) ⊕ (Int × KM)) → Prop} (hT : ∀ z, Θ (.inr (z)) → z = q) (hb0 : ∀ s : Int × Int × KM, Θ (.inl s) → kW X 14 [lq 0, li s.1, li s.2.1] [] s.2.2) : kJ X 50 [lq 0, li x1, li x2] [] σ (fP_outside_J50 x1 x2 σ) Θ := by
  refine k_iincL (Lf := fun y1 => [lq 0, li x1, li y1]) hX dP_outside_50 rfl (by decide) rfl (fun _ => rfl) (fun y1 => ?_)
  refine k_goto (tgt := 14) hX dP_outside_53 (by decide) ?_
  exact k_back (hb0 (x1, y1, σ))
set_option maxRecDepth 100000 in
set_option maxHeartbeats 4000000 in
theorem tP_outside_B14 {X : KC} {q : Int × KM} (hX : kOk X 8 prog_1_method_35_code 3 "KeyPath") (hR : kRet X (some .int) q) (x1 x2 : Int) (σ : KM) {Θ : ((Int × Int × KM) ⊕ (Int × KM)) → Prop} (hT : ∀ z, Θ (.inr (z)) → z = q) (hb0 : ∀ s : Int × Int × KM, Θ (.inl s) → kW X 14 [lq 0, li s.1, li s.2.1] [] s.2.2) : kJ X 14 [lq 0, li x1, li x2] [] σ (fP_outside_B14 x1 x2 σ) Θ := by
  refine k_iload_n hX dP_outside_14 rfl ?_
  refine k_aload_n hX dP_outside_15 rfl ?_
  refine gf_0 hX dP_outside_16 ?_
  refine gf_18 hX dP_outside_19 ?_
  refine k_icmp_ge (tgt := 56) hX dP_outside_22 (by decide) ?_ ?_
  · refine k_exit ?_
    refine k_less [true, true, false] (L' := [lq 0, li x1, none]) rfl ?_
    exact tP_outside_J56 hX hR x1 σ hT
  · refine k_aload_n hX dP_outside_25 rfl ?_
    refine gf_0 hX dP_outside_26 ?_
    refine gf_19 hX dP_outside_29 ?_
    refine k_iload_n hX dP_outside_32 rfl ?_
    refine k_iald hX (by decide) rfl dP_outside_33 rfl (fun y1 => ?_)
    refine k_iconst hX dP_outside_34 ?_
    refine k_icmp_eq (tgt := 50) hX dP_outside_35 (by decide) ?_ ?_
    · exact tP_outside_J50 hX hR x1 x2 σ hT hb0
    · refine k_aload_n hX dP_outside_38 rfl ?_
      refine k_iload_n hX dP_outside_39 rfl ?_
      refine cl_38 hX (by decide) (Nat.le_of_ble_eq_true rfl) dP_outside_40 (fun r3 τ2 => ?_)
      refine k_iconst hX dP_outside_43 ?_
      refine k_icmp_ne (tgt := 50) hX dP_outside_44 (by decide) ?_ ?_
      · exact tP_outside_J50 hX hR x1 x2 τ2 hT hb0
      · refine k_iincL (Lf := fun y4 => [lq 0, li y4, li x2]) hX dP_outside_47 rfl (by decide) rfl (fun _ => rfl) (fun y4 => ?_)
        exact tP_outside_J50 hX hR y4 x2 τ2 hT hb0
set_option maxRecDepth 100000 in
set_option maxHeartbeats 4000000 in
theorem tP_outside_L14 {X : KC} {q : Int × KM} (hX : kOk X 8 prog_1_method_35_code 3 "KeyPath") (hR : kRet X (some .int) q) (x1 x2 : Int) (σ : KM) {Θ : (Int × KM) → Prop} (hT : ∀ z, Θ (z) → z = q) : kJ X 14 [lq 0, li x1, li x2] [] σ (fP_outside_L14 x1 x2 σ) Θ :=
  k_iter (f := fun s => fP_outside_B14 s.1 s.2.1 s.2.2) (Lf := fun s => [lq 0, li s.1, li s.2.1]) (mf := fun s => s.2.2) (Θ := Θ) (fun s => tP_outside_B14 hX hR s.1 s.2.1 s.2.2 hT (fun _ h9 => h9)) kF (x1, x2, σ)
set_option maxRecDepth 100000 in
set_option maxHeartbeats 4000000 in
theorem sP_outside (σ : KM) : kSem 8 (⟨"KeyPath", "outside", "()I"⟩ : MethodName) prog_1_method_35_code 3 (some .int) [kr 0] σ (fP_outside σ) := by
  refine kSem.of (L0 := [lq 0, none, none]) (by decide) (Nat.le_of_ble_eq_true rfl) rfl (fun X q hX hR => ?_)
  have hT : ∀ z : Int × KM, (fun z => z = q) z → z = q := fun _ h => h
  refine k_aload_n hX dP_outside_0 rfl ?_
  refine cl_33 hX (by decide) (Nat.le_of_ble_eq_true rfl) dP_outside_1 (fun r2 τ1 => ?_)
  refine k_if_eq (tgt := 10) hX dP_outside_4 (by decide) ?_ ?_
  · refine k_iconst hX dP_outside_10 ?_
    refine k_istore_n (L' := [lq 0, li 0, none]) hX dP_outside_11 rfl (by decide) rfl ?_
    refine k_iconst hX dP_outside_12 ?_
    refine k_istore_n (L' := [lq 0, li 0, li 0]) hX dP_outside_13 rfl (by decide) rfl ?_
    exact tP_outside_L14 hX hR 0 0 τ1 hT
  · refine k_bipush hX dP_outside_7 (by decide) ?_
    exact k_iret hX hR hT dP_outside_9
theorem dPr_betterThan_0 : decode prog_7_method_6_code 0 = .ok (.aload_n 0, 1) := by decide +kernel
theorem dPr_betterThan_1 : decode prog_7_method_6_code 1 = .ok (.getfield 23, 3) := by decide +kernel
theorem dPr_betterThan_4 : decode prog_7_method_6_code 4 = .ok (.iload_n 1, 1) := by decide +kernel
theorem dPr_betterThan_5 : decode prog_7_method_6_code 5 = .ok (.bipush 24, 2) := by decide +kernel
theorem dPr_betterThan_7 : decode prog_7_method_6_code 7 = .ok (.imul, 1) := by decide +kernel
theorem dPr_betterThan_8 : decode prog_7_method_6_code 8 = .ok (.iload_n 2, 1) := by decide +kernel
theorem dPr_betterThan_9 : decode prog_7_method_6_code 9 = .ok (.iadd, 1) := by decide +kernel
theorem dPr_betterThan_10 : decode prog_7_method_6_code 10 = .ok (.iaload, 1) := by decide +kernel
theorem dPr_betterThan_11 : decode prog_7_method_6_code 11 = .ok (.istore_n 3, 1) := by decide +kernel
theorem dPr_betterThan_12 : decode prog_7_method_6_code 12 = .ok (.iconst 0, 1) := by decide +kernel
theorem dPr_betterThan_13 : decode prog_7_method_6_code 13 = .ok (.istore 4, 2) := by decide +kernel
theorem dPr_betterThan_15 : decode prog_7_method_6_code 15 = .ok (.iconst 0, 1) := by decide +kernel
theorem dPr_betterThan_16 : decode prog_7_method_6_code 16 = .ok (.istore 5, 2) := by decide +kernel
theorem dPr_betterThan_18 : decode prog_7_method_6_code 18 = .ok (.iload 5, 2) := by decide +kernel
theorem dPr_betterThan_20 : decode prog_7_method_6_code 20 = .ok (.bipush 24, 2) := by decide +kernel
theorem dPr_betterThan_22 : decode prog_7_method_6_code 22 = .ok (.if_icmp .ge 44, 3) := by decide +kernel
theorem dPr_betterThan_25 : decode prog_7_method_6_code 25 = .ok (.aload_n 0, 1) := by decide +kernel
theorem dPr_betterThan_26 : decode prog_7_method_6_code 26 = .ok (.getfield 23, 3) := by decide +kernel
theorem dPr_betterThan_29 : decode prog_7_method_6_code 29 = .ok (.iload_n 1, 1) := by decide +kernel
theorem dPr_betterThan_30 : decode prog_7_method_6_code 30 = .ok (.bipush 24, 2) := by decide +kernel
theorem dPr_betterThan_32 : decode prog_7_method_6_code 32 = .ok (.imul, 1) := by decide +kernel
theorem dPr_betterThan_33 : decode prog_7_method_6_code 33 = .ok (.iload 5, 2) := by decide +kernel
theorem dPr_betterThan_35 : decode prog_7_method_6_code 35 = .ok (.iadd, 1) := by decide +kernel
theorem dPr_betterThan_36 : decode prog_7_method_6_code 36 = .ok (.iaload, 1) := by decide +kernel
theorem dPr_betterThan_37 : decode prog_7_method_6_code 37 = .ok (.istore 6, 2) := by decide +kernel
theorem dPr_betterThan_39 : decode prog_7_method_6_code 39 = .ok (.iload 6, 2) := by decide +kernel
theorem dPr_betterThan_41 : decode prog_7_method_6_code 41 = .ok (.iload_n 3, 1) := by decide +kernel
theorem dPr_betterThan_42 : decode prog_7_method_6_code 42 = .ok (.if_icmp .gt 15, 3) := by decide +kernel
theorem dPr_betterThan_45 : decode prog_7_method_6_code 45 = .ok (.iload 6, 2) := by decide +kernel
theorem dPr_betterThan_47 : decode prog_7_method_6_code 47 = .ok (.iload_n 3, 1) := by decide +kernel
theorem dPr_betterThan_48 : decode prog_7_method_6_code 48 = .ok (.if_icmp .ne 12, 3) := by decide +kernel
theorem dPr_betterThan_51 : decode prog_7_method_6_code 51 = .ok (.iload 5, 2) := by decide +kernel
theorem dPr_betterThan_53 : decode prog_7_method_6_code 53 = .ok (.iload_n 2, 1) := by decide +kernel
theorem dPr_betterThan_54 : decode prog_7_method_6_code 54 = .ok (.if_icmp .ge 6, 3) := by decide +kernel
theorem dPr_betterThan_57 : decode prog_7_method_6_code 57 = .ok (.iinc 4 1, 3) := by decide +kernel
theorem dPr_betterThan_60 : decode prog_7_method_6_code 60 = .ok (.iinc 5 1, 3) := by decide +kernel
theorem dPr_betterThan_63 : decode prog_7_method_6_code 63 = .ok (.goto (-45), 3) := by decide +kernel
theorem dPr_betterThan_66 : decode prog_7_method_6_code 66 = .ok (.iload 4, 2) := by decide +kernel
theorem dPr_betterThan_68 : decode prog_7_method_6_code 68 = .ok (.ireturn, 1) := by decide +kernel
set_option maxRecDepth 100000 in
set_option maxHeartbeats 4000000 in
theorem tPr_betterThan_J66 {X : KC} {q : Int × KM} (hX : kOk X 1 prog_7_method_6_code 7 "KeyPath$Profiles") (hR : kRet X (some .int) q) (x4 : Int) (σ : KM) {Θ : (Int × KM) → Prop} (hT : ∀ z, Θ (z) → z = q) : kJ X 66 [lq 6, none, none, none, li x4, none, none] [] σ (fPr_betterThan_J66 x4 σ) Θ := by
  refine k_iload hX dPr_betterThan_66 rfl ?_
  exact k_iret hX hR hT dPr_betterThan_68
set_option maxRecDepth 100000 in
set_option maxHeartbeats 4000000 in
theorem tPr_betterThan_J60 {X : KC} {q : Int × KM} (hX : kOk X 1 prog_7_method_6_code 7 "KeyPath$Profiles") (hR : kRet X (some .int) q) (x1 x2 x3 x4 x5 : Int) (σ : KM) {Θ : ((Int × Int × KM) ⊕ (Int × KM)) → Prop} (hT : ∀ z, Θ (.inr (z)) → z = q) (hb0 : ∀ s : Int × Int × KM, Θ (.inl s) → kW X 18 [lq 6, li x1, li x2, li x3, li s.1, li s.2.1, none] [] s.2.2) : kJ X 60 [lq 6, li x1, li x2, li x3, li x4, li x5, none] [] σ (fPr_betterThan_J60 x1 x2 x3 x4 x5 σ) Θ := by
  refine k_iincL (Lf := fun y1 => [lq 6, li x1, li x2, li x3, li x4, li y1, none]) hX dPr_betterThan_60 rfl (by decide) rfl (fun _ => rfl) (fun y1 => ?_)
  refine k_goto (tgt := 18) hX dPr_betterThan_63 (by decide) ?_
  exact k_back (hb0 (x4, y1, σ))
set_option maxRecDepth 100000 in
set_option maxHeartbeats 4000000 in
theorem tPr_betterThan_J57 {X : KC} {q : Int × KM} (hX : kOk X 1 prog_7_method_6_code 7 "KeyPath$Profiles") (hR : kRet X (some .int) q) (x1 x2 x3 x4 x5 : Int) (σ : KM) {Θ : ((Int × Int × KM) ⊕ (Int × KM)) → Prop} (hT : ∀ z, Θ (.inr (z)) → z = q) (hb0 : ∀ s : Int × Int × KM, Θ (.inl s) → kW X 18 [lq 6, li x1, li x2, li x3, li s.1, li s.2.1, none] [] s.2.2) : kJ X 57 [lq 6, li x1, li x2, li x3, li x4, li x5, none] [] σ (fPr_betterThan_J57 x1 x2 x3 x4 x5 σ) Θ := by
  refine k_iincL (Lf := fun y1 => [lq 6, li x1, li x2, li x3, li y1, li x5, none]) hX dPr_betterThan_57 rfl (by decide) rfl (fun _ => rfl) (fun y1 => ?_)
  exact tPr_betterThan_J60 hX hR x1 x2 x3 y1 x5 σ hT hb0
set_option maxRecDepth 100000 in
set_option maxHeartbeats 4000000 in
theorem tPr_betterThan_B18 {X : KC} {q : Int × KM} (hX : kOk X 1 prog_7_method_6_code 7 "KeyPath$Profiles") (hR : kRet X (some .int) q) (x1 x2 x3 x4 x5 : Int) (σ : KM) {Θ : ((Int × Int × KM) ⊕ (Int × KM)) → Prop} (hT : ∀ z, Θ (.inr (z)) → z = q) (hb0 : ∀ s : Int × Int × KM, Θ (.inl s) → kW X 18 [lq 6, li x1, li x2, li x3, li s.1, li s.2.1, none] [] s.2.2) : kJ X 18 [lq 6, li x1, li x2, li x3, li x4, li x5, none] [] σ (fPr_betterThan_B18 x1 x2 x3 x4 x5 σ) Θ := by
  refine k_iload hX dPr_betterThan_18 rfl ?_
  refine k_bipush hX dPr_betterThan_20 (by decide) ?_
  refine k_icmp_ge (tgt := 66) hX dPr_betterThan_22 (by decide) ?_ ?_
  · refine k_exit ?_
    refine k_less [true, false, false, false, true, false, true] (L' := [lq 6, none, none, none, li x4, none, none]) rfl ?_
    exact tPr_betterThan_J66 hX hR x4 σ hT
  · refine k_aload_n hX dPr_betterThan_25 rfl ?_
    refine gf_30 hX dPr_betterThan_26 ?_
    refine k_iload_n hX dPr_betterThan_29 rfl ?_
    refine k_bipush hX dPr_betterThan_30 (by decide) ?_
    refine k_imul hX dPr_betterThan_32 ?_
    refine k_iload hX dPr_betterThan_33 rfl ?_
    refine k_iadd hX dPr_betterThan_35 ?_
    refine k_iald hX (by decide) rfl dPr_betterThan_36 rfl (fun y1 => ?_)
    refine k_istore (L' := [lq 6, li x1, li x2, li x3, li x4, li x5, li y1]) hX dPr_betterThan_37 rfl (by decide) rfl ?_
    refine k_iload hX dPr_betterThan_39 rfl ?_
    refine k_iload_n hX dPr_betterThan_41 rfl ?_
    refine k_icmp_gt (tgt := 57) hX dPr_betterThan_42 (by decide) ?_ ?_
    · refine k_less [true, true, true, true, true, true, false] (L' := [lq 6, li x1, li x2, li x3, li x4, li x5, none]) rfl ?_
      exact tPr_betterThan_J57 hX hR x1 x2 x3 x4 x5 σ hT hb0
    · refine k_iload hX dPr_betterThan_45 rfl ?_
      refine k_iload_n hX dPr_betterThan_47 rfl ?_
      refine k_icmp_ne (tgt := 60) hX dPr_betterThan_48 (by decide) ?_ ?_
      · refine k_less [true, true, true, true, true, true, false] (L' := [lq 6, li x1, li x2, li x3, li x4, li x5, none]) rfl ?_
        exact tPr_betterThan_J60 hX hR x1 x2 x3 x4 x5 σ hT hb0
      · refine k_iload hX dPr_betterThan_51 rfl ?_
        refine k_iload_n hX dPr_betterThan_53 rfl ?_
        refine k_icmp_ge (tgt := 60) hX dPr_betterThan_54 (by decide) ?_ ?_
        · refine k_less [true, true, true, true, true, true, false] (L' := [lq 6, li x1, li x2, li x3, li x4, li x5, none]) rfl ?_
          exact tPr_betterThan_J60 hX hR x1 x2 x3 x4 x5 σ hT hb0
        · refine k_less [true, true, true, true, true, true, false] (L' := [lq 6, li x1, li x2, li x3, li x4, li x5, none]) rfl ?_
          exact tPr_betterThan_J57 hX hR x1 x2 x3 x4 x5 σ hT hb0
set_option maxRecDepth 100000 in
set_option maxHeartbeats 4000000 in
theorem tPr_betterThan_L18 {X : KC} {q : Int × KM} (hX : kOk X 1 prog_7_method_6_code 7 "KeyPath$Profiles") (hR : kRet X (some .int) q) (x1 x2 x3 x4 x5 : Int) (σ : KM) {Θ : (Int × KM) → Prop} (hT : ∀ z, Θ (z) → z = q) : kJ X 18 [lq 6, li x1, li x2, li x3, li x4, li x5, none] [] σ (fPr_betterThan_L18 x1 x2 x3 x4 x5 σ) Θ :=
  k_iter (f := fun s => fPr_betterThan_B18 x1 x2 x3 s.1 s.2.1 s.2.2) (Lf := fun s => [lq 6, li x1, li x2, li x3, li s.1, li s.2.1, none]) (mf := fun s => s.2.2) (Θ := Θ) (fun s => tPr_betterThan_B18 hX hR x1 x2 x3 s.1 s.2.1 s.2.2 hT (fun _ h9 => h9)) kF (x4, x5, σ)
set_option maxRecDepth 100000 in
set_option maxHeartbeats 4000000 in
theorem sPr_betterThan (x1 x2 : Int) (σ : KM) : kSem 1 (⟨"KeyPath$Profiles", "betterThan", "(II)I"⟩ : MethodName) prog_7_method_6_code 7 (some .int) [kr 6, ki x1, ki x2] σ (fPr_betterThan x1 x2 σ) := by
  refine kSem.of (L0 := [lq 6, li x1, li x2, none, none, none, none]) (by decide) (Nat.le_of_ble_eq_true rfl) rfl (fun X q hX hR => ?_)
  have hT : ∀ z : Int × KM, (fun z => z = q) z → z = q := fun _ h => h
  refine k_aload_n hX dPr_betterThan_0 rfl ?_
  refine gf_30 hX dPr_betterThan_1 ?_
  refine k_iload_n hX dPr_betterThan_4 rfl ?_
  refine k_bipush hX dPr_betterThan_5 (by decide) ?_
  refine k_imul hX dPr_betterThan_7 ?_
  refine k_iload_n hX dPr_betterThan_8 rfl ?_
  refine k_iadd hX dPr_betterThan_9 ?_
  refine k_iald hX (by decide) rfl dPr_betterThan_10 rfl (fun y1 => ?_)
  refine k_istore_n (L' := [lq 6, li x1, li x2, li y1, none, none, none]) hX dPr_betterThan_11 rfl (by decide) rfl ?_
  refine k_iconst hX dPr_betterThan_12 ?_
  refine k_istore (L' := [lq 6, li x1, li x2, li y1, li 0, none, none]) hX dPr_betterThan_13 rfl (by decide) rfl ?_
  refine k_iconst hX dPr_betterThan_15 ?_
  refine k_istore (L' := [lq 6, li x1, li x2, li y1, li 0, li 0, none]) hX dPr_betterThan_16 rfl (by decide) rfl ?_
  exact tPr_betterThan_L18 hX hR x1 x2 y1 0 0 σ hT
theorem cl_85 {X : KC} {d n : Nat} {cc : ByteArray} {pc : Nat} {L : List (Option KV)} {st : List KV} {σ : KM} {Z : Type} {Θ : Z → Prop} {G : Int → KM → Option Z} {x1 x2 : Int} (hX : kOk X d cc n "KeyPath$Profiles") (hdd : 1 + 1 ≤ d) (hst : k_cat st ≤ 8) (hd : decode cc pc = .ok (.invokevirtual 63, 3)) (h : ∀ r τ, kJ X (pc + 3) L (ki r :: st) τ (G r τ) Θ) : kJ X pc L (ki x2 :: ki x1 :: kr 6 :: st) σ (kCall (fPr_betterThan x1 x2 σ) G) Θ :=
  k_callV (np := 2) (av := [ki x1, ki x2]) (ret := (some .int)) hX (by decide) rfl rfl rfl (sPr_betterThan _ _ σ) ⟨⟨hdd, by decide⟩, tw_645, tw_6, by decide +kernel⟩ rfl tw_642 tw_644 ts_21 hst hd h
theorem dPr_keyOfRank_0 : decode prog_7_method_5_code 0 = .ok (.iconst 0, 1) := by decide +kernel
theorem dPr_keyOfRank_1 : decode prog_7_method_5_code 1 = .ok (.istore_n 3, 1) := by decide +kernel
theorem dPr_keyOfRank_2 : decode prog_7_method_5_code 2 = .ok (.iload_n 3, 1) := by decide +kernel
theorem dPr_keyOfRank_3 : decode prog_7_method_5_code 3 = .ok (.bipush 24, 2) := by decide +kernel
theorem dPr_keyOfRank_5 : decode prog_7_method_5_code 5 = .ok (.if_icmp .ge 21, 3) := by decide +kernel
theorem dPr_keyOfRank_8 : decode prog_7_method_5_code 8 = .ok (.aload_n 0, 1) := by decide +kernel
theorem dPr_keyOfRank_9 : decode prog_7_method_5_code 9 = .ok (.iload_n 1, 1) := by decide +kernel
theorem dPr_keyOfRank_10 : decode prog_7_method_5_code 10 = .ok (.iload_n 3, 1) := by decide +kernel
theorem dPr_keyOfRank_11 : decode prog_7_method_5_code 11 = .ok (.invokevirtual 63, 3) := by decide +kernel
theorem dPr_keyOfRank_14 : decode prog_7_method_5_code 14 = .ok (.iload_n 2, 1) := by decide +kernel
theorem dPr_keyOfRank_15 : decode prog_7_method_5_code 15 = .ok (.if_icmp .ne 5, 3) := by decide +kernel
theorem dPr_keyOfRank_18 : decode prog_7_method_5_code 18 = .ok (.iload_n 3, 1) := by decide +kernel
theorem dPr_keyOfRank_19 : decode prog_7_method_5_code 19 = .ok (.ireturn, 1) := by decide +kernel
theorem dPr_keyOfRank_20 : decode prog_7_method_5_code 20 = .ok (.iinc 3 1, 3) := by decide +kernel
theorem dPr_keyOfRank_23 : decode prog_7_method_5_code 23 = .ok (.goto (-21), 3) := by decide +kernel
theorem dPr_keyOfRank_26 : decode prog_7_method_5_code 26 = .ok (.iconst (-1), 1) := by decide +kernel
theorem dPr_keyOfRank_27 : decode prog_7_method_5_code 27 = .ok (.ireturn, 1) := by decide +kernel
set_option maxRecDepth 100000 in
set_option maxHeartbeats 4000000 in
theorem tPr_keyOfRank_J26 {X : KC} {q : Int × KM} (hX : kOk X 2 prog_7_method_5_code 4 "KeyPath$Profiles") (hR : kRet X (some .int) q) (σ : KM) {Θ : (Int × KM) → Prop} (hT : ∀ z, Θ (z) → z = q) : kJ X 26 [lq 6, none, none, none] [] σ (fPr_keyOfRank_J26 σ) Θ := by
  refine k_iconst hX dPr_keyOfRank_26 ?_
  exact k_iret hX hR hT dPr_keyOfRank_27
set_option maxRecDepth 100000 in
set_option maxHeartbeats 4000000 in
theorem tPr_keyOfRank_J18 {X : KC} {q : Int × KM} (hX : kOk X 2 prog_7_method_5_code 4 "KeyPath$Profiles") (hR : kRet X (some .int) q) (x3 : Int) (σ : KM) {Θ : (Int × KM) → Prop} (hT : ∀ z, Θ (z) → z = q) : kJ X 18 [lq 6, none, none, li x3] [] σ (fPr_keyOfRank_J18 x3 σ) Θ := by
  refine k_iload_n hX dPr_keyOfRank_18 rfl ?_
  exact k_iret hX hR hT dPr_keyOfRank_19
set_option maxRecDepth 100000 in
set_option maxHeartbeats 4000000 in
theorem tPr_keyOfRank_B2 {X : KC} {q : Int × KM} (hX : kOk X 2 prog_7_method_5_code 4 "KeyPath$Profiles") (hR : kRet X (some .int) q) (x1 x2 x3 : Int) (σ : KM) {Θ : ((Int × KM) ⊕ (Int × KM)) → Prop} (hT : ∀ z, Θ (.inr (z)) → z = q) (hb0 : ∀ s : Int × KM, Θ (.inl s) → kW X 2 [lq 6, li x1, li x2, li s.1] [] s.2) : kJ X 2 [lq 6, li x1, li x2, li x3] [] σ (fPr_keyOfRank_B2 x1 x2 x3 σ) Θ := by
  refine k_iload_n hX dPr_keyOfRank_2 rfl ?_
  refine k_bipush hX dPr_keyOfRank_3 (by decide) ?_
  refine k_icmp_ge (tgt := 26) hX dPr_keyOfRank_5 (by decide) ?_ ?_
  · refine k_exit ?_
    refine k_less [true, false, false, false] (L' := [lq 6, none, none, none]) rfl ?_
    exact tPr_keyOfRank_J26 hX hR σ hT
  · refine k_aload_n hX dPr_keyOfRank_8 rfl ?_
    refine k_iload_n hX dPr_keyOfRank_9 rfl ?_
    refine k_iload_n hX dPr_keyOfRank_10 rfl ?_
    refine cl_85 hX (by decide) (Nat.le_of_ble_eq_true rfl) dPr_keyOfRank_11 (fun r2 τ1 => ?_)
    refine k_iload_n hX dPr_keyOfRank_14 rfl ?_
    refine k_icmp_ne (tgt := 20) hX dPr_keyOfRank_15 (by decide) ?_ ?_
    · refine k_iincL (Lf := fun y3 => [lq 6, li x1, li x2, li y3]) hX dPr_keyOfRank_20 rfl (by decide) rfl (fun _ => rfl) (fun y3 => ?_)
      refine k_goto (tgt := 2) hX dPr_keyOfRank_23 (by decide) ?_
      exact k_back (hb0 (y3, τ1))
    · refine k_exit ?_
      refine k_less [true, false, false, true] (L' := [lq 6, none, none, li x3]) rfl ?_
      exact tPr_keyOfRank_J18 hX hR x3 τ1 hT
set_option maxRecDepth 100000 in
set_option maxHeartbeats 4000000 in
theorem tPr_keyOfRank_L2 {X : KC} {q : Int × KM} (hX : kOk X 2 prog_7_method_5_code 4 "KeyPath$Profiles") (hR : kRet X (some .int) q) (x1 x2 x3 : Int) (σ : KM) {Θ : (Int × KM) → Prop} (hT : ∀ z, Θ (z) → z = q) : kJ X 2 [lq 6, li x1, li x2, li x3] [] σ (fPr_keyOfRank_L2 x1 x2 x3 σ) Θ :=
  k_iter (f := fun s => fPr_keyOfRank_B2 x1 x2 s.1 s.2) (Lf := fun s => [lq 6, li x1, li x2, li s.1]) (mf := fun s => s.2) (Θ := Θ) (fun s => tPr_keyOfRank_B2 hX hR x1 x2 s.1 s.2 hT (fun _ h9 => h9)) kF (x3, σ)
set_option maxRecDepth 100000 in
set_option maxHeartbeats 4000000 in
theorem sPr_keyOfRank (x1 x2 : Int) (σ : KM) : kSem 2 (⟨"KeyPath$Profiles", "keyOfRank", "(II)I"⟩ : MethodName) prog_7_method_5_code 4 (some .int) [kr 6, ki x1, ki x2] σ (fPr_keyOfRank x1 x2 σ) := by
  refine kSem.of (L0 := [lq 6, li x1, li x2, none]) (by decide) (Nat.le_of_ble_eq_true rfl) rfl (fun X q hX hR => ?_)
  have hT : ∀ z : Int × KM, (fun z => z = q) z → z = q := fun _ h => h
  refine k_iconst hX dPr_keyOfRank_0 ?_
  refine k_istore_n (L' := [lq 6, li x1, li x2, li 0]) hX dPr_keyOfRank_1 rfl (by decide) rfl ?_
  exact tPr_keyOfRank_L2 hX hR x1 x2 0 σ hT
theorem cl_86 {X : KC} {d n : Nat} {cc : ByteArray} {pc : Nat} {L : List (Option KV)} {st : List KV} {σ : KM} {Z : Type} {Θ : Z → Prop} {G : Int → KM → Option Z} {x1 x2 : Int} (hX : kOk X d cc n "KeyPath") (hdd : 2 + 1 ≤ d) (hst : k_cat st ≤ 8) (hd : decode cc pc = .ok (.invokevirtual 218, 3)) (h : ∀ r τ, kJ X (pc + 3) L (ki r :: st) τ (G r τ) Θ) : kJ X pc L (ki x2 :: ki x1 :: kr 6 :: st) σ (kCall (fPr_keyOfRank x1 x2 σ) G) Θ :=
  k_callV (np := 2) (av := [ki x1, ki x2]) (ret := (some .int)) hX (by decide) rfl rfl rfl (sPr_keyOfRank _ _ σ) ⟨⟨hdd, by decide⟩, tw_641, tw_6, by decide +kernel⟩ rfl tw_638 tw_639 tw_640 hst hd h
theorem dP_overall_0 : decode prog_1_method_18_code 0 = .ok (.iload_n 1, 1) := by decide +kernel
theorem dP_overall_1 : decode prog_1_method_18_code 1 = .ok (.invokestatic 190, 3) := by decide +kernel
theorem dP_overall_4 : decode prog_1_method_18_code 4 = .ok (.ifCond .eq 6, 3) := by decide +kernel
theorem dP_overall_7 : decode prog_1_method_18_code 7 = .ok (.bipush (-3), 2) := by decide +kernel
theorem dP_overall_9 : decode prog_1_method_18_code 9 = .ok (.ireturn, 1) := by decide +kernel
theorem dP_overall_10 : decode prog_1_method_18_code 10 = .ok (.aload_n 0, 1) := by decide +kernel
theorem dP_overall_11 : decode prog_1_method_18_code 11 = .ok (.invokevirtual 212, 3) := by decide +kernel
theorem dP_overall_14 : decode prog_1_method_18_code 14 = .ok (.aload_n 0, 1) := by decide +kernel
theorem dP_overall_15 : decode prog_1_method_18_code 15 = .ok (.getfield 40, 3) := by decide +kernel
theorem dP_overall_18 : decode prog_1_method_18_code 18 = .ok (.bipush 48, 2) := by decide +kernel
theorem dP_overall_20 : decode prog_1_method_18_code 20 = .ok (.iload_n 1, 1) := by decide +kernel
theorem dP_overall_21 : decode prog_1_method_18_code 21 = .ok (.invokevirtual 218, 3) := by decide +kernel
theorem dP_overall_24 : decode prog_1_method_18_code 24 = .ok (.ireturn, 1) := by decide +kernel
set_option maxRecDepth 100000 in
set_option maxHeartbeats 4000000 in
theorem sP_overall (x1 : Int) (σ : KM) : kSem 7 (⟨"KeyPath", "overall", "(I)I"⟩ : MethodName) prog_1_method_18_code 2 (some .int) [kr 0, ki x1] σ (fP_overall x1 σ) := by
  refine kSem.of (L0 := [lq 0, li x1]) (by decide) (Nat.le_of_ble_eq_true rfl) rfl (fun X q hX hR => ?_)
  have hT : ∀ z : Int × KM, (fun z => z = q) z → z = q := fun _ h => h
  refine k_iload_n hX dP_overall_0 rfl ?_
  refine cl_44 hX (by decide) (Nat.le_of_ble_eq_true rfl) dP_overall_1 (fun r2 τ1 => ?_)
  refine k_if_eq (tgt := 10) hX dP_overall_4 (by decide) ?_ ?_
  · refine k_aload_n hX dP_overall_10 rfl ?_
    refine cl_14 hX (by decide) (Nat.le_of_ble_eq_true rfl) dP_overall_11 (fun _ τ3 => ?_)
    refine k_aload_n hX dP_overall_14 rfl ?_
    refine gf_23 hX dP_overall_15 ?_
    refine k_bipush hX dP_overall_18 (by decide) ?_
    refine k_iload_n hX dP_overall_20 rfl ?_
    refine cl_86 hX (by decide) (Nat.le_of_ble_eq_true rfl) dP_overall_21 (fun r5 τ4 => ?_)
    exact k_iret hX hR hT dP_overall_24
  · refine k_bipush hX dP_overall_7 (by decide) ?_
    exact k_iret hX hR hT dP_overall_9
theorem dP_pin_0 : decode prog_1_method_13_code 0 = .ok (.iconst 0, 1) := by decide +kernel
theorem dP_pin_1 : decode prog_1_method_13_code 1 = .ok (.bipush 47, 2) := by decide +kernel
theorem dP_pin_3 : decode prog_1_method_13_code 3 = .ok (.iload_n 1, 1) := by decide +kernel
theorem dP_pin_4 : decode prog_1_method_13_code 4 = .ok (.invokestatic 138, 3) := by decide +kernel
theorem dP_pin_7 : decode prog_1_method_13_code 7 = .ok (.ifCond .ne 15, 3) := by decide +kernel
theorem dP_pin_10 : decode prog_1_method_13_code 10 = .ok (.iload_n 2, 1) := by decide +kernel
theorem dP_pin_11 : decode prog_1_method_13_code 11 = .ok (.iconst (-1), 1) := by decide +kernel
theorem dP_pin_12 : decode prog_1_method_13_code 12 = .ok (.if_icmp .eq 13, 3) := by decide +kernel
theorem dP_pin_15 : decode prog_1_method_13_code 15 = .ok (.iload_n 2, 1) := by decide +kernel
theorem dP_pin_16 : decode prog_1_method_13_code 16 = .ok (.invokestatic 190, 3) := by decide +kernel
theorem dP_pin_19 : decode prog_1_method_13_code 19 = .ok (.ifCond .eq 6, 3) := by decide +kernel
theorem dP_pin_22 : decode prog_1_method_13_code 22 = .ok (.bipush (-2), 2) := by decide +kernel
theorem dP_pin_24 : decode prog_1_method_13_code 24 = .ok (.ireturn, 1) := by decide +kernel
theorem dP_pin_25 : decode prog_1_method_13_code 25 = .ok (.aload_n 0, 1) := by decide +kernel
theorem dP_pin_26 : decode prog_1_method_13_code 26 = .ok (.getfield 54, 3) := by decide +kernel
theorem dP_pin_29 : decode prog_1_method_13_code 29 = .ok (.getfield 193, 3) := by decide +kernel
theorem dP_pin_32 : decode prog_1_method_13_code 32 = .ok (.iload_n 1, 1) := by decide +kernel
theorem dP_pin_33 : decode prog_1_method_13_code 33 = .ok (.iaload, 1) := by decide +kernel
theorem dP_pin_34 : decode prog_1_method_13_code 34 = .ok (.istore_n 3, 1) := by decide +kernel
theorem dP_pin_35 : decode prog_1_method_13_code 35 = .ok (.aload_n 0, 1) := by decide +kernel
theorem dP_pin_36 : decode prog_1_method_13_code 36 = .ok (.getfield 54, 3) := by decide +kernel
theorem dP_pin_39 : decode prog_1_method_13_code 39 = .ok (.getfield 193, 3) := by decide +kernel
theorem dP_pin_42 : decode prog_1_method_13_code 42 = .ok (.iload_n 1, 1) := by decide +kernel
theorem dP_pin_43 : decode prog_1_method_13_code 43 = .ok (.iload_n 2, 1) := by decide +kernel
theorem dP_pin_44 : decode prog_1_method_13_code 44 = .ok (.iastore, 1) := by decide +kernel
theorem dP_pin_45 : decode prog_1_method_13_code 45 = .ok (.aload_n 0, 1) := by decide +kernel
theorem dP_pin_46 : decode prog_1_method_13_code 46 = .ok (.invokevirtual 187, 3) := by decide +kernel
theorem dP_pin_49 : decode prog_1_method_13_code 49 = .ok (.iload_n 3, 1) := by decide +kernel
theorem dP_pin_50 : decode prog_1_method_13_code 50 = .ok (.ireturn, 1) := by decide +kernel
set_option maxRecDepth 100000 in
set_option maxHeartbeats 4000000 in
theorem tP_pin_J22 {X : KC} {q : Int × KM} (hX : kOk X 3 prog_1_method_13_code 4 "KeyPath") (hR : kRet X (some .int) q) (σ : KM) {Θ : (Int × KM) → Prop} (hT : ∀ z, Θ (z) → z = q) : kJ X 22 [lq 0, none, none, none] [] σ (fP_pin_J22 σ) Θ := by
  refine k_bipush hX dP_pin_22 (by decide) ?_
  exact k_iret hX hR hT dP_pin_24
set_option maxRecDepth 100000 in
set_option maxHeartbeats 4000000 in
theorem tP_pin_J25 {X : KC} {q : Int × KM} (hX : kOk X 3 prog_1_method_13_code 4 "KeyPath") (hR : kRet X (some .int) q) (x1 x2 : Int) (σ : KM) {Θ : (Int × KM) → Prop} (hT : ∀ z, Θ (z) → z = q) : kJ X 25 [lq 0, li x1, li x2, none] [] σ (fP_pin_J25 x1 x2 σ) Θ := by
  refine k_aload_n hX dP_pin_25 rfl ?_
  refine gf_20 hX dP_pin_26 ?_
  refine gf_143 hX dP_pin_29 ?_
  refine k_iload_n hX dP_pin_32 rfl ?_
  refine k_iald hX (by decide) rfl dP_pin_33 rfl (fun y1 => ?_)
  refine k_istore_n (L' := [lq 0, li x1, li x2, li y1]) hX dP_pin_34 rfl (by decide) rfl ?_
  refine k_aload_n hX dP_pin_35 rfl ?_
  refine gf_20 hX dP_pin_36 ?_
  refine gf_143 hX dP_pin_39 ?_
  refine k_iload_n hX dP_pin_42 rfl ?_
  refine k_iload_n hX dP_pin_43 rfl ?_
  refine k_iast hX (by decide) rfl dP_pin_44 rfl (fun τ2 => ?_)
  refine k_aload_n hX dP_pin_45 rfl ?_
  refine cl_48 hX (by decide) (Nat.le_of_ble_eq_true rfl) dP_pin_46 (fun _ τ3 => ?_)
  refine k_iload_n hX dP_pin_49 rfl ?_
  exact k_iret hX hR hT dP_pin_50
set_option maxRecDepth 100000 in
set_option maxHeartbeats 4000000 in
theorem sP_pin (x1 x2 : Int) (σ : KM) : kSem 3 (⟨"KeyPath", "pin", "(II)I"⟩ : MethodName) prog_1_method_13_code 4 (some .int) [kr 0, ki x1, ki x2] σ (fP_pin x1 x2 σ) := by
  refine kSem.of (L0 := [lq 0, li x1, li x2, none]) (by decide) (Nat.le_of_ble_eq_true rfl) rfl (fun X q hX hR => ?_)
  have hT : ∀ z : Int × KM, (fun z => z = q) z → z = q := fun _ h => h
  refine k_iconst hX dP_pin_0 ?_
  refine k_bipush hX dP_pin_1 (by decide) ?_
  refine k_iload_n hX dP_pin_3 rfl ?_
  refine cl_43 hX (by decide) (Nat.le_of_ble_eq_true rfl) dP_pin_4 (fun r2 τ1 => ?_)
  refine k_if_ne (tgt := 22) hX dP_pin_7 (by decide) ?_ ?_
  · refine k_less [true, false, false, true] (L' := [lq 0, none, none, none]) rfl ?_
    exact tP_pin_J22 hX hR τ1 hT
  · refine k_iload_n hX dP_pin_10 rfl ?_
    refine k_iconst hX dP_pin_11 ?_
    refine k_icmp_eq (tgt := 25) hX dP_pin_12 (by decide) ?_ ?_
    · exact tP_pin_J25 hX hR x1 x2 τ1 hT
    · refine k_iload_n hX dP_pin_15 rfl ?_
      refine cl_44 hX (by decide) (Nat.le_of_ble_eq_true rfl) dP_pin_16 (fun r4 τ3 => ?_)
      refine k_if_eq (tgt := 25) hX dP_pin_19 (by decide) ?_ ?_
      · exact tP_pin_J25 hX hR x1 x2 τ3 hT
      · refine k_less [true, false, false, true] (L' := [lq 0, none, none, none]) rfl ?_
        exact tP_pin_J22 hX hR τ3 hT
theorem dWi_sound_0 : decode prog_9_method_9_code 0 = .ok (.ldc 80, 2) := by decide +kernel
theorem dWi_sound_2 : decode prog_9_method_9_code 2 = .ok (.istore_n 3, 1) := by decide +kernel
theorem dWi_sound_3 : decode prog_9_method_9_code 3 = .ok (.iconst 0, 1) := by decide +kernel
theorem dWi_sound_4 : decode prog_9_method_9_code 4 = .ok (.istore 4, 2) := by decide +kernel
theorem dWi_sound_6 : decode prog_9_method_9_code 6 = .ok (.iload 4, 2) := by decide +kernel
theorem dWi_sound_8 : decode prog_9_method_9_code 8 = .ok (.iconst 3, 1) := by decide +kernel
theorem dWi_sound_9 : decode prog_9_method_9_code 9 = .ok (.if_icmp .ge 53, 3) := by decide +kernel
theorem dWi_sound_12 : decode prog_9_method_9_code 12 = .ok (.iload_n 2, 1) := by decide +kernel
theorem dWi_sound_13 : decode prog_9_method_9_code 13 = .ok (.iload 4, 2) := by decide +kernel
theorem dWi_sound_15 : decode prog_9_method_9_code 15 = .ok (.invokestatic 77, 3) := by decide +kernel
theorem dWi_sound_18 : decode prog_9_method_9_code 18 = .ok (.istore 5, 2) := by decide +kernel
theorem dWi_sound_20 : decode prog_9_method_9_code 20 = .ok (.aload_n 0, 1) := by decide +kernel
theorem dWi_sound_21 : decode prog_9_method_9_code 21 = .ok (.getfield 18, 3) := by decide +kernel
theorem dWi_sound_24 : decode prog_9_method_9_code 24 = .ok (.iload_n 1, 1) := by decide +kernel
theorem dWi_sound_25 : decode prog_9_method_9_code 25 = .ok (.bipush 12, 2) := by decide +kernel
theorem dWi_sound_27 : decode prog_9_method_9_code 27 = .ok (.imul, 1) := by decide +kernel
theorem dWi_sound_28 : decode prog_9_method_9_code 28 = .ok (.iload 5, 2) := by decide +kernel
theorem dWi_sound_30 : decode prog_9_method_9_code 30 = .ok (.iadd, 1) := by decide +kernel
theorem dWi_sound_31 : decode prog_9_method_9_code 31 = .ok (.iaload, 1) := by decide +kernel
theorem dWi_sound_32 : decode prog_9_method_9_code 32 = .ok (.aload_n 0, 1) := by decide +kernel
theorem dWi_sound_33 : decode prog_9_method_9_code 33 = .ok (.getfield 18, 3) := by decide +kernel
theorem dWi_sound_36 : decode prog_9_method_9_code 36 = .ok (.iload_n 1, 1) := by decide +kernel
theorem dWi_sound_37 : decode prog_9_method_9_code 37 = .ok (.iconst 1, 1) := by decide +kernel
theorem dWi_sound_38 : decode prog_9_method_9_code 38 = .ok (.iadd, 1) := by decide +kernel
theorem dWi_sound_39 : decode prog_9_method_9_code 39 = .ok (.bipush 12, 2) := by decide +kernel
theorem dWi_sound_41 : decode prog_9_method_9_code 41 = .ok (.imul, 1) := by decide +kernel
theorem dWi_sound_42 : decode prog_9_method_9_code 42 = .ok (.iload 5, 2) := by decide +kernel
theorem dWi_sound_44 : decode prog_9_method_9_code 44 = .ok (.iadd, 1) := by decide +kernel
theorem dWi_sound_45 : decode prog_9_method_9_code 45 = .ok (.iaload, 1) := by decide +kernel
theorem dWi_sound_46 : decode prog_9_method_9_code 46 = .ok (.iadd, 1) := by decide +kernel
theorem dWi_sound_47 : decode prog_9_method_9_code 47 = .ok (.istore 6, 2) := by decide +kernel
theorem dWi_sound_49 : decode prog_9_method_9_code 49 = .ok (.iload_n 3, 1) := by decide +kernel
theorem dWi_sound_50 : decode prog_9_method_9_code 50 = .ok (.iload 6, 2) := by decide +kernel
theorem dWi_sound_52 : decode prog_9_method_9_code 52 = .ok (.invokestatic 42, 3) := by decide +kernel
theorem dWi_sound_55 : decode prog_9_method_9_code 55 = .ok (.istore_n 3, 1) := by decide +kernel
theorem dWi_sound_56 : decode prog_9_method_9_code 56 = .ok (.iinc 4 1, 3) := by decide +kernel
theorem dWi_sound_59 : decode prog_9_method_9_code 59 = .ok (.goto (-53), 3) := by decide +kernel
theorem dWi_sound_62 : decode prog_9_method_9_code 62 = .ok (.iload_n 3, 1) := by decide +kernel
theorem dWi_sound_63 : decode prog_9_method_9_code 63 = .ok (.ireturn, 1) := by decide +kernel
set_option maxRecDepth 100000 in
set_option maxHeartbeats 4000000 in
theorem tWi_sound_J62 {X : KC} {q : Int × KM} (hX : kOk X 2 prog_9_method_9_code 7 "KeyPath$Windows") (hR : kRet X (some .int) q) (x3 : Int) (σ : KM) {Θ : (Int × KM) → Prop} (hT : ∀ z, Θ (z) → z = q) : kJ X 62 [lq 5, none, none, li x3, none, none, none] [] σ (fWi_sound_J62 x3 σ) Θ := by
  refine k_iload_n hX dWi_sound_62 rfl ?_
  exact k_iret hX hR hT dWi_sound_63
set_option maxRecDepth 100000 in
set_option maxHeartbeats 4000000 in
theorem tWi_sound_B6 {X : KC} {q : Int × KM} (hX : kOk X 2 prog_9_method_9_code 7 "KeyPath$Windows") (hR : kRet X (some .int) q) (x1 x2 x3 x4 : Int) (σ : KM) {Θ : ((Int × Int × KM) ⊕ (Int × KM)) → Prop} (hT : ∀ z, Θ (.inr (z)) → z = q) (hb0 : ∀ s : Int × Int × KM, Θ (.inl s) → kW X 6 [lq 5, li x1, li x2, li s.1, li s.2.1, none, none] [] s.2.2) : kJ X 6 [lq 5, li x1, li x2, li x3, li x4, none, none] [] σ (fWi_sound_B6 x1 x2 x3 x4 σ) Θ := by
  refine k_iload hX dWi_sound_6 rfl ?_
  refine k_iconst hX dWi_sound_8 ?_
  refine k_icmp_ge (tgt := 62) hX dWi_sound_9 (by decide) ?_ ?_
  · refine k_exit ?_
    refine k_less [true, false, false, true, false, true, true] (L' := [lq 5, none, none, li x3, none, none, none]) rfl ?_
    exact tWi_sound_J62 hX hR x3 σ hT
  · refine k_iload_n hX dWi_sound_12 rfl ?_
    refine k_iload hX dWi_sound_13 rfl ?_
    refine cl_5 hX (by decide) (Nat.le_of_ble_eq_true rfl) dWi_sound_15 (fun r2 τ1 => ?_)
    refine k_istore (L' := [lq 5, li x1, li x2, li x3, li x4, li r2, none]) hX dWi_sound_18 rfl (by decide) rfl ?_
    refine k_aload_n hX dWi_sound_20 rfl ?_
    refine gf_9 hX dWi_sound_21 ?_
    refine k_iload_n hX dWi_sound_24 rfl ?_
    refine k_bipush hX dWi_sound_25 (by decide) ?_
    refine k_imul hX dWi_sound_27 ?_
    refine k_iload hX dWi_sound_28 rfl ?_
    refine k_iadd hX dWi_sound_30 ?_
    refine k_iald hX (by decide) rfl dWi_sound_31 rfl (fun y3 => ?_)
    refine k_aload_n hX dWi_sound_32 rfl ?_
    refine gf_9 hX dWi_sound_33 ?_
    refine k_iload_n hX dWi_sound_36 rfl ?_
    refine k_iconst hX dWi_sound_37 ?_
    refine k_iadd hX dWi_sound_38 ?_
    refine k_bipush hX dWi_sound_39 (by decide) ?_
    refine k_imul hX dWi_sound_41 ?_
    refine k_iload hX dWi_sound_42 rfl ?_
    refine k_iadd hX dWi_sound_44 ?_
    refine k_iald hX (by decide) rfl dWi_sound_45 rfl (fun y4 => ?_)
    refine k_iadd hX dWi_sound_46 ?_
    refine k_istoreL (Lf := fun y5 => [lq 5, li x1, li x2, li x3, li x4, li r2, li y5]) hX dWi_sound_47 rfl (by decide) (fun _ => rfl) (fun y5 => ?_)
    refine k_iload_n hX dWi_sound_49 rfl ?_
    refine k_iload hX dWi_sound_50 rfl ?_
    refine k_mmin hX (by decide) (Nat.le_of_ble_eq_true rfl) tw_550 tw_379 tw_12 tw_380 dWi_sound_52 (fun y6 => ?_)
    refine k_istore_n (L' := [lq 5, li x1, li x2, li y6, li x4, li r2, li y5]) hX dWi_sound_55 rfl (by decide) rfl ?_
    refine k_iincL (Lf := fun y7 => [lq 5, li x1, li x2, li y6, li y7, li r2, li y5]) hX dWi_sound_56 rfl (by decide) rfl (fun _ => rfl) (fun y7 => ?_)
    refine k_goto (tgt := 6) hX dWi_sound_59 (by decide) ?_
    refine k_less [true, true, true, true, true, false, false] (L' := [lq 5, li x1, li x2, li y6, li y7, none, none]) rfl ?_
    exact k_back (hb0 (y6, y7, τ1))
set_option maxRecDepth 100000 in
set_option maxHeartbeats 4000000 in
theorem tWi_sound_L6 {X : KC} {q : Int × KM} (hX : kOk X 2 prog_9_method_9_code 7 "KeyPath$Windows") (hR : kRet X (some .int) q) (x1 x2 x3 x4 : Int) (σ : KM) {Θ : (Int × KM) → Prop} (hT : ∀ z, Θ (z) → z = q) : kJ X 6 [lq 5, li x1, li x2, li x3, li x4, none, none] [] σ (fWi_sound_L6 x1 x2 x3 x4 σ) Θ :=
  k_iter (f := fun s => fWi_sound_B6 x1 x2 s.1 s.2.1 s.2.2) (Lf := fun s => [lq 5, li x1, li x2, li s.1, li s.2.1, none, none]) (mf := fun s => s.2.2) (Θ := Θ) (fun s => tWi_sound_B6 hX hR x1 x2 s.1 s.2.1 s.2.2 hT (fun _ h9 => h9)) kF (x3, x4, σ)
set_option maxRecDepth 100000 in
set_option maxHeartbeats 4000000 in
theorem sWi_sound (x1 x2 : Int) (σ : KM) : kSem 2 (⟨"KeyPath$Windows", "sound", "(II)I"⟩ : MethodName) prog_9_method_9_code 7 (some .int) [kr 5, ki x1, ki x2] σ (fWi_sound x1 x2 σ) := by
  refine kSem.of (L0 := [lq 5, li x1, li x2, none, none, none, none]) (by decide) (Nat.le_of_ble_eq_true rfl) rfl (fun X q hX hR => ?_)
  have hT : ∀ z : Int × KM, (fun z => z = q) z → z = q := fun _ h => h
  refine k_ldc (v := 1000000000) (w := 0) hX dWi_sound_0 tw_879 ?_
  refine k_istore_n (L' := [lq 5, li x1, li x2, li 1000000000, none, none, none]) hX dWi_sound_2 rfl (by decide) rfl ?_
  refine k_iconst hX dWi_sound_3 ?_
  refine k_istore (L' := [lq 5, li x1, li x2, li 1000000000, li 0, none, none]) hX dWi_sound_4 rfl (by decide) rfl ?_
  exact tWi_sound_L6 hX hR x1 x2 1000000000 0 σ hT
theorem cl_88 {X : KC} {d n : Nat} {cc : ByteArray} {pc : Nat} {L : List (Option KV)} {st : List KV} {σ : KM} {Z : Type} {Θ : Z → Prop} {G : Int → KM → Option Z} {x1 x2 : Int} (hX : kOk X d cc n "KeyPath$Windows") (hdd : 2 + 1 ≤ d) (hst : k_cat st ≤ 8) (hd : decode cc pc = .ok (.invokevirtual 84, 3)) (h : ∀ r τ, kJ X (pc + 3) L (ki r :: st) τ (G r τ) Θ) : kJ X pc L (ki x2 :: ki x1 :: kr 5 :: st) σ (kCall (fWi_sound x1 x2 σ) G) Θ :=
  k_callV (np := 2) (av := [ki x1, ki x2]) (ret := (some .int)) hX (by decide) rfl rfl rfl (sWi_sound _ _ σ) ⟨⟨hdd, by decide⟩, tw_878, tw_5, by decide +kernel⟩ rfl tw_875 tw_876 tw_877 hst hd h
theorem cl_90 {X : KC} {d n : Nat} {cc : ByteArray} {pc : Nat} {L : List (Option KV)} {st : List KV} {σ : KM} {Z : Type} {Θ : Z → Prop} {G : Int → KM → Option Z} {x1 x2 : Int} (hX : kOk X d cc n "KeyPath") (hdd : 2 + 1 ≤ d) (hst : k_cat st ≤ 8) (hd : decode cc pc = .ok (.invokevirtual 298, 3)) (h : ∀ r τ, kJ X (pc + 3) L (ki r :: st) τ (G r τ) Θ) : kJ X pc L (ki x2 :: ki x1 :: kr 5 :: st) σ (kCall (fWi_sound x1 x2 σ) G) Θ :=
  k_callV (np := 2) (av := [ki x1, ki x2]) (ret := (some .int)) hX (by decide) rfl rfl rfl (sWi_sound _ _ σ) ⟨⟨hdd, by decide⟩, tw_878, tw_5, by decide +kernel⟩ rfl tw_881 tw_876 tw_877 hst hd h
theorem dWi_pivotTriad_0 : decode prog_9_method_10_code 0 = .ok (.iconst (-1), 1) := by decide +kernel
theorem dWi_pivotTriad_1 : decode prog_9_method_10_code 1 = .ok (.istore 4, 2) := by decide +kernel
theorem dWi_pivotTriad_3 : decode prog_9_method_10_code 3 = .ok (.iconst 0, 1) := by decide +kernel
theorem dWi_pivotTriad_4 : decode prog_9_method_10_code 4 = .ok (.istore 5, 2) := by decide +kernel
theorem dWi_pivotTriad_6 : decode prog_9_method_10_code 6 = .ok (.iconst 0, 1) := by decide +kernel
theorem dWi_pivotTriad_7 : decode prog_9_method_10_code 7 = .ok (.istore 6, 2) := by decide +kernel
theorem dWi_pivotTriad_9 : decode prog_9_method_10_code 9 = .ok (.iload 6, 2) := by decide +kernel
theorem dWi_pivotTriad_11 : decode prog_9_method_10_code 11 = .ok (.bipush 36, 2) := by decide +kernel
theorem dWi_pivotTriad_13 : decode prog_9_method_10_code 13 = .ok (.if_icmp .ge 56, 3) := by decide +kernel
theorem dWi_pivotTriad_16 : decode prog_9_method_10_code 16 = .ok (.iload 6, 2) := by decide +kernel
theorem dWi_pivotTriad_18 : decode prog_9_method_10_code 18 = .ok (.iload_n 2, 1) := by decide +kernel
theorem dWi_pivotTriad_19 : decode prog_9_method_10_code 19 = .ok (.invokestatic 81, 3) := by decide +kernel
theorem dWi_pivotTriad_22 : decode prog_9_method_10_code 22 = .ok (.iconst (-1), 1) := by decide +kernel
theorem dWi_pivotTriad_23 : decode prog_9_method_10_code 23 = .ok (.if_icmp .eq 40, 3) := by decide +kernel
theorem dWi_pivotTriad_26 : decode prog_9_method_10_code 26 = .ok (.iload 6, 2) := by decide +kernel
theorem dWi_pivotTriad_28 : decode prog_9_method_10_code 28 = .ok (.iload_n 3, 1) := by decide +kernel
theorem dWi_pivotTriad_29 : decode prog_9_method_10_code 29 = .ok (.invokestatic 81, 3) := by decide +kernel
theorem dWi_pivotTriad_32 : decode prog_9_method_10_code 32 = .ok (.iconst (-1), 1) := by decide +kernel
theorem dWi_pivotTriad_33 : decode prog_9_method_10_code 33 = .ok (.if_icmp .ne 6, 3) := by decide +kernel
theorem dWi_pivotTriad_36 : decode prog_9_method_10_code 36 = .ok (.goto 27, 3) := by decide +kernel
theorem dWi_pivotTriad_39 : decode prog_9_method_10_code 39 = .ok (.aload_n 0, 1) := by decide +kernel
theorem dWi_pivotTriad_40 : decode prog_9_method_10_code 40 = .ok (.iload_n 1, 1) := by decide +kernel
theorem dWi_pivotTriad_41 : decode prog_9_method_10_code 41 = .ok (.iload 6, 2) := by decide +kernel
theorem dWi_pivotTriad_43 : decode prog_9_method_10_code 43 = .ok (.invokevirtual 84, 3) := by decide +kernel
theorem dWi_pivotTriad_46 : decode prog_9_method_10_code 46 = .ok (.istore 7, 2) := by decide +kernel
theorem dWi_pivotTriad_48 : decode prog_9_method_10_code 48 = .ok (.iload 7, 2) := by decide +kernel
theorem dWi_pivotTriad_50 : decode prog_9_method_10_code 50 = .ok (.iload 5, 2) := by decide +kernel
theorem dWi_pivotTriad_52 : decode prog_9_method_10_code 52 = .ok (.if_icmp .le 11, 3) := by decide +kernel
theorem dWi_pivotTriad_55 : decode prog_9_method_10_code 55 = .ok (.iload 7, 2) := by decide +kernel
theorem dWi_pivotTriad_57 : decode prog_9_method_10_code 57 = .ok (.istore 5, 2) := by decide +kernel
theorem dWi_pivotTriad_59 : decode prog_9_method_10_code 59 = .ok (.iload 6, 2) := by decide +kernel
theorem dWi_pivotTriad_61 : decode prog_9_method_10_code 61 = .ok (.istore 4, 2) := by decide +kernel
theorem dWi_pivotTriad_63 : decode prog_9_method_10_code 63 = .ok (.iinc 6 1, 3) := by decide +kernel
theorem dWi_pivotTriad_66 : decode prog_9_method_10_code 66 = .ok (.goto (-57), 3) := by decide +kernel
theorem dWi_pivotTriad_69 : decode prog_9_method_10_code 69 = .ok (.iload 4, 2) := by decide +kernel
theorem dWi_pivotTriad_71 : decode prog_9_method_10_code 71 = .ok (.ireturn, 1) := by decide +kernel
set_option maxRecDepth 100000 in
set_option maxHeartbeats 4000000 in
theorem tWi_pivotTriad_J69 {X : KC} {q : Int × KM} (hX : kOk X 4 prog_9_method_10_code 8 "KeyPath$Windows") (hR : kRet X (some .int) q) (x4 : Int) (σ : KM) {Θ : (Int × KM) → Prop} (hT : ∀ z, Θ (z) → z = q) : kJ X 69 [lq 5, none, none, none, li x4, none, none, none] [] σ (fWi_pivotTriad_J69 x4 σ) Θ := by
  refine k_iload hX dWi_pivotTriad_69 rfl ?_
  exact k_iret hX hR hT dWi_pivotTriad_71
set_option maxRecDepth 100000 in
set_option maxHeartbeats 4000000 in
theorem tWi_pivotTriad_J63 {X : KC} {q : Int × KM} (hX : kOk X 4 prog_9_method_10_code 8 "KeyPath$Windows") (hR : kRet X (some .int) q) (x1 x2 x3 x4 x5 x6 : Int) (σ : KM) {Θ : ((Int × Int × Int × KM) ⊕ (Int × KM)) → Prop} (hT : ∀ z, Θ (.inr (z)) → z = q) (hb0 : ∀ s : Int × Int × Int × KM, Θ (.inl s) → kW X 9 [lq 5, li x1, li x2, li x3, li s.1, li s.2.1, li s.2.2.1, none] [] s.2.2.2) : kJ X 63 [lq 5, li x1, li x2, li x3, li x4, li x5, li x6, none] [] σ (fWi_pivotTriad_J63 x1 x2 x3 x4 x5 x6 σ) Θ := by
  refine k_iincL (Lf := fun y1 => [lq 5, li x1, li x2, li x3, li x4, li x5, li y1, none]) hX dWi_pivotTriad_63 rfl (by decide) rfl (fun _ => rfl) (fun y1 => ?_)
  refine k_goto (tgt := 9) hX dWi_pivotTriad_66 (by decide) ?_
  exact k_back (hb0 (x4, x5, y1, σ))
set_option maxRecDepth 100000 in
set_option maxHeartbeats 4000000 in
theorem tWi_pivotTriad_B9 {X : KC} {q : Int × KM} (hX : kOk X 4 prog_9_method_10_code 8 "KeyPath$Windows") (hR : kRet X (some .int) q) (x1 x2 x3 x4 x5 x6 : Int) (σ : KM) {Θ : ((Int × Int × Int × KM) ⊕ (Int × KM)) → Prop} (hT : ∀ z, Θ (.inr (z)) → z = q) (hb0 : ∀ s : Int × Int × Int × KM, Θ (.inl s) → kW X 9 [lq 5, li x1, li x2, li x3, li s.1, li s.2.1, li s.2.2.1, none] [] s.2.2.2) : kJ X 9 [lq 5, li x1, li x2, li x3, li x4, li x5, li x6, none] [] σ (fWi_pivotTriad_B9 x1 x2 x3 x4 x5 x6 σ) Θ := by
  refine k_iload hX dWi_pivotTriad_9 rfl ?_
  refine k_bipush hX dWi_pivotTriad_11 (by decide) ?_
  refine k_icmp_ge (tgt := 69) hX dWi_pivotTriad_13 (by decide) ?_ ?_
  · refine k_exit ?_
    refine k_less [true, false, false, false, true, false, false, true] (L' := [lq 5, none, none, none, li x4, none, none, none]) rfl ?_
    exact tWi_pivotTriad_J69 hX hR x4 σ hT
  · refine k_iload hX dWi_pivotTriad_16 rfl ?_
    refine k_iload_n hX dWi_pivotTriad_18 rfl ?_
    refine cl_87 hX (by decide) (Nat.le_of_ble_eq_true rfl) dWi_pivotTriad_19 (fun r2 τ1 => ?_)
    refine k_iconst hX dWi_pivotTriad_22 ?_
    refine k_icmp_eq (tgt := 63) hX dWi_pivotTriad_23 (by decide) ?_ ?_
    · exact tWi_pivotTriad_J63 hX hR x1 x2 x3 x4 x5 x6 τ1 hT hb0
    · refine k_iload hX dWi_pivotTriad_26 rfl ?_
      refine k_iload_n hX dWi_pivotTriad_28 rfl ?_
      refine cl_87 hX (by decide) (Nat.le_of_ble_eq_true rfl) dWi_pivotTriad_29 (fun r4 τ3 => ?_)
      refine k_iconst hX dWi_pivotTriad_32 ?_
      refine k_icmp_ne (tgt := 39) hX dWi_pivotTriad_33 (by decide) ?_ ?_
      · refine k_aload_n hX dWi_pivotTriad_39 rfl ?_
        refine k_iload_n hX dWi_pivotTriad_40 rfl ?_
        refine k_iload hX dWi_pivotTriad_41 rfl ?_
        refine cl_88 hX (by decide) (Nat.le_of_ble_eq_true rfl) dWi_pivotTriad_43 (fun r6 τ5 => ?_)
        refine k_istore (L' := [lq 5, li x1, li x2, li x3, li x4, li x5, li x6, li r6]) hX dWi_pivotTriad_46 rfl (by decide) rfl ?_
        refine k_iload hX dWi_pivotTriad_48 rfl ?_
        refine k_iload hX dWi_pivotTriad_50 rfl ?_
        refine k_icmp_le (tgt := 63) hX dWi_pivotTriad_52 (by decide) ?_ ?_
        · refine k_less [true, true, true, true, true, true, true, false] (L' := [lq 5, li x1, li x2, li x3, li x4, li x5, li x6, none]) rfl ?_
          exact tWi_pivotTriad_J63 hX hR x1 x2 x3 x4 x5 x6 τ5 hT hb0
        · refine k_iload hX dWi_pivotTriad_55 rfl ?_
          refine k_istore (L' := [lq 5, li x1, li x2, li x3, li x4, li r6, li x6, li r6]) hX dWi_pivotTriad_57 rfl (by decide) rfl ?_
          refine k_iload hX dWi_pivotTriad_59 rfl ?_
          refine k_istore (L' := [lq 5, li x1, li x2, li x3, li x6, li r6, li x6, li r6]) hX dWi_pivotTriad_61 rfl (by decide) rfl ?_
          refine k_less [true, true, true, true, true, true, true, false] (L' := [lq 5, li x1, li x2, li x3, li x6, li r6, li x6, none]) rfl ?_
          exact tWi_pivotTriad_J63 hX hR x1 x2 x3 x6 r6 x6 τ5 hT hb0
      · refine k_goto (tgt := 63) hX dWi_pivotTriad_36 (by decide) ?_
        exact tWi_pivotTriad_J63 hX hR x1 x2 x3 x4 x5 x6 τ3 hT hb0
set_option maxRecDepth 100000 in
set_option maxHeartbeats 4000000 in
theorem tWi_pivotTriad_L9 {X : KC} {q : Int × KM} (hX : kOk X 4 prog_9_method_10_code 8 "KeyPath$Windows") (hR : kRet X (some .int) q) (x1 x2 x3 x4 x5 x6 : Int) (σ : KM) {Θ : (Int × KM) → Prop} (hT : ∀ z, Θ (z) → z = q) : kJ X 9 [lq 5, li x1, li x2, li x3, li x4, li x5, li x6, none] [] σ (fWi_pivotTriad_L9 x1 x2 x3 x4 x5 x6 σ) Θ :=
  k_iter (f := fun s => fWi_pivotTriad_B9 x1 x2 x3 s.1 s.2.1 s.2.2.1 s.2.2.2) (Lf := fun s => [lq 5, li x1, li x2, li x3, li s.1, li s.2.1, li s.2.2.1, none]) (mf := fun s => s.2.2.2) (Θ := Θ) (fun s => tWi_pivotTriad_B9 hX hR x1 x2 x3 s.1 s.2.1 s.2.2.1 s.2.2.2 hT (fun _ h9 => h9)) kF (x4, x5, x6, σ)
set_option maxRecDepth 100000 in
set_option maxHeartbeats 4000000 in
theorem sWi_pivotTriad (x1 x2 x3 : Int) (σ : KM) : kSem 4 (⟨"KeyPath$Windows", "pivotTriad", "(III)I"⟩ : MethodName) prog_9_method_10_code 8 (some .int) [kr 5, ki x1, ki x2, ki x3] σ (fWi_pivotTriad x1 x2 x3 σ) := by
  refine kSem.of (L0 := [lq 5, li x1, li x2, li x3, none, none, none, none]) (by decide) (Nat.le_of_ble_eq_true rfl) rfl (fun X q hX hR => ?_)
  have hT : ∀ z : Int × KM, (fun z => z = q) z → z = q := fun _ h => h
  refine k_iconst hX dWi_pivotTriad_0 ?_
  refine k_istore (L' := [lq 5, li x1, li x2, li x3, li (-1), none, none, none]) hX dWi_pivotTriad_1 rfl (by decide) rfl ?_
  refine k_iconst hX dWi_pivotTriad_3 ?_
  refine k_istore (L' := [lq 5, li x1, li x2, li x3, li (-1), li 0, none, none]) hX dWi_pivotTriad_4 rfl (by decide) rfl ?_
  refine k_iconst hX dWi_pivotTriad_6 ?_
  refine k_istore (L' := [lq 5, li x1, li x2, li x3, li (-1), li 0, li 0, none]) hX dWi_pivotTriad_7 rfl (by decide) rfl ?_
  exact tWi_pivotTriad_L9 hX hR x1 x2 x3 (-1) 0 0 σ hT
theorem cl_89 {X : KC} {d n : Nat} {cc : ByteArray} {pc : Nat} {L : List (Option KV)} {st : List KV} {σ : KM} {Z : Type} {Θ : Z → Prop} {G : Int → KM → Option Z} {x1 x2 x3 : Int} (hX : kOk X d cc n "KeyPath") (hdd : 4 + 1 ≤ d) (hst : k_cat st ≤ 8) (hd : decode cc pc = .ok (.invokevirtual 292, 3)) (h : ∀ r τ, kJ X (pc + 3) L (ki r :: st) τ (G r τ) Θ) : kJ X pc L (ki x3 :: ki x2 :: ki x1 :: kr 5 :: st) σ (kCall (fWi_pivotTriad x1 x2 x3 σ) G) Θ :=
  k_callV (np := 3) (av := [ki x1, ki x2, ki x3]) (ret := (some .int)) hX (by decide) rfl rfl rfl (sWi_pivotTriad _ _ _ σ) ⟨⟨hdd, by decide⟩, tw_863, tw_5, by decide +kernel⟩ rfl tw_860 tw_861 tw_862 hst hd h
theorem dP_pivot_0 : decode prog_1_method_33_code 0 = .ok (.aload_n 0, 1) := by decide +kernel
theorem dP_pivot_1 : decode prog_1_method_33_code 1 = .ok (.invokevirtual 233, 3) := by decide +kernel
theorem dP_pivot_4 : decode prog_1_method_33_code 4 = .ok (.ifCond .eq 6, 3) := by decide +kernel
theorem dP_pivot_7 : decode prog_1_method_33_code 7 = .ok (.bipush (-5), 2) := by decide +kernel
theorem dP_pivot_9 : decode prog_1_method_33_code 9 = .ok (.ireturn, 1) := by decide +kernel
theorem dP_pivot_10 : decode prog_1_method_33_code 10 = .ok (.iload_n 1, 1) := by decide +kernel
theorem dP_pivot_11 : decode prog_1_method_33_code 11 = .ok (.ifCond .lt 25, 3) := by decide +kernel
theorem dP_pivot_14 : decode prog_1_method_33_code 14 = .ok (.iload_n 1, 1) := by decide +kernel
theorem dP_pivot_15 : decode prog_1_method_33_code 15 = .ok (.aload_n 0, 1) := by decide +kernel
theorem dP_pivot_16 : decode prog_1_method_33_code 16 = .ok (.getfield 54, 3) := by decide +kernel
theorem dP_pivot_19 : decode prog_1_method_33_code 19 = .ok (.getfield 283, 3) := by decide +kernel
theorem dP_pivot_22 : decode prog_1_method_33_code 22 = .ok (.iconst 1, 1) := by decide +kernel
theorem dP_pivot_23 : decode prog_1_method_33_code 23 = .ok (.isub, 1) := by decide +kernel
theorem dP_pivot_24 : decode prog_1_method_33_code 24 = .ok (.if_icmp .ge 12, 3) := by decide +kernel
theorem dP_pivot_27 : decode prog_1_method_33_code 27 = .ok (.iconst 0, 1) := by decide +kernel
theorem dP_pivot_28 : decode prog_1_method_33_code 28 = .ok (.iconst 3, 1) := by decide +kernel
theorem dP_pivot_29 : decode prog_1_method_33_code 29 = .ok (.iload_n 2, 1) := by decide +kernel
theorem dP_pivot_30 : decode prog_1_method_33_code 30 = .ok (.invokestatic 138, 3) := by decide +kernel
theorem dP_pivot_33 : decode prog_1_method_33_code 33 = .ok (.ifCond .eq 6, 3) := by decide +kernel
theorem dP_pivot_36 : decode prog_1_method_33_code 36 = .ok (.bipush (-2), 2) := by decide +kernel
theorem dP_pivot_38 : decode prog_1_method_33_code 38 = .ok (.ireturn, 1) := by decide +kernel
theorem dP_pivot_39 : decode prog_1_method_33_code 39 = .ok (.aload_n 0, 1) := by decide +kernel
theorem dP_pivot_40 : decode prog_1_method_33_code 40 = .ok (.getfield 54, 3) := by decide +kernel
theorem dP_pivot_43 : decode prog_1_method_33_code 43 = .ok (.iload_n 1, 1) := by decide +kernel
theorem dP_pivot_44 : decode prog_1_method_33_code 44 = .ok (.invokevirtual 289, 3) := by decide +kernel
theorem dP_pivot_47 : decode prog_1_method_33_code 47 = .ok (.istore_n 3, 1) := by decide +kernel
theorem dP_pivot_48 : decode prog_1_method_33_code 48 = .ok (.aload_n 0, 1) := by decide +kernel
theorem dP_pivot_49 : decode prog_1_method_33_code 49 = .ok (.getfield 54, 3) := by decide +kernel
theorem dP_pivot_52 : decode prog_1_method_33_code 52 = .ok (.getfield 240, 3) := by decide +kernel
theorem dP_pivot_55 : decode prog_1_method_33_code 55 = .ok (.iload_n 3, 1) := by decide +kernel
theorem dP_pivot_56 : decode prog_1_method_33_code 56 = .ok (.iaload, 1) := by decide +kernel
theorem dP_pivot_57 : decode prog_1_method_33_code 57 = .ok (.istore 4, 2) := by decide +kernel
theorem dP_pivot_59 : decode prog_1_method_33_code 59 = .ok (.aload_n 0, 1) := by decide +kernel
theorem dP_pivot_60 : decode prog_1_method_33_code 60 = .ok (.getfield 54, 3) := by decide +kernel
theorem dP_pivot_63 : decode prog_1_method_33_code 63 = .ok (.getfield 240, 3) := by decide +kernel
theorem dP_pivot_66 : decode prog_1_method_33_code 66 = .ok (.iload_n 3, 1) := by decide +kernel
theorem dP_pivot_67 : decode prog_1_method_33_code 67 = .ok (.iconst 1, 1) := by decide +kernel
theorem dP_pivot_68 : decode prog_1_method_33_code 68 = .ok (.iadd, 1) := by decide +kernel
theorem dP_pivot_69 : decode prog_1_method_33_code 69 = .ok (.iaload, 1) := by decide +kernel
theorem dP_pivot_70 : decode prog_1_method_33_code 70 = .ok (.istore 5, 2) := by decide +kernel
theorem dP_pivot_72 : decode prog_1_method_33_code 72 = .ok (.aload_n 0, 1) := by decide +kernel
theorem dP_pivot_73 : decode prog_1_method_33_code 73 = .ok (.getfield 33, 3) := by decide +kernel
theorem dP_pivot_76 : decode prog_1_method_33_code 76 = .ok (.iload_n 3, 1) := by decide +kernel
theorem dP_pivot_77 : decode prog_1_method_33_code 77 = .ok (.iload 4, 2) := by decide +kernel
theorem dP_pivot_79 : decode prog_1_method_33_code 79 = .ok (.iload 5, 2) := by decide +kernel
theorem dP_pivot_81 : decode prog_1_method_33_code 81 = .ok (.invokevirtual 292, 3) := by decide +kernel
theorem dP_pivot_84 : decode prog_1_method_33_code 84 = .ok (.istore 6, 2) := by decide +kernel
theorem dP_pivot_86 : decode prog_1_method_33_code 86 = .ok (.iload 6, 2) := by decide +kernel
theorem dP_pivot_88 : decode prog_1_method_33_code 88 = .ok (.iconst (-1), 1) := by decide +kernel
theorem dP_pivot_89 : decode prog_1_method_33_code 89 = .ok (.if_icmp .ne 5, 3) := by decide +kernel
theorem dP_pivot_92 : decode prog_1_method_33_code 92 = .ok (.iconst (-1), 1) := by decide +kernel
theorem dP_pivot_93 : decode prog_1_method_33_code 93 = .ok (.ireturn, 1) := by decide +kernel
theorem dP_pivot_94 : decode prog_1_method_33_code 94 = .ok (.iload_n 2, 1) := by decide +kernel
theorem dP_pivot_95 : decode prog_1_method_33_code 95 = .ok (.tableswitch 44 0 2 #[25, 28, 36], 25) := by decide +kernel
theorem dP_pivot_120 : decode prog_1_method_33_code 120 = .ok (.iload 6, 2) := by decide +kernel
theorem dP_pivot_122 : decode prog_1_method_33_code 122 = .ok (.ireturn, 1) := by decide +kernel
theorem dP_pivot_123 : decode prog_1_method_33_code 123 = .ok (.iload 6, 2) := by decide +kernel
theorem dP_pivot_125 : decode prog_1_method_33_code 125 = .ok (.iload 4, 2) := by decide +kernel
theorem dP_pivot_127 : decode prog_1_method_33_code 127 = .ok (.invokestatic 295, 3) := by decide +kernel
theorem dP_pivot_130 : decode prog_1_method_33_code 130 = .ok (.ireturn, 1) := by decide +kernel
theorem dP_pivot_131 : decode prog_1_method_33_code 131 = .ok (.iload 6, 2) := by decide +kernel
theorem dP_pivot_133 : decode prog_1_method_33_code 133 = .ok (.iload 5, 2) := by decide +kernel
theorem dP_pivot_135 : decode prog_1_method_33_code 135 = .ok (.invokestatic 295, 3) := by decide +kernel
theorem dP_pivot_138 : decode prog_1_method_33_code 138 = .ok (.ireturn, 1) := by decide +kernel
theorem dP_pivot_139 : decode prog_1_method_33_code 139 = .ok (.aload_n 0, 1) := by decide +kernel
theorem dP_pivot_140 : decode prog_1_method_33_code 140 = .ok (.getfield 33, 3) := by decide +kernel
theorem dP_pivot_143 : decode prog_1_method_33_code 143 = .ok (.iload_n 3, 1) := by decide +kernel
theorem dP_pivot_144 : decode prog_1_method_33_code 144 = .ok (.iload 6, 2) := by decide +kernel
theorem dP_pivot_146 : decode prog_1_method_33_code 146 = .ok (.invokevirtual 298, 3) := by decide +kernel
theorem dP_pivot_149 : decode prog_1_method_33_code 149 = .ok (.ireturn, 1) := by decide +kernel
set_option maxRecDepth 100000 in
set_option maxHeartbeats 4000000 in
theorem tP_pivot_J36 {X : KC} {q : Int × KM} (hX : kOk X 8 prog_1_method_33_code 7 "KeyPath") (hR : kRet X (some .int) q) (σ : KM) {Θ : (Int × KM) → Prop} (hT : ∀ z, Θ (z) → z = q) : kJ X 36 [lq 0, none, none, none, none, none, none] [] σ (fP_pivot_J36 σ) Θ := by
  refine k_bipush hX dP_pivot_36 (by decide) ?_
  exact k_iret hX hR hT dP_pivot_38
set_option maxRecDepth 100000 in
set_option maxHeartbeats 4000000 in
theorem sP_pivot (x1 x2 : Int) (σ : KM) : kSem 8 (⟨"KeyPath", "pivot", "(II)I"⟩ : MethodName) prog_1_method_33_code 7 (some .int) [kr 0, ki x1, ki x2] σ (fP_pivot x1 x2 σ) := by
  refine kSem.of (L0 := [lq 0, li x1, li x2, none, none, none, none]) (by decide) (Nat.le_of_ble_eq_true rfl) rfl (fun X q hX hR => ?_)
  have hT : ∀ z : Int × KM, (fun z => z = q) z → z = q := fun _ h => h
  refine k_aload_n hX dP_pivot_0 rfl ?_
  refine cl_33 hX (by decide) (Nat.le_of_ble_eq_true rfl) dP_pivot_1 (fun r2 τ1 => ?_)
  refine k_if_eq (tgt := 10) hX dP_pivot_4 (by decide) ?_ ?_
  · refine k_iload_n hX dP_pivot_10 rfl ?_
    refine k_if_lt (tgt := 36) hX dP_pivot_11 (by decide) ?_ ?_
    · refine k_less [true, false, false, true, true, true, true] (L' := [lq 0, none, none, none, none, none, none]) rfl ?_
      exact tP_pivot_J36 hX hR τ1 hT
    · refine k_iload_n hX dP_pivot_14 rfl ?_
      refine k_aload_n hX dP_pivot_15 rfl ?_
      refine gf_20 hX dP_pivot_16 ?_
      refine gf_71 hX dP_pivot_19 ?_
      refine k_iconst hX dP_pivot_22 ?_
      refine k_isub hX dP_pivot_23 ?_
      refine k_icmp_ge (tgt := 36) hX dP_pivot_24 (by decide) ?_ ?_
      · refine k_less [true, false, false, true, true, true, true] (L' := [lq 0, none, none, none, none, none, none]) rfl ?_
        exact tP_pivot_J36 hX hR τ1 hT
      · refine k_iconst hX dP_pivot_27 ?_
        refine k_iconst hX dP_pivot_28 ?_
        refine k_iload_n hX dP_pivot_29 rfl ?_
        refine cl_43 hX (by decide) (Nat.le_of_ble_eq_true rfl) dP_pivot_30 (fun r4 τ3 => ?_)
        refine k_if_eq (tgt := 39) hX dP_pivot_33 (by decide) ?_ ?_
        · refine k_aload_n hX dP_pivot_39 rfl ?_
          refine gf_20 hX dP_pivot_40 ?_
          refine k_iload_n hX dP_pivot_43 rfl ?_
          refine cl_40 hX (by decide) (Nat.le_of_ble_eq_true rfl) dP_pivot_44 (fun r6 τ5 => ?_)
          refine k_istore_n (L' := [lq 0, li x1, li x2, li r6, none, none, none]) hX dP_pivot_47 rfl (by decide) rfl ?_
          refine k_aload_n hX dP_pivot_48 rfl ?_
          refine gf_20 hX dP_pivot_49 ?_
          refine gf_70 hX dP_pivot_52 ?_
          refine k_iload_n hX dP_pivot_55 rfl ?_
          refine k_iald hX (by decide) rfl dP_pivot_56 rfl (fun y7 => ?_)
          refine k_istore (L' := [lq 0, li x1, li x2, li r6, li y7, none, none]) hX dP_pivot_57 rfl (by decide) rfl ?_
          refine k_aload_n hX dP_pivot_59 rfl ?_
          refine gf_20 hX dP_pivot_60 ?_
          refine gf_70 hX dP_pivot_63 ?_
          refine k_iload_n hX dP_pivot_66 rfl ?_
          refine k_iconst hX dP_pivot_67 ?_
          refine k_iadd hX dP_pivot_68 ?_
          refine k_iald hX (by decide) rfl dP_pivot_69 rfl (fun y8 => ?_)
          refine k_istore (L' := [lq 0, li x1, li x2, li r6, li y7, li y8, none]) hX dP_pivot_70 rfl (by decide) rfl ?_
          refine k_aload_n hX dP_pivot_72 rfl ?_
          refine gf_0 hX dP_pivot_73 ?_
          refine k_iload_n hX dP_pivot_76 rfl ?_
          refine k_iload hX dP_pivot_77 rfl ?_
          refine k_iload hX dP_pivot_79 rfl ?_
          refine cl_89 hX (by decide) (Nat.le_of_ble_eq_true rfl) dP_pivot_81 (fun r10 τ9 => ?_)
          refine k_istore (L' := [lq 0, li x1, li x2, li r6, li y7, li y8, li r10]) hX dP_pivot_84 rfl (by decide) rfl ?_
          refine k_iload hX dP_pivot_86 rfl ?_
          refine k_iconst hX dP_pivot_88 ?_
          refine k_icmp_ne (tgt := 94) hX dP_pivot_89 (by decide) ?_ ?_
          · refine k_iload_n hX dP_pivot_94 rfl ?_
            refine k_tsw (ts := [120, 123, 131]) (te := 139) hX dP_pivot_95 (by decide) (by decide) rfl (by decide) (k_ts_c ?_ (k_ts_c ?_ (k_ts_c ?_ (k_ts_n)))) ?_
            · refine k_iload hX dP_pivot_120 rfl ?_
              exact k_iret hX hR hT dP_pivot_122
            · refine k_iload hX dP_pivot_123 rfl ?_
              refine k_iload hX dP_pivot_125 rfl ?_
              refine cl_37 hX (by decide) (Nat.le_of_ble_eq_true rfl) dP_pivot_127 (fun r12 τ11 => ?_)
              exact k_iret hX hR hT dP_pivot_130
            · refine k_iload hX dP_pivot_131 rfl ?_
              refine k_iload hX dP_pivot_133 rfl ?_
              refine cl_37 hX (by decide) (Nat.le_of_ble_eq_true rfl) dP_pivot_135 (fun r14 τ13 => ?_)
              exact k_iret hX hR hT dP_pivot_138
            · refine k_aload_n hX dP_pivot_139 rfl ?_
              refine gf_0 hX dP_pivot_140 ?_
              refine k_iload_n hX dP_pivot_143 rfl ?_
              refine k_iload hX dP_pivot_144 rfl ?_
              refine cl_90 hX (by decide) (Nat.le_of_ble_eq_true rfl) dP_pivot_146 (fun r16 τ15 => ?_)
              exact k_iret hX hR hT dP_pivot_149
          · refine k_iconst hX dP_pivot_92 ?_
            exact k_iret hX hR hT dP_pivot_93
        · refine k_less [true, false, false, true, true, true, true] (L' := [lq 0, none, none, none, none, none, none]) rfl ?_
          exact tP_pivot_J36 hX hR τ3 hT
  · refine k_bipush hX dP_pivot_7 (by decide) ?_
    exact k_iret hX hR hT dP_pivot_9
theorem dP_progression_0 : decode prog_1_method_36_code 0 = .ok (.iload_n 1, 1) := by decide +kernel
theorem dP_progression_1 : decode prog_1_method_36_code 1 = .ok (.iconst (-1), 1) := by decide +kernel
theorem dP_progression_2 : decode prog_1_method_36_code 2 = .ok (.if_icmp .ge 6, 3) := by decide +kernel
theorem dP_progression_5 : decode prog_1_method_36_code 5 = .ok (.bipush (-3), 2) := by decide +kernel
theorem dP_progression_7 : decode prog_1_method_36_code 7 = .ok (.ireturn, 1) := by decide +kernel
theorem dP_progression_8 : decode prog_1_method_36_code 8 = .ok (.aload_n 0, 1) := by decide +kernel
theorem dP_progression_9 : decode prog_1_method_36_code 9 = .ok (.invokevirtual 155, 3) := by decide +kernel
theorem dP_progression_12 : decode prog_1_method_36_code 12 = .ok (.iconst 0, 1) := by decide +kernel
theorem dP_progression_13 : decode prog_1_method_36_code 13 = .ok (.istore_n 2, 1) := by decide +kernel
theorem dP_progression_14 : decode prog_1_method_36_code 14 = .ok (.iconst (-1), 1) := by decide +kernel
theorem dP_progression_15 : decode prog_1_method_36_code 15 = .ok (.istore_n 3, 1) := by decide +kernel
theorem dP_progression_16 : decode prog_1_method_36_code 16 = .ok (.iconst 0, 1) := by decide +kernel
theorem dP_progression_17 : decode prog_1_method_36_code 17 = .ok (.istore 4, 2) := by decide +kernel
theorem dP_progression_19 : decode prog_1_method_36_code 19 = .ok (.iload 4, 2) := by decide +kernel
theorem dP_progression_21 : decode prog_1_method_36_code 21 = .ok (.aload_n 0, 1) := by decide +kernel
theorem dP_progression_22 : decode prog_1_method_36_code 22 = .ok (.getfield 33, 3) := by decide +kernel
theorem dP_progression_25 : decode prog_1_method_36_code 25 = .ok (.getfield 158, 3) := by decide +kernel
theorem dP_progression_28 : decode prog_1_method_36_code 28 = .ok (.if_icmp .ge 50, 3) := by decide +kernel
theorem dP_progression_31 : decode prog_1_method_36_code 31 = .ok (.aload_n 0, 1) := by decide +kernel
theorem dP_progression_32 : decode prog_1_method_36_code 32 = .ok (.getfield 33, 3) := by decide +kernel
theorem dP_progression_35 : decode prog_1_method_36_code 35 = .ok (.getfield 221, 3) := by decide +kernel
theorem dP_progression_38 : decode prog_1_method_36_code 38 = .ok (.iload 4, 2) := by decide +kernel
theorem dP_progression_40 : decode prog_1_method_36_code 40 = .ok (.iaload, 1) := by decide +kernel
theorem dP_progression_41 : decode prog_1_method_36_code 41 = .ok (.istore 5, 2) := by decide +kernel
theorem dP_progression_43 : decode prog_1_method_36_code 43 = .ok (.iload 5, 2) := by decide +kernel
theorem dP_progression_45 : decode prog_1_method_36_code 45 = .ok (.iconst (-1), 1) := by decide +kernel
theorem dP_progression_46 : decode prog_1_method_36_code 46 = .ok (.if_icmp .eq 26, 3) := by decide +kernel
theorem dP_progression_49 : decode prog_1_method_36_code 49 = .ok (.iload 5, 2) := by decide +kernel
theorem dP_progression_51 : decode prog_1_method_36_code 51 = .ok (.iload_n 3, 1) := by decide +kernel
theorem dP_progression_52 : decode prog_1_method_36_code 52 = .ok (.if_icmp .ne 6, 3) := by decide +kernel
theorem dP_progression_55 : decode prog_1_method_36_code 55 = .ok (.goto 17, 3) := by decide +kernel
theorem dP_progression_58 : decode prog_1_method_36_code 58 = .ok (.iload_n 2, 1) := by decide +kernel
theorem dP_progression_59 : decode prog_1_method_36_code 59 = .ok (.iload_n 1, 1) := by decide +kernel
theorem dP_progression_60 : decode prog_1_method_36_code 60 = .ok (.if_icmp .ne 6, 3) := by decide +kernel
theorem dP_progression_63 : decode prog_1_method_36_code 63 = .ok (.iload 5, 2) := by decide +kernel
theorem dP_progression_65 : decode prog_1_method_36_code 65 = .ok (.ireturn, 1) := by decide +kernel
theorem dP_progression_66 : decode prog_1_method_36_code 66 = .ok (.iinc 2 1, 3) := by decide +kernel
theorem dP_progression_69 : decode prog_1_method_36_code 69 = .ok (.iload 5, 2) := by decide +kernel
theorem dP_progression_71 : decode prog_1_method_36_code 71 = .ok (.istore_n 3, 1) := by decide +kernel
theorem dP_progression_72 : decode prog_1_method_36_code 72 = .ok (.iinc 4 1, 3) := by decide +kernel
theorem dP_progression_75 : decode prog_1_method_36_code 75 = .ok (.goto (-56), 3) := by decide +kernel
theorem dP_progression_78 : decode prog_1_method_36_code 78 = .ok (.iload_n 1, 1) := by decide +kernel
theorem dP_progression_79 : decode prog_1_method_36_code 79 = .ok (.iconst (-1), 1) := by decide +kernel
theorem dP_progression_80 : decode prog_1_method_36_code 80 = .ok (.if_icmp .ne 7, 3) := by decide +kernel
theorem dP_progression_83 : decode prog_1_method_36_code 83 = .ok (.iload_n 2, 1) := by decide +kernel
theorem dP_progression_84 : decode prog_1_method_36_code 84 = .ok (.goto 4, 3) := by decide +kernel
theorem dP_progression_87 : decode prog_1_method_36_code 87 = .ok (.iconst (-1), 1) := by decide +kernel
theorem dP_progression_88 : decode prog_1_method_36_code 88 = .ok (.ireturn, 1) := by decide +kernel
set_option maxRecDepth 100000 in
set_option maxHeartbeats 4000000 in
theorem tP_progression_J88 {X : KC} {q : Int × KM} (hX : kOk X 6 prog_1_method_36_code 6 "KeyPath") (hR : kRet X (some .int) q) (t0 : Int) (σ : KM) {Θ : (Int × KM) → Prop} (hT : ∀ z, Θ (z) → z = q) : kJ X 88 [lq 0, none, none, none, none, none] [ki t0] σ (fP_progression_J88 t0 σ) Θ := by
  exact k_iret hX hR hT dP_progression_88
set_option maxRecDepth 100000 in
set_option maxHeartbeats 4000000 in
theorem tP_progression_J78 {X : KC} {q : Int × KM} (hX : kOk X 6 prog_1_method_36_code 6 "KeyPath") (hR : kRet X (some .int) q) (x1 x2 : Int) (σ : KM) {Θ : (Int × KM) → Prop} (hT : ∀ z, Θ (z) → z = q) : kJ X 78 [lq 0, li x1, li x2, none, none, none] [] σ (fP_progression_J78 x1 x2 σ) Θ := by
  refine k_iload_n hX dP_progression_78 rfl ?_
  refine k_iconst hX dP_progression_79 ?_
  refine k_icmp_ne (tgt := 87) hX dP_progression_80 (by decide) ?_ ?_
  · refine k_iconst hX dP_progression_87 ?_
    refine k_less [true, false, false, true, true, true] (L' := [lq 0, none, none, none, none, none]) rfl ?_
    exact tP_progression_J88 hX hR (-1) σ hT
  · refine k_iload_n hX dP_progression_83 rfl ?_
    refine k_goto (tgt := 88) hX dP_progression_84 (by decide) ?_
    refine k_less [true, false, false, true, true, true] (L' := [lq 0, none, none, none, none, none]) rfl ?_
    exact tP_progression_J88 hX hR x2 σ hT
set_option maxRecDepth 100000 in
set_option maxHeartbeats 4000000 in
theorem tP_progression_J72 {X : KC} {q : Int × KM} (hX : kOk X 6 prog_1_method_36_code 6 "KeyPath") (hR : kRet X (some .int) q) (x1 x2 x3 x4 : Int) (σ : KM) {Θ : ((Int × Int × Int × KM) ⊕ (Int × KM)) → Prop} (hT : ∀ z, Θ (.inr (z)) → z = q) (hb0 : ∀ s : Int × Int × Int × KM, Θ (.inl s) → kW X 19 [lq 0, li x1, li s.1, li s.2.1, li s.2.2.1, none] [] s.2.2.2) : kJ X 72 [lq 0, li x1, li x2, li x3, li x4, none] [] σ (fP_progression_J72 x1 x2 x3 x4 σ) Θ := by
  refine k_iincL (Lf := fun y1 => [lq 0, li x1, li x2, li x3, li y1, none]) hX dP_progression_72 rfl (by decide) rfl (fun _ => rfl) (fun y1 => ?_)
  refine k_goto (tgt := 19) hX dP_progression_75 (by decide) ?_
  exact k_back (hb0 (x2, x3, y1, σ))
set_option maxRecDepth 100000 in
set_option maxHeartbeats 4000000 in
theorem tP_progression_J63 {X : KC} {q : Int × KM} (hX : kOk X 6 prog_1_method_36_code 6 "KeyPath") (hR : kRet X (some .int) q) (x5 : Int) (σ : KM) {Θ : (Int × KM) → Prop} (hT : ∀ z, Θ (z) → z = q) : kJ X 63 [lq 0, none, none, none, none, li x5] [] σ (fP_progression_J63 x5 σ) Θ := by
  refine k_iload hX dP_progression_63 rfl ?_
  exact k_iret hX hR hT dP_progression_65
set_option maxRecDepth 100000 in
set_option maxHeartbeats 4000000 in
theorem tP_progression_B19 {X : KC} {q : Int × KM} (hX : kOk X 6 prog_1_method_36_code 6 "KeyPath") (hR : kRet X (some .int) q) (x1 x2 x3 x4 : Int) (σ : KM) {Θ : ((Int × Int × Int × KM) ⊕ (Int × KM)) → Prop} (hT : ∀ z, Θ (.inr (z)) → z = q) (hb0 : ∀ s : Int × Int × Int × KM, Θ (.inl s) → kW X 19 [lq 0, li x1, li s.1, li s.2.1, li s.2.2.1, none] [] s.2.2.2) : kJ X 19 [lq 0, li x1, li x2, li x3, li x4, none] [] σ (fP_progression_B19 x1 x2 x3 x4 σ) Θ := by
  refine k_iload hX dP_progression_19 rfl ?_
  refine k_aload_n hX dP_progression_21 rfl ?_
  refine gf_0 hX dP_progression_22 ?_
  refine gf_18 hX dP_progression_25 ?_
  refine k_icmp_ge (tgt := 78) hX dP_progression_28 (by decide) ?_ ?_
  · refine k_exit ?_
    refine k_less [true, true, true, false, false, true] (L' := [lq 0, li x1, li x2, none, none, none]) rfl ?_
    exact tP_progression_J78 hX hR x1 x2 σ hT
  · refine k_aload_n hX dP_progression_31 rfl ?_
    refine gf_0 hX dP_progression_32 ?_
    refine gf_19 hX dP_progression_35 ?_
    refine k_iload hX dP_progression_38 rfl ?_
    refine k_iald hX (by decide) rfl dP_progression_40 rfl (fun y1 => ?_)
    refine k_istore (L' := [lq 0, li x1, li x2, li x3, li x4, li y1]) hX dP_progression_41 rfl (by decide) rfl ?_
    refine k_iload hX dP_progression_43 rfl ?_
    refine k_iconst hX dP_progression_45 ?_
    refine k_icmp_eq (tgt := 72) hX dP_progression_46 (by decide) ?_ ?_
    · refine k_less [true, true, true, true, true, false] (L' := [lq 0, li x1, li x2, li x3, li x4, none]) rfl ?_
      exact tP_progression_J72 hX hR x1 x2 x3 x4 σ hT hb0
    · refine k_iload hX dP_progression_49 rfl ?_
      refine k_iload_n hX dP_progression_51 rfl ?_
      refine k_icmp_ne (tgt := 58) hX dP_progression_52 (by decide) ?_ ?_
      · refine k_iload_n hX dP_progression_58 rfl ?_
        refine k_iload_n hX dP_progression_59 rfl ?_
        refine k_icmp_ne (tgt := 66) hX dP_progression_60 (by decide) ?_ ?_
        · refine k_iincL (Lf := fun y2 => [lq 0, li x1, li y2, li x3, li x4, li y1]) hX dP_progression_66 rfl (by decide) rfl (fun _ => rfl) (fun y2 => ?_)
          refine k_iload hX dP_progression_69 rfl ?_
          refine k_istore_n (L' := [lq 0, li x1, li y2, li y1, li x4, li y1]) hX dP_progression_71 rfl (by decide) rfl ?_
          refine k_less [true, true, true, true, true, false] (L' := [lq 0, li x1, li y2, li y1, li x4, none]) rfl ?_
          exact tP_progression_J72 hX hR x1 y2 y1 x4 σ hT hb0
        · refine k_exit ?_
          refine k_less [true, false, false, false, false, true] (L' := [lq 0, none, none, none, none, li y1]) rfl ?_
          exact tP_progression_J63 hX hR y1 σ hT
      · refine k_goto (tgt := 72) hX dP_progression_55 (by decide) ?_
        refine k_less [true, true, true, true, true, false] (L' := [lq 0, li x1, li x2, li x3, li x4, none]) rfl ?_
        exact tP_progression_J72 hX hR x1 x2 x3 x4 σ hT hb0
set_option maxRecDepth 100000 in
set_option maxHeartbeats 4000000 in
theorem tP_progression_L19 {X : KC} {q : Int × KM} (hX : kOk X 6 prog_1_method_36_code 6 "KeyPath") (hR : kRet X (some .int) q) (x1 x2 x3 x4 : Int) (σ : KM) {Θ : (Int × KM) → Prop} (hT : ∀ z, Θ (z) → z = q) : kJ X 19 [lq 0, li x1, li x2, li x3, li x4, none] [] σ (fP_progression_L19 x1 x2 x3 x4 σ) Θ :=
  k_iter (f := fun s => fP_progression_B19 x1 s.1 s.2.1 s.2.2.1 s.2.2.2) (Lf := fun s => [lq 0, li x1, li s.1, li s.2.1, li s.2.2.1, none]) (mf := fun s => s.2.2.2) (Θ := Θ) (fun s => tP_progression_B19 hX hR x1 s.1 s.2.1 s.2.2.1 s.2.2.2 hT (fun _ h9 => h9)) kF (x2, x3, x4, σ)
set_option maxRecDepth 100000 in
set_option maxHeartbeats 4000000 in
theorem sP_progression (x1 : Int) (σ : KM) : kSem 6 (⟨"KeyPath", "progression", "(I)I"⟩ : MethodName) prog_1_method_36_code 6 (some .int) [kr 0, ki x1] σ (fP_progression x1 σ) := by
  refine kSem.of (L0 := [lq 0, li x1, none, none, none, none]) (by decide) (Nat.le_of_ble_eq_true rfl) rfl (fun X q hX hR => ?_)
  have hT : ∀ z : Int × KM, (fun z => z = q) z → z = q := fun _ h => h
  refine k_iload_n hX dP_progression_0 rfl ?_
  refine k_iconst hX dP_progression_1 ?_
  refine k_icmp_ge (tgt := 8) hX dP_progression_2 (by decide) ?_ ?_
  · refine k_aload_n hX dP_progression_8 rfl ?_
    refine cl_8 hX (by decide) (Nat.le_of_ble_eq_true rfl) dP_progression_9 (fun _ τ1 => ?_)
    refine k_iconst hX dP_progression_12 ?_
    refine k_istore_n (L' := [lq 0, li x1, li 0, none, none, none]) hX dP_progression_13 rfl (by decide) rfl ?_
    refine k_iconst hX dP_progression_14 ?_
    refine k_istore_n (L' := [lq 0, li x1, li 0, li (-1), none, none]) hX dP_progression_15 rfl (by decide) rfl ?_
    refine k_iconst hX dP_progression_16 ?_
    refine k_istore (L' := [lq 0, li x1, li 0, li (-1), li 0, none]) hX dP_progression_17 rfl (by decide) rfl ?_
    exact tP_progression_L19 hX hR x1 0 (-1) 0 τ1 hT
  · refine k_bipush hX dP_progression_5 (by decide) ?_
    exact k_iret hX hR hT dP_progression_7
theorem dNo_canBe_0 : decode prog_5_method_2_code 0 = .ok (.iload_n 0, 1) := by decide +kernel
theorem dNo_canBe_1 : decode prog_5_method_2_code 1 = .ok (.ifCond .lt 44, 3) := by decide +kernel
theorem dNo_canBe_4 : decode prog_5_method_2_code 4 = .ok (.iload_n 0, 1) := by decide +kernel
theorem dNo_canBe_5 : decode prog_5_method_2_code 5 = .ok (.sipush 512, 3) := by decide +kernel
theorem dNo_canBe_8 : decode prog_5_method_2_code 8 = .ok (.if_icmp .ge 37, 3) := by decide +kernel
theorem dNo_canBe_11 : decode prog_5_method_2_code 11 = .ok (.iload_n 1, 1) := by decide +kernel
theorem dNo_canBe_12 : decode prog_5_method_2_code 12 = .ok (.iconst 1, 1) := by decide +kernel
theorem dNo_canBe_13 : decode prog_5_method_2_code 13 = .ok (.if_icmp .lt 32, 3) := by decide +kernel
theorem dNo_canBe_16 : decode prog_5_method_2_code 16 = .ok (.iload_n 1, 1) := by decide +kernel
theorem dNo_canBe_17 : decode prog_5_method_2_code 17 = .ok (.bipush 64, 2) := by decide +kernel
theorem dNo_canBe_19 : decode prog_5_method_2_code 19 = .ok (.if_icmp .gt 26, 3) := by decide +kernel
theorem dNo_canBe_22 : decode prog_5_method_2_code 22 = .ok (.iload_n 2, 1) := by decide +kernel
theorem dNo_canBe_23 : decode prog_5_method_2_code 23 = .ok (.ifCond .lt 22, 3) := by decide +kernel
theorem dNo_canBe_26 : decode prog_5_method_2_code 26 = .ok (.iload_n 2, 1) := by decide +kernel
theorem dNo_canBe_27 : decode prog_5_method_2_code 27 = .ok (.bipush 127, 2) := by decide +kernel
theorem dNo_canBe_29 : decode prog_5_method_2_code 29 = .ok (.if_icmp .gt 16, 3) := by decide +kernel
theorem dNo_canBe_32 : decode prog_5_method_2_code 32 = .ok (.iload_n 0, 1) := by decide +kernel
theorem dNo_canBe_33 : decode prog_5_method_2_code 33 = .ok (.iload_n 1, 1) := by decide +kernel
theorem dNo_canBe_34 : decode prog_5_method_2_code 34 = .ok (.iadd, 1) := by decide +kernel
theorem dNo_canBe_35 : decode prog_5_method_2_code 35 = .ok (.sipush 512, 3) := by decide +kernel
theorem dNo_canBe_38 : decode prog_5_method_2_code 38 = .ok (.if_icmp .gt 7, 3) := by decide +kernel
theorem dNo_canBe_41 : decode prog_5_method_2_code 41 = .ok (.iconst 1, 1) := by decide +kernel
theorem dNo_canBe_42 : decode prog_5_method_2_code 42 = .ok (.goto 4, 3) := by decide +kernel
theorem dNo_canBe_45 : decode prog_5_method_2_code 45 = .ok (.iconst 0, 1) := by decide +kernel
theorem dNo_canBe_46 : decode prog_5_method_2_code 46 = .ok (.ireturn, 1) := by decide +kernel
set_option maxRecDepth 100000 in
set_option maxHeartbeats 4000000 in
theorem tNo_canBe_J46 {X : KC} {q : Int × KM} (hX : kOk X 1 prog_5_method_2_code 3 "KeyPath$Notes") (hR : kRet X (some .boolean) q) (t0 : Int) (σ : KM) {Θ : (Int × KM) → Prop} (hT : ∀ z, Θ (z) → z = q) : kJ X 46 [none, none, none] [ki t0] σ (fNo_canBe_J46 t0 σ) Θ := by
  exact k_zret hX hR hT dNo_canBe_46
set_option maxRecDepth 100000 in
set_option maxHeartbeats 4000000 in
theorem tNo_canBe_J45 {X : KC} {q : Int × KM} (hX : kOk X 1 prog_5_method_2_code 3 "KeyPath$Notes") (hR : kRet X (some .boolean) q) (σ : KM) {Θ : (Int × KM) → Prop} (hT : ∀ z, Θ (z) → z = q) : kJ X 45 [none, none, none] [] σ (fNo_canBe_J45 σ) Θ := by
  refine k_iconst hX dNo_canBe_45 ?_
  exact tNo_canBe_J46 hX hR 0 σ hT
set_option maxRecDepth 100000 in
set_option maxHeartbeats 4000000 in
theorem sNo_canBe (x0 x1 x2 : Int) (σ : KM) : kSem 1 (⟨"KeyPath$Notes", "canBe", "(III)Z"⟩ : MethodName) prog_5_method_2_code 3 (some .boolean) [ki x0, ki x1, ki x2] σ (fNo_canBe x0 x1 x2 σ) := by
  refine kSem.of (L0 := [li x0, li x1, li x2]) (by decide) (Nat.le_of_ble_eq_true rfl) rfl (fun X q hX hR => ?_)
  have hT : ∀ z : Int × KM, (fun z => z = q) z → z = q := fun _ h => h
  refine k_iload_n hX dNo_canBe_0 rfl ?_
  refine k_if_lt (tgt := 45) hX dNo_canBe_1 (by decide) ?_ ?_
  · refine k_less [false, false, false] (L' := [none, none, none]) rfl ?_
    exact tNo_canBe_J45 hX hR σ hT
  · refine k_iload_n hX dNo_canBe_4 rfl ?_
    refine k_sipush hX dNo_canBe_5 (by decide) ?_
    refine k_icmp_ge (tgt := 45) hX dNo_canBe_8 (by decide) ?_ ?_
    · refine k_less [false, false, false] (L' := [none, none, none]) rfl ?_
      exact tNo_canBe_J45 hX hR σ hT
    · refine k_iload_n hX dNo_canBe_11 rfl ?_
      refine k_iconst hX dNo_canBe_12 ?_
      refine k_icmp_lt (tgt := 45) hX dNo_canBe_13 (by decide) ?_ ?_
      · refine k_less [false, false, false] (L' := [none, none, none]) rfl ?_
        exact tNo_canBe_J45 hX hR σ hT
      · refine k_iload_n hX dNo_canBe_16 rfl ?_
        refine k_bipush hX dNo_canBe_17 (by decide) ?_
        refine k_icmp_gt (tgt := 45) hX dNo_canBe_19 (by decide) ?_ ?_
        · refine k_less [false, false, false] (L' := [none, none, none]) rfl ?_
          exact tNo_canBe_J45 hX hR σ hT
        · refine k_iload_n hX dNo_canBe_22 rfl ?_
          refine k_if_lt (tgt := 45) hX dNo_canBe_23 (by decide) ?_ ?_
          · refine k_less [false, false, false] (L' := [none, none, none]) rfl ?_
            exact tNo_canBe_J45 hX hR σ hT
          · refine k_iload_n hX dNo_canBe_26 rfl ?_
            refine k_bipush hX dNo_canBe_27 (by decide) ?_
            refine k_icmp_gt (tgt := 45) hX dNo_canBe_29 (by decide) ?_ ?_
            · refine k_less [false, false, false] (L' := [none, none, none]) rfl ?_
              exact tNo_canBe_J45 hX hR σ hT
            · refine k_iload_n hX dNo_canBe_32 rfl ?_
              refine k_iload_n hX dNo_canBe_33 rfl ?_
              refine k_iadd hX dNo_canBe_34 ?_
              refine k_sipush hX dNo_canBe_35 (by decide) ?_
              refine k_icmp_gt (tgt := 45) hX dNo_canBe_38 (by decide) ?_ ?_
              · refine k_less [false, false, false] (L' := [none, none, none]) rfl ?_
                exact tNo_canBe_J45 hX hR σ hT
              · refine k_iconst hX dNo_canBe_41 ?_
                refine k_goto (tgt := 46) hX dNo_canBe_42 (by decide) ?_
                refine k_less [false, false, false] (L' := [none, none, none]) rfl ?_
                exact tNo_canBe_J46 hX hR 1 σ hT
theorem cl_91 {X : KC} {d n : Nat} {cc : ByteArray} {pc : Nat} {L : List (Option KV)} {st : List KV} {σ : KM} {Z : Type} {Θ : Z → Prop} {G : Int → KM → Option Z} {x0 x1 x2 : Int} (hX : kOk X d cc n "KeyPath") (hdd : 1 + 1 ≤ d) (hst : k_cat st ≤ 8) (hd : decode cc pc = .ok (.invokestatic 98, 3)) (h : ∀ r τ, kJ X (pc + 3) L (ki r :: st) τ (G r τ) Θ) : kJ X pc L (ki x2 :: ki x1 :: ki x0 :: st) σ (kCall (fNo_canBe x0 x1 x2 σ) G) Θ :=
  k_callS (np := 3) (av := [ki x0, ki x1, ki x2]) (ret := (some .boolean)) hX (sNo_canBe _ _ _ σ) ⟨⟨hdd, by decide⟩, tw_477, tw_3, by decide +kernel⟩ rfl tw_475 tw_476 hst hd h
theorem dNo_isBehind_0 : decode prog_5_method_4_code 0 = .ok (.aload_n 0, 1) := by decide +kernel
theorem dNo_isBehind_1 : decode prog_5_method_4_code 1 = .ok (.getfield 9, 3) := by decide +kernel
theorem dNo_isBehind_4 : decode prog_5_method_4_code 4 = .ok (.iload_n 1, 1) := by decide +kernel
theorem dNo_isBehind_5 : decode prog_5_method_4_code 5 = .ok (.iaload, 1) := by decide +kernel
theorem dNo_isBehind_6 : decode prog_5_method_4_code 6 = .ok (.iload_n 2, 1) := by decide +kernel
theorem dNo_isBehind_7 : decode prog_5_method_4_code 7 = .ok (.if_icmp .eq 19, 3) := by decide +kernel
theorem dNo_isBehind_10 : decode prog_5_method_4_code 10 = .ok (.aload_n 0, 1) := by decide +kernel
theorem dNo_isBehind_11 : decode prog_5_method_4_code 11 = .ok (.getfield 9, 3) := by decide +kernel
theorem dNo_isBehind_14 : decode prog_5_method_4_code 14 = .ok (.iload_n 1, 1) := by decide +kernel
theorem dNo_isBehind_15 : decode prog_5_method_4_code 15 = .ok (.iaload, 1) := by decide +kernel
theorem dNo_isBehind_16 : decode prog_5_method_4_code 16 = .ok (.iload_n 2, 1) := by decide +kernel
theorem dNo_isBehind_17 : decode prog_5_method_4_code 17 = .ok (.if_icmp .le 7, 3) := by decide +kernel
theorem dNo_isBehind_20 : decode prog_5_method_4_code 20 = .ok (.iconst 1, 1) := by decide +kernel
theorem dNo_isBehind_21 : decode prog_5_method_4_code 21 = .ok (.goto 4, 3) := by decide +kernel
theorem dNo_isBehind_24 : decode prog_5_method_4_code 24 = .ok (.iconst 0, 1) := by decide +kernel
theorem dNo_isBehind_25 : decode prog_5_method_4_code 25 = .ok (.ireturn, 1) := by decide +kernel
theorem dNo_isBehind_26 : decode prog_5_method_4_code 26 = .ok (.aload_n 0, 1) := by decide +kernel
theorem dNo_isBehind_27 : decode prog_5_method_4_code 27 = .ok (.getfield 18, 3) := by decide +kernel
theorem dNo_isBehind_30 : decode prog_5_method_4_code 30 = .ok (.iload_n 1, 1) := by decide +kernel
theorem dNo_isBehind_31 : decode prog_5_method_4_code 31 = .ok (.iaload, 1) := by decide +kernel
theorem dNo_isBehind_32 : decode prog_5_method_4_code 32 = .ok (.iload 4, 2) := by decide +kernel
theorem dNo_isBehind_34 : decode prog_5_method_4_code 34 = .ok (.if_icmp .eq 20, 3) := by decide +kernel
theorem dNo_isBehind_37 : decode prog_5_method_4_code 37 = .ok (.aload_n 0, 1) := by decide +kernel
theorem dNo_isBehind_38 : decode prog_5_method_4_code 38 = .ok (.getfield 18, 3) := by decide +kernel
theorem dNo_isBehind_41 : decode prog_5_method_4_code 41 = .ok (.iload_n 1, 1) := by decide +kernel
theorem dNo_isBehind_42 : decode prog_5_method_4_code 42 = .ok (.iaload, 1) := by decide +kernel
theorem dNo_isBehind_43 : decode prog_5_method_4_code 43 = .ok (.iload 4, 2) := by decide +kernel
theorem dNo_isBehind_45 : decode prog_5_method_4_code 45 = .ok (.if_icmp .le 7, 3) := by decide +kernel
theorem dNo_isBehind_48 : decode prog_5_method_4_code 48 = .ok (.iconst 1, 1) := by decide +kernel
theorem dNo_isBehind_49 : decode prog_5_method_4_code 49 = .ok (.goto 4, 3) := by decide +kernel
theorem dNo_isBehind_52 : decode prog_5_method_4_code 52 = .ok (.iconst 0, 1) := by decide +kernel
theorem dNo_isBehind_53 : decode prog_5_method_4_code 53 = .ok (.ireturn, 1) := by decide +kernel
theorem dNo_isBehind_54 : decode prog_5_method_4_code 54 = .ok (.aload_n 0, 1) := by decide +kernel
theorem dNo_isBehind_55 : decode prog_5_method_4_code 55 = .ok (.getfield 15, 3) := by decide +kernel
theorem dNo_isBehind_58 : decode prog_5_method_4_code 58 = .ok (.iload_n 1, 1) := by decide +kernel
theorem dNo_isBehind_59 : decode prog_5_method_4_code 59 = .ok (.iaload, 1) := by decide +kernel
theorem dNo_isBehind_60 : decode prog_5_method_4_code 60 = .ok (.iload_n 3, 1) := by decide +kernel
theorem dNo_isBehind_61 : decode prog_5_method_4_code 61 = .ok (.if_icmp .le 7, 3) := by decide +kernel
theorem dNo_isBehind_64 : decode prog_5_method_4_code 64 = .ok (.iconst 1, 1) := by decide +kernel
theorem dNo_isBehind_65 : decode prog_5_method_4_code 65 = .ok (.goto 4, 3) := by decide +kernel
theorem dNo_isBehind_68 : decode prog_5_method_4_code 68 = .ok (.iconst 0, 1) := by decide +kernel
theorem dNo_isBehind_69 : decode prog_5_method_4_code 69 = .ok (.ireturn, 1) := by decide +kernel
set_option maxRecDepth 100000 in
set_option maxHeartbeats 4000000 in
theorem tNo_isBehind_J69 {X : KC} {q : Int × KM} (hX : kOk X 1 prog_5_method_4_code 5 "KeyPath$Notes") (hR : kRet X (some .boolean) q) (t0 : Int) (σ : KM) {Θ : (Int × KM) → Prop} (hT : ∀ z, Θ (z) → z = q) : kJ X 69 [lq 3, none, none, none, none] [ki t0] σ (fNo_isBehind_J69 t0 σ) Θ := by
  exact k_zret hX hR hT dNo_isBehind_69
set_option maxRecDepth 100000 in
set_option maxHeartbeats 4000000 in
theorem tNo_isBehind_J53 {X : KC} {q : Int × KM} (hX : kOk X 1 prog_5_method_4_code 5 "KeyPath$Notes") (hR : kRet X (some .boolean) q) (t0 : Int) (σ : KM) {Θ : (Int × KM) → Prop} (hT : ∀ z, Θ (z) → z = q) : kJ X 53 [lq 3, none, none, none, none] [ki t0] σ (fNo_isBehind_J53 t0 σ) Θ := by
  exact k_zret hX hR hT dNo_isBehind_53
set_option maxRecDepth 100000 in
set_option maxHeartbeats 4000000 in
theorem tNo_isBehind_J25 {X : KC} {q : Int × KM} (hX : kOk X 1 prog_5_method_4_code 5 "KeyPath$Notes") (hR : kRet X (some .boolean) q) (t0 : Int) (σ : KM) {Θ : (Int × KM) → Prop} (hT : ∀ z, Θ (z) → z = q) : kJ X 25 [lq 3, none, none, none, none] [ki t0] σ (fNo_isBehind_J25 t0 σ) Θ := by
  exact k_zret hX hR hT dNo_isBehind_25
set_option maxRecDepth 100000 in
set_option maxHeartbeats 4000000 in
theorem sNo_isBehind (x1 x2 x3 x4 : Int) (σ : KM) : kSem 1 (⟨"KeyPath$Notes", "isBehind", "(IIII)Z"⟩ : MethodName) prog_5_method_4_code 5 (some .boolean) [kr 3, ki x1, ki x2, ki x3, ki x4] σ (fNo_isBehind x1 x2 x3 x4 σ) := by
  refine kSem.of (L0 := [lq 3, li x1, li x2, li x3, li x4]) (by decide) (Nat.le_of_ble_eq_true rfl) rfl (fun X q hX hR => ?_)
  have hT : ∀ z : Int × KM, (fun z => z = q) z → z = q := fun _ h => h
  refine k_aload_n hX dNo_isBehind_0 rfl ?_
  refine gf_4 hX dNo_isBehind_1 ?_
  refine k_iload_n hX dNo_isBehind_4 rfl ?_
  refine k_iald hX (by decide) rfl dNo_isBehind_5 rfl (fun y1 => ?_)
  refine k_iload_n hX dNo_isBehind_6 rfl ?_
  refine k_icmp_eq (tgt := 26) hX dNo_isBehind_7 (by decide) ?_ ?_
  · refine k_aload_n hX dNo_isBehind_26 rfl ?_
    refine gf_95 hX dNo_isBehind_27 ?_
    refine k_iload_n hX dNo_isBehind_30 rfl ?_
    refine k_iald hX (by decide) rfl dNo_isBehind_31 rfl (fun y2 => ?_)
    refine k_iload hX dNo_isBehind_32 rfl ?_
    refine k_icmp_eq (tgt := 54) hX dNo_isBehind_34 (by decide) ?_ ?_
    · refine k_aload_n hX dNo_isBehind_54 rfl ?_
      refine gf_5 hX dNo_isBehind_55 ?_
      refine k_iload_n hX dNo_isBehind_58 rfl ?_
      refine k_iald hX (by decide) rfl dNo_isBehind_59 rfl (fun y3 => ?_)
      refine k_iload_n hX dNo_isBehind_60 rfl ?_
      refine k_icmp_le (tgt := 68) hX dNo_isBehind_61 (by decide) ?_ ?_
      · refine k_iconst hX dNo_isBehind_68 ?_
        refine k_less [true, false, false, false, false] (L' := [lq 3, none, none, none, none]) rfl ?_
        exact tNo_isBehind_J69 hX hR 0 σ hT
      · refine k_iconst hX dNo_isBehind_64 ?_
        refine k_goto (tgt := 69) hX dNo_isBehind_65 (by decide) ?_
        refine k_less [true, false, false, false, false] (L' := [lq 3, none, none, none, none]) rfl ?_
        exact tNo_isBehind_J69 hX hR 1 σ hT
    · refine k_aload_n hX dNo_isBehind_37 rfl ?_
      refine gf_95 hX dNo_isBehind_38 ?_
      refine k_iload_n hX dNo_isBehind_41 rfl ?_
      refine k_iald hX (by decide) rfl dNo_isBehind_42 rfl (fun y4 => ?_)
      refine k_iload hX dNo_isBehind_43 rfl ?_
      refine k_icmp_le (tgt := 52) hX dNo_isBehind_45 (by decide) ?_ ?_
      · refine k_iconst hX dNo_isBehind_52 ?_
        refine k_less [true, false, false, false, false] (L' := [lq 3, none, none, none, none]) rfl ?_
        exact tNo_isBehind_J53 hX hR 0 σ hT
      · refine k_iconst hX dNo_isBehind_48 ?_
        refine k_goto (tgt := 53) hX dNo_isBehind_49 (by decide) ?_
        refine k_less [true, false, false, false, false] (L' := [lq 3, none, none, none, none]) rfl ?_
        exact tNo_isBehind_J53 hX hR 1 σ hT
  · refine k_aload_n hX dNo_isBehind_10 rfl ?_
    refine gf_4 hX dNo_isBehind_11 ?_
    refine k_iload_n hX dNo_isBehind_14 rfl ?_
    refine k_iald hX (by decide) rfl dNo_isBehind_15 rfl (fun y5 => ?_)
    refine k_iload_n hX dNo_isBehind_16 rfl ?_
    refine k_icmp_le (tgt := 24) hX dNo_isBehind_17 (by decide) ?_ ?_
    · refine k_iconst hX dNo_isBehind_24 ?_
      refine k_less [true, false, false, false, false] (L' := [lq 3, none, none, none, none]) rfl ?_
      exact tNo_isBehind_J25 hX hR 0 σ hT
    · refine k_iconst hX dNo_isBehind_20 ?_
      refine k_goto (tgt := 25) hX dNo_isBehind_21 (by decide) ?_
      refine k_less [true, false, false, false, false] (L' := [lq 3, none, none, none, none]) rfl ?_
      exact tNo_isBehind_J25 hX hR 1 σ hT
theorem cl_92 {X : KC} {d n : Nat} {cc : ByteArray} {pc : Nat} {L : List (Option KV)} {st : List KV} {σ : KM} {Z : Type} {Θ : Z → Prop} {G : Int → KM → Option Z} {x1 x2 x3 x4 : Int} (hX : kOk X d cc n "KeyPath$Notes") (hdd : 1 + 1 ≤ d) (hst : k_cat st ≤ 8) (hd : decode cc pc = .ok (.invokevirtual 25, 3)) (h : ∀ r τ, kJ X (pc + 3) L (ki r :: st) τ (G r τ) Θ) : kJ X pc L (ki x4 :: ki x3 :: ki x2 :: ki x1 :: kr 3 :: st) σ (kCall (fNo_isBehind x1 x2 x3 x4 σ) G) Θ :=
  k_callV (np := 4) (av := [ki x1, ki x2, ki x3, ki x4]) (ret := (some .boolean)) hX (by decide) rfl rfl rfl (sNo_isBehind _ _ _ _ σ) ⟨⟨hdd, by decide⟩, tw_418, tw_3, by decide +kernel⟩ rfl tw_415 tw_417 ts_6 hst hd h
theorem dNo_placeFor_0 : decode prog_5_method_3_code 0 = .ok (.aload_n 0, 1) := by decide +kernel
theorem dNo_placeFor_1 : decode prog_5_method_3_code 1 = .ok (.getfield 21, 3) := by decide +kernel
theorem dNo_placeFor_4 : decode prog_5_method_3_code 4 = .ok (.istore 4, 2) := by decide +kernel
theorem dNo_placeFor_6 : decode prog_5_method_3_code 6 = .ok (.iload 4, 2) := by decide +kernel
theorem dNo_placeFor_8 : decode prog_5_method_3_code 8 = .ok (.ifCond .le 23, 3) := by decide +kernel
theorem dNo_placeFor_11 : decode prog_5_method_3_code 11 = .ok (.aload_n 0, 1) := by decide +kernel
theorem dNo_placeFor_12 : decode prog_5_method_3_code 12 = .ok (.iload 4, 2) := by decide +kernel
theorem dNo_placeFor_14 : decode prog_5_method_3_code 14 = .ok (.iconst 1, 1) := by decide +kernel
theorem dNo_placeFor_15 : decode prog_5_method_3_code 15 = .ok (.isub, 1) := by decide +kernel
theorem dNo_placeFor_16 : decode prog_5_method_3_code 16 = .ok (.iload_n 1, 1) := by decide +kernel
theorem dNo_placeFor_17 : decode prog_5_method_3_code 17 = .ok (.iload_n 2, 1) := by decide +kernel
theorem dNo_placeFor_18 : decode prog_5_method_3_code 18 = .ok (.iload_n 3, 1) := by decide +kernel
theorem dNo_placeFor_19 : decode prog_5_method_3_code 19 = .ok (.invokevirtual 25, 3) := by decide +kernel
theorem dNo_placeFor_22 : decode prog_5_method_3_code 22 = .ok (.ifCond .eq 9, 3) := by decide +kernel
theorem dNo_placeFor_25 : decode prog_5_method_3_code 25 = .ok (.iinc 4 (-1), 3) := by decide +kernel
theorem dNo_placeFor_28 : decode prog_5_method_3_code 28 = .ok (.goto (-22), 3) := by decide +kernel
theorem dNo_placeFor_31 : decode prog_5_method_3_code 31 = .ok (.iload 4, 2) := by decide +kernel
theorem dNo_placeFor_33 : decode prog_5_method_3_code 33 = .ok (.ireturn, 1) := by decide +kernel
set_option maxRecDepth 100000 in
set_option maxHeartbeats 4000000 in
theorem tNo_placeFor_J31 {X : KC} {q : Int × KM} (hX : kOk X 2 prog_5_method_3_code 5 "KeyPath$Notes") (hR : kRet X (some .int) q) (x4 : Int) (σ : KM) {Θ : (Int × KM) → Prop} (hT : ∀ z, Θ (z) → z = q) : kJ X 31 [lq 3, none, none, none, li x4] [] σ (fNo_placeFor_J31 x4 σ) Θ := by
  refine k_iload hX dNo_placeFor_31 rfl ?_
  exact k_iret hX hR hT dNo_placeFor_33
set_option maxRecDepth 100000 in
set_option maxHeartbeats 4000000 in
theorem tNo_placeFor_B6 {X : KC} {q : Int × KM} (hX : kOk X 2 prog_5_method_3_code 5 "KeyPath$Notes") (hR : kRet X (some .int) q) (x1 x2 x3 x4 : Int) (σ : KM) {Θ : ((Int × KM) ⊕ (Int × KM)) → Prop} (hT : ∀ z, Θ (.inr (z)) → z = q) (hb0 : ∀ s : Int × KM, Θ (.inl s) → kW X 6 [lq 3, li x1, li x2, li x3, li s.1] [] s.2) : kJ X 6 [lq 3, li x1, li x2, li x3, li x4] [] σ (fNo_placeFor_B6 x1 x2 x3 x4 σ) Θ := by
  refine k_iload hX dNo_placeFor_6 rfl ?_
  refine k_if_le (tgt := 31) hX dNo_placeFor_8 (by decide) ?_ ?_
  · refine k_exit ?_
    refine k_less [true, false, false, false, true] (L' := [lq 3, none, none, none, li x4]) rfl ?_
    exact tNo_placeFor_J31 hX hR x4 σ hT
  · refine k_aload_n hX dNo_placeFor_11 rfl ?_
    refine k_iload hX dNo_placeFor_12 rfl ?_
    refine k_iconst hX dNo_placeFor_14 ?_
    refine k_isub hX dNo_placeFor_15 ?_
    refine k_iload_n hX dNo_placeFor_16 rfl ?_
    refine k_iload_n hX dNo_placeFor_17 rfl ?_
    refine k_iload_n hX dNo_placeFor_18 rfl ?_
    refine cl_92 hX (by decide) (Nat.le_of_ble_eq_true rfl) dNo_placeFor_19 (fun r2 τ1 => ?_)
    refine k_if_eq (tgt := 31) hX dNo_placeFor_22 (by decide) ?_ ?_
    · refine k_exit ?_
      refine k_less [true, false, false, false, true] (L' := [lq 3, none, none, none, li x4]) rfl ?_
      exact tNo_placeFor_J31 hX hR x4 τ1 hT
    · refine k_iincL (Lf := fun y3 => [lq 3, li x1, li x2, li x3, li y3]) hX dNo_placeFor_25 rfl (by decide) rfl (fun _ => rfl) (fun y3 => ?_)
      refine k_goto (tgt := 6) hX dNo_placeFor_28 (by decide) ?_
      exact k_back (hb0 (y3, τ1))
set_option maxRecDepth 100000 in
set_option maxHeartbeats 4000000 in
theorem tNo_placeFor_L6 {X : KC} {q : Int × KM} (hX : kOk X 2 prog_5_method_3_code 5 "KeyPath$Notes") (hR : kRet X (some .int) q) (x1 x2 x3 x4 : Int) (σ : KM) {Θ : (Int × KM) → Prop} (hT : ∀ z, Θ (z) → z = q) : kJ X 6 [lq 3, li x1, li x2, li x3, li x4] [] σ (fNo_placeFor_L6 x1 x2 x3 x4 σ) Θ :=
  k_iter (f := fun s => fNo_placeFor_B6 x1 x2 x3 s.1 s.2) (Lf := fun s => [lq 3, li x1, li x2, li x3, li s.1]) (mf := fun s => s.2) (Θ := Θ) (fun s => tNo_placeFor_B6 hX hR x1 x2 x3 s.1 s.2 hT (fun _ h9 => h9)) kF (x4, σ)
set_option maxRecDepth 100000 in
set_option maxHeartbeats 4000000 in
theorem sNo_placeFor (x1 x2 x3 : Int) (σ : KM) : kSem 2 (⟨"KeyPath$Notes", "placeFor", "(III)I"⟩ : MethodName) prog_5_method_3_code 5 (some .int) [kr 3, ki x1, ki x2, ki x3] σ (fNo_placeFor x1 x2 x3 σ) := by
  refine kSem.of (L0 := [lq 3, li x1, li x2, li x3, none]) (by decide) (Nat.le_of_ble_eq_true rfl) rfl (fun X q hX hR => ?_)
  have hT : ∀ z : Int × KM, (fun z => z = q) z → z = q := fun _ h => h
  refine k_aload_n hX dNo_placeFor_0 rfl ?_
  refine gf_3 hX dNo_placeFor_1 ?_
  refine k_istoreL (Lf := fun y1 => [lq 3, li x1, li x2, li x3, li y1]) hX dNo_placeFor_4 rfl (by decide) (fun _ => rfl) (fun y1 => ?_)
  exact tNo_placeFor_L6 hX hR x1 x2 x3 y1 σ hT
theorem cl_93 {X : KC} {d n : Nat} {cc : ByteArray} {pc : Nat} {L : List (Option KV)} {st : List KV} {σ : KM} {Z : Type} {Θ : Z → Prop} {G : Int → KM → Option Z} {x1 x2 x3 : Int} (hX : kOk X d cc n "KeyPath") (hdd : 2 + 1 ≤ d) (hst : k_cat st ≤ 8) (hd : decode cc pc = .ok (.invokevirtual 102, 3)) (h : ∀ r τ, kJ X (pc + 3) L (ki r :: st) τ (G r τ) Θ) : kJ X pc L (ki x3 :: ki x2 :: ki x1 :: kr 3 :: st) σ (kCall (fNo_placeFor x1 x2 x3 σ) G) Θ :=
  k_callV (np := 3) (av := [ki x1, ki x2, ki x3]) (ret := (some .int)) hX (by decide) rfl rfl rfl (sNo_placeFor _ _ _ σ) ⟨⟨hdd, by decide⟩, tw_414, tw_3, by decide +kernel⟩ rfl tw_478 tw_412 tw_413 hst hd h
theorem dNo_insert_0 : decode prog_5_method_5_code 0 = .ok (.aload_n 0, 1) := by decide +kernel
theorem dNo_insert_1 : decode prog_5_method_5_code 1 = .ok (.getfield 21, 3) := by decide +kernel
theorem dNo_insert_4 : decode prog_5_method_5_code 4 = .ok (.bipush 100, 2) := by decide +kernel
theorem dNo_insert_6 : decode prog_5_method_5_code 6 = .ok (.if_icmp .ge 15, 3) := by decide +kernel
theorem dNo_insert_9 : decode prog_5_method_5_code 9 = .ok (.iload_n 1, 1) := by decide +kernel
theorem dNo_insert_10 : decode prog_5_method_5_code 10 = .ok (.ifCond .lt 11, 3) := by decide +kernel
theorem dNo_insert_13 : decode prog_5_method_5_code 13 = .ok (.iload_n 1, 1) := by decide +kernel
theorem dNo_insert_14 : decode prog_5_method_5_code 14 = .ok (.aload_n 0, 1) := by decide +kernel
theorem dNo_insert_15 : decode prog_5_method_5_code 15 = .ok (.getfield 21, 3) := by decide +kernel
theorem dNo_insert_18 : decode prog_5_method_5_code 18 = .ok (.if_icmp .le 4, 3) := by decide +kernel
theorem dNo_insert_21 : decode prog_5_method_5_code 21 = .ok (.return_, 1) := by decide +kernel
theorem dNo_insert_22 : decode prog_5_method_5_code 22 = .ok (.aload_n 0, 1) := by decide +kernel
theorem dNo_insert_23 : decode prog_5_method_5_code 23 = .ok (.getfield 21, 3) := by decide +kernel
theorem dNo_insert_26 : decode prog_5_method_5_code 26 = .ok (.iload_n 1, 1) := by decide +kernel
theorem dNo_insert_27 : decode prog_5_method_5_code 27 = .ok (.isub, 1) := by decide +kernel
theorem dNo_insert_28 : decode prog_5_method_5_code 28 = .ok (.istore 5, 2) := by decide +kernel
theorem dNo_insert_30 : decode prog_5_method_5_code 30 = .ok (.aload_n 0, 1) := by decide +kernel
theorem dNo_insert_31 : decode prog_5_method_5_code 31 = .ok (.getfield 9, 3) := by decide +kernel
theorem dNo_insert_34 : decode prog_5_method_5_code 34 = .ok (.iload_n 1, 1) := by decide +kernel
theorem dNo_insert_35 : decode prog_5_method_5_code 35 = .ok (.aload_n 0, 1) := by decide +kernel
theorem dNo_insert_36 : decode prog_5_method_5_code 36 = .ok (.getfield 9, 3) := by decide +kernel
theorem dNo_insert_39 : decode prog_5_method_5_code 39 = .ok (.iload_n 1, 1) := by decide +kernel
theorem dNo_insert_40 : decode prog_5_method_5_code 40 = .ok (.iconst 1, 1) := by decide +kernel
theorem dNo_insert_41 : decode prog_5_method_5_code 41 = .ok (.iadd, 1) := by decide +kernel
theorem dNo_insert_42 : decode prog_5_method_5_code 42 = .ok (.iload 5, 2) := by decide +kernel
theorem dNo_insert_44 : decode prog_5_method_5_code 44 = .ok (.invokestatic 29, 3) := by decide +kernel
theorem dNo_insert_47 : decode prog_5_method_5_code 47 = .ok (.aload_n 0, 1) := by decide +kernel
theorem dNo_insert_48 : decode prog_5_method_5_code 48 = .ok (.getfield 15, 3) := by decide +kernel
theorem dNo_insert_51 : decode prog_5_method_5_code 51 = .ok (.iload_n 1, 1) := by decide +kernel
theorem dNo_insert_52 : decode prog_5_method_5_code 52 = .ok (.aload_n 0, 1) := by decide +kernel
theorem dNo_insert_53 : decode prog_5_method_5_code 53 = .ok (.getfield 15, 3) := by decide +kernel
theorem dNo_insert_56 : decode prog_5_method_5_code 56 = .ok (.iload_n 1, 1) := by decide +kernel
theorem dNo_insert_57 : decode prog_5_method_5_code 57 = .ok (.iconst 1, 1) := by decide +kernel
theorem dNo_insert_58 : decode prog_5_method_5_code 58 = .ok (.iadd, 1) := by decide +kernel
theorem dNo_insert_59 : decode prog_5_method_5_code 59 = .ok (.iload 5, 2) := by decide +kernel
theorem dNo_insert_61 : decode prog_5_method_5_code 61 = .ok (.invokestatic 29, 3) := by decide +kernel
theorem dNo_insert_64 : decode prog_5_method_5_code 64 = .ok (.aload_n 0, 1) := by decide +kernel
theorem dNo_insert_65 : decode prog_5_method_5_code 65 = .ok (.getfield 18, 3) := by decide +kernel
theorem dNo_insert_68 : decode prog_5_method_5_code 68 = .ok (.iload_n 1, 1) := by decide +kernel
theorem dNo_insert_69 : decode prog_5_method_5_code 69 = .ok (.aload_n 0, 1) := by decide +kernel
theorem dNo_insert_70 : decode prog_5_method_5_code 70 = .ok (.getfield 18, 3) := by decide +kernel
theorem dNo_insert_73 : decode prog_5_method_5_code 73 = .ok (.iload_n 1, 1) := by decide +kernel
theorem dNo_insert_74 : decode prog_5_method_5_code 74 = .ok (.iconst 1, 1) := by decide +kernel
theorem dNo_insert_75 : decode prog_5_method_5_code 75 = .ok (.iadd, 1) := by decide +kernel
theorem dNo_insert_76 : decode prog_5_method_5_code 76 = .ok (.iload 5, 2) := by decide +kernel
theorem dNo_insert_78 : decode prog_5_method_5_code 78 = .ok (.invokestatic 29, 3) := by decide +kernel
theorem dNo_insert_81 : decode prog_5_method_5_code 81 = .ok (.aload_n 0, 1) := by decide +kernel
theorem dNo_insert_82 : decode prog_5_method_5_code 82 = .ok (.getfield 9, 3) := by decide +kernel
theorem dNo_insert_85 : decode prog_5_method_5_code 85 = .ok (.iload_n 1, 1) := by decide +kernel
theorem dNo_insert_86 : decode prog_5_method_5_code 86 = .ok (.iload_n 2, 1) := by decide +kernel
theorem dNo_insert_87 : decode prog_5_method_5_code 87 = .ok (.iastore, 1) := by decide +kernel
theorem dNo_insert_88 : decode prog_5_method_5_code 88 = .ok (.aload_n 0, 1) := by decide +kernel
theorem dNo_insert_89 : decode prog_5_method_5_code 89 = .ok (.getfield 15, 3) := by decide +kernel
theorem dNo_insert_92 : decode prog_5_method_5_code 92 = .ok (.iload_n 1, 1) := by decide +kernel
theorem dNo_insert_93 : decode prog_5_method_5_code 93 = .ok (.iload_n 3, 1) := by decide +kernel
theorem dNo_insert_94 : decode prog_5_method_5_code 94 = .ok (.iastore, 1) := by decide +kernel
theorem dNo_insert_95 : decode prog_5_method_5_code 95 = .ok (.aload_n 0, 1) := by decide +kernel
theorem dNo_insert_96 : decode prog_5_method_5_code 96 = .ok (.getfield 18, 3) := by decide +kernel
theorem dNo_insert_99 : decode prog_5_method_5_code 99 = .ok (.iload_n 1, 1) := by decide +kernel
theorem dNo_insert_100 : decode prog_5_method_5_code 100 = .ok (.iload 4, 2) := by decide +kernel
theorem dNo_insert_102 : decode prog_5_method_5_code 102 = .ok (.iastore, 1) := by decide +kernel
theorem dNo_insert_103 : decode prog_5_method_5_code 103 = .ok (.aload_n 0, 1) := by decide +kernel
theorem dNo_insert_104 : decode prog_5_method_5_code 104 = .ok (.dup, 1) := by decide +kernel
theorem dNo_insert_105 : decode prog_5_method_5_code 105 = .ok (.getfield 21, 3) := by decide +kernel
theorem dNo_insert_108 : decode prog_5_method_5_code 108 = .ok (.iconst 1, 1) := by decide +kernel
theorem dNo_insert_109 : decode prog_5_method_5_code 109 = .ok (.iadd, 1) := by decide +kernel
theorem dNo_insert_110 : decode prog_5_method_5_code 110 = .ok (.putfield 21, 3) := by decide +kernel
theorem dNo_insert_113 : decode prog_5_method_5_code 113 = .ok (.return_, 1) := by decide +kernel
set_option maxRecDepth 100000 in
set_option maxHeartbeats 4000000 in
theorem tNo_insert_J21 {X : KC} {q : Int × KM} (hX : kOk X 1 prog_5_method_5_code 6 "KeyPath$Notes") (hR : kRet X none q) (σ : KM) {Θ : (Int × KM) → Prop} (hT : ∀ z, Θ (z) → z = q) : kJ X 21 [lq 3, none, none, none, none, none] [] σ (fNo_insert_J21 σ) Θ := by
  exact k_vret hX hR hT dNo_insert_21
set_option maxRecDepth 100000 in
set_option maxHeartbeats 4000000 in
theorem sNo_insert (x1 x2 x3 x4 : Int) (σ : KM) : kSem 1 (⟨"KeyPath$Notes", "insert", "(IIII)V"⟩ : MethodName) prog_5_method_5_code 6 none [kr 3, ki x1, ki x2, ki x3, ki x4] σ (fNo_insert x1 x2 x3 x4 σ) := by
  refine kSem.of (L0 := [lq 3, li x1, li x2, li x3, li x4, none]) (by decide) (Nat.le_of_ble_eq_true rfl) rfl (fun X q hX hR => ?_)
  have hT : ∀ z : Int × KM, (fun z => z = q) z → z = q := fun _ h => h
  refine k_aload_n hX dNo_insert_0 rfl ?_
  refine gf_3 hX dNo_insert_1 ?_
  refine k_bipush hX dNo_insert_4 (by decide) ?_
  refine k_icmp_ge (tgt := 21) hX dNo_insert_6 (by decide) ?_ ?_
  · refine k_less [true, false, false, false, false, true] (L' := [lq 3, none, none, none, none, none]) rfl ?_
    exact tNo_insert_J21 hX hR σ hT
  · refine k_iload_n hX dNo_insert_9 rfl ?_
    refine k_if_lt (tgt := 21) hX dNo_insert_10 (by decide) ?_ ?_
    · refine k_less [true, false, false, false, false, true] (L' := [lq 3, none, none, none, none, none]) rfl ?_
      exact tNo_insert_J21 hX hR σ hT
    · refine k_iload_n hX dNo_insert_13 rfl ?_
      refine k_aload_n hX dNo_insert_14 rfl ?_
      refine gf_3 hX dNo_insert_15 ?_
      refine k_icmp_le (tgt := 22) hX dNo_insert_18 (by decide) ?_ ?_
      · refine k_aload_n hX dNo_insert_22 rfl ?_
        refine gf_3 hX dNo_insert_23 ?_
        refine k_iload_n hX dNo_insert_26 rfl ?_
        refine k_isub hX dNo_insert_27 ?_
        refine k_istoreL (Lf := fun y1 => [lq 3, li x1, li x2, li x3, li x4, li y1]) hX dNo_insert_28 rfl (by decide) (fun _ => rfl) (fun y1 => ?_)
        refine k_aload_n hX dNo_insert_30 rfl ?_
        refine gf_4 hX dNo_insert_31 ?_
        refine k_iload_n hX dNo_insert_34 rfl ?_
        refine k_aload_n hX dNo_insert_35 rfl ?_
        refine gf_4 hX dNo_insert_36 ?_
        refine k_iload_n hX dNo_insert_39 rfl ?_
        refine k_iconst hX dNo_insert_40 ?_
        refine k_iadd hX dNo_insert_41 ?_
        refine k_iload hX dNo_insert_42 rfl ?_
        refine k_copy hX (by decide) (Nat.le_of_ble_eq_true rfl) (by decide) (by decide) rfl rfl tw_423 tw_425 tw_424 tw_13 dNo_insert_44 rfl rfl (fun τ2 => ?_)
        refine k_aload_n hX dNo_insert_47 rfl ?_
        refine gf_5 hX dNo_insert_48 ?_
        refine k_iload_n hX dNo_insert_51 rfl ?_
        refine k_aload_n hX dNo_insert_52 rfl ?_
        refine gf_5 hX dNo_insert_53 ?_
        refine k_iload_n hX dNo_insert_56 rfl ?_
        refine k_iconst hX dNo_insert_57 ?_
        refine k_iadd hX dNo_insert_58 ?_
        refine k_iload hX dNo_insert_59 rfl ?_
        refine k_copy hX (by decide) (Nat.le_of_ble_eq_true rfl) (by decide) (by decide) rfl rfl tw_423 tw_425 tw_424 tw_13 dNo_insert_61 rfl rfl (fun τ3 => ?_)
        refine k_aload_n hX dNo_insert_64 rfl ?_
        refine gf_95 hX dNo_insert_65 ?_
        refine k_iload_n hX dNo_insert_68 rfl ?_
        refine k_aload_n hX dNo_insert_69 rfl ?_
        refine gf_95 hX dNo_insert_70 ?_
        refine k_iload_n hX dNo_insert_73 rfl ?_
        refine k_iconst hX dNo_insert_74 ?_
        refine k_iadd hX dNo_insert_75 ?_
        refine k_iload hX dNo_insert_76 rfl ?_
        refine k_copy hX (by decide) (Nat.le_of_ble_eq_true rfl) (by decide) (by decide) rfl rfl tw_423 tw_425 tw_424 tw_13 dNo_insert_78 rfl rfl (fun τ4 => ?_)
        refine k_aload_n hX dNo_insert_81 rfl ?_
        refine gf_4 hX dNo_insert_82 ?_
        refine k_iload_n hX dNo_insert_85 rfl ?_
        refine k_iload_n hX dNo_insert_86 rfl ?_
        refine k_iast hX (by decide) rfl dNo_insert_87 rfl (fun τ5 => ?_)
        refine k_aload_n hX dNo_insert_88 rfl ?_
        refine gf_5 hX dNo_insert_89 ?_
        refine k_iload_n hX dNo_insert_92 rfl ?_
        refine k_iload_n hX dNo_insert_93 rfl ?_
        refine k_iast hX (by decide) rfl dNo_insert_94 rfl (fun τ6 => ?_)
        refine k_aload_n hX dNo_insert_95 rfl ?_
        refine gf_95 hX dNo_insert_96 ?_
        refine k_iload_n hX dNo_insert_99 rfl ?_
        refine k_iload hX dNo_insert_100 rfl ?_
        refine k_iast hX (by decide) rfl dNo_insert_102 rfl (fun τ7 => ?_)
        refine k_aload_n hX dNo_insert_103 rfl ?_
        refine k_dupr hX dNo_insert_104 ?_
        refine gf_3 hX dNo_insert_105 ?_
        refine k_iconst hX dNo_insert_108 ?_
        refine k_iadd hX dNo_insert_109 ?_
        refine gp_96 hX dNo_insert_110 (fun τ8 => ?_)
        exact k_vret hX hR hT dNo_insert_113
      · refine k_less [true, false, false, false, false, true] (L' := [lq 3, none, none, none, none, none]) rfl ?_
        exact tNo_insert_J21 hX hR σ hT
theorem cl_94 {X : KC} {d n : Nat} {cc : ByteArray} {pc : Nat} {L : List (Option KV)} {st : List KV} {σ : KM} {Z : Type} {Θ : Z → Prop} {G : Int → KM → Option Z} {x1 x2 x3 x4 : Int} (hX : kOk X d cc n "KeyPath") (hdd : 1 + 1 ≤ d) (hst : k_cat st ≤ 8) (hd : decode cc pc = .ok (.invokevirtual 106, 3)) (h : ∀ r τ, kJ X (pc + 3) L (st) τ (G r τ) Θ) : kJ X pc L (ki x4 :: ki x3 :: ki x2 :: ki x1 :: kr 3 :: st) σ (kCall (fNo_insert x1 x2 x3 x4 σ) G) Θ :=
  k_callV (np := 4) (av := [ki x1, ki x2, ki x3, ki x4]) (ret := none) hX (by decide) rfl rfl rfl (sNo_insert _ _ _ _ σ) ⟨⟨hdd, by decide⟩, tw_422, tw_3, by decide +kernel⟩ rfl tw_479 tw_420 tw_421 hst hd h
theorem cl_104 {X : KC} {d n : Nat} {cc : ByteArray} {pc : Nat} {L : List (Option KV)} {st : List KV} {σ : KM} {Z : Type} {Θ : Z → Prop} {G : Int → KM → Option Z} {x1 x2 x3 x4 : Int} (hX : kOk X d cc n "KeyPath$History") (hdd : 1 + 1 ≤ d) (hst : k_cat st ≤ 8) (hd : decode cc pc = .ok (.invokevirtual 46, 3)) (h : ∀ r τ, kJ X (pc + 3) L (st) τ (G r τ) Θ) : kJ X pc L (ki x4 :: ki x3 :: ki x2 :: ki x1 :: kr 3 :: st) σ (kCall (fNo_insert x1 x2 x3 x4 σ) G) Θ :=
  k_callV (np := 4) (av := [ki x1, ki x2, ki x3, ki x4]) (ret := none) hX (by decide) rfl rfl rfl (sNo_insert _ _ _ _ σ) ⟨⟨hdd, by decide⟩, tw_422, tw_3, by decide +kernel⟩ rfl tw_519 tw_420 tw_421 hst hd h
theorem dP_put_0 : decode prog_1_method_5_code 0 = .ok (.iload_n 1, 1) := by decide +kernel
theorem dP_put_1 : decode prog_1_method_5_code 1 = .ok (.iload_n 2, 1) := by decide +kernel
theorem dP_put_2 : decode prog_1_method_5_code 2 = .ok (.iload_n 3, 1) := by decide +kernel
theorem dP_put_3 : decode prog_1_method_5_code 3 = .ok (.invokestatic 98, 3) := by decide +kernel
theorem dP_put_6 : decode prog_1_method_5_code 6 = .ok (.ifCond .ne 6, 3) := by decide +kernel
theorem dP_put_9 : decode prog_1_method_5_code 9 = .ok (.bipush (-3), 2) := by decide +kernel
theorem dP_put_11 : decode prog_1_method_5_code 11 = .ok (.ireturn, 1) := by decide +kernel
theorem dP_put_12 : decode prog_1_method_5_code 12 = .ok (.aload_n 0, 1) := by decide +kernel
theorem dP_put_13 : decode prog_1_method_5_code 13 = .ok (.getfield 19, 3) := by decide +kernel
theorem dP_put_16 : decode prog_1_method_5_code 16 = .ok (.getfield 92, 3) := by decide +kernel
theorem dP_put_19 : decode prog_1_method_5_code 19 = .ok (.bipush 100, 2) := by decide +kernel
theorem dP_put_21 : decode prog_1_method_5_code 21 = .ok (.if_icmp .lt 6, 3) := by decide +kernel
theorem dP_put_24 : decode prog_1_method_5_code 24 = .ok (.bipush (-4), 2) := by decide +kernel
theorem dP_put_26 : decode prog_1_method_5_code 26 = .ok (.ireturn, 1) := by decide +kernel
theorem dP_put_27 : decode prog_1_method_5_code 27 = .ok (.aload_n 0, 1) := by decide +kernel
theorem dP_put_28 : decode prog_1_method_5_code 28 = .ok (.getfield 19, 3) := by decide +kernel
theorem dP_put_31 : decode prog_1_method_5_code 31 = .ok (.iload_n 1, 1) := by decide +kernel
theorem dP_put_32 : decode prog_1_method_5_code 32 = .ok (.iload_n 2, 1) := by decide +kernel
theorem dP_put_33 : decode prog_1_method_5_code 33 = .ok (.iload_n 3, 1) := by decide +kernel
theorem dP_put_34 : decode prog_1_method_5_code 34 = .ok (.invokevirtual 102, 3) := by decide +kernel
theorem dP_put_37 : decode prog_1_method_5_code 37 = .ok (.istore 4, 2) := by decide +kernel
theorem dP_put_39 : decode prog_1_method_5_code 39 = .ok (.aload_n 0, 1) := by decide +kernel
theorem dP_put_40 : decode prog_1_method_5_code 40 = .ok (.getfield 19, 3) := by decide +kernel
theorem dP_put_43 : decode prog_1_method_5_code 43 = .ok (.iload 4, 2) := by decide +kernel
theorem dP_put_45 : decode prog_1_method_5_code 45 = .ok (.iload_n 1, 1) := by decide +kernel
theorem dP_put_46 : decode prog_1_method_5_code 46 = .ok (.iload_n 2, 1) := by decide +kernel
theorem dP_put_47 : decode prog_1_method_5_code 47 = .ok (.iload_n 3, 1) := by decide +kernel
theorem dP_put_48 : decode prog_1_method_5_code 48 = .ok (.invokevirtual 106, 3) := by decide +kernel
theorem dP_put_51 : decode prog_1_method_5_code 51 = .ok (.aload_n 0, 1) := by decide +kernel
theorem dP_put_52 : decode prog_1_method_5_code 52 = .ok (.getfield 26, 3) := by decide +kernel
theorem dP_put_55 : decode prog_1_method_5_code 55 = .ok (.iconst 0, 1) := by decide +kernel
theorem dP_put_56 : decode prog_1_method_5_code 56 = .ok (.iload 4, 2) := by decide +kernel
theorem dP_put_58 : decode prog_1_method_5_code 58 = .ok (.iconst 0, 1) := by decide +kernel
theorem dP_put_59 : decode prog_1_method_5_code 59 = .ok (.iconst 0, 1) := by decide +kernel
theorem dP_put_60 : decode prog_1_method_5_code 60 = .ok (.iconst 0, 1) := by decide +kernel
theorem dP_put_61 : decode prog_1_method_5_code 61 = .ok (.invokevirtual 110, 3) := by decide +kernel
theorem dP_put_64 : decode prog_1_method_5_code 64 = .ok (.aload_n 0, 1) := by decide +kernel
theorem dP_put_65 : decode prog_1_method_5_code 65 = .ok (.invokevirtual 89, 3) := by decide +kernel
theorem dP_put_68 : decode prog_1_method_5_code 68 = .ok (.iload 4, 2) := by decide +kernel
theorem dP_put_70 : decode prog_1_method_5_code 70 = .ok (.ireturn, 1) := by decide +kernel
set_option maxRecDepth 100000 in
set_option maxHeartbeats 4000000 in
theorem sP_put (x1 x2 x3 : Int) (σ : KM) : kSem 4 (⟨"KeyPath", "put", "(III)I"⟩ : MethodName) prog_1_method_5_code 5 (some .int) [kr 0, ki x1, ki x2, ki x3] σ (fP_put x1 x2 x3 σ) := by
  refine kSem.of (L0 := [lq 0, li x1, li x2, li x3, none]) (by decide) (Nat.le_of_ble_eq_true rfl) rfl (fun X q hX hR => ?_)
  have hT : ∀ z : Int × KM, (fun z => z = q) z → z = q := fun _ h => h
  refine k_iload_n hX dP_put_0 rfl ?_
  refine k_iload_n hX dP_put_1 rfl ?_
  refine k_iload_n hX dP_put_2 rfl ?_
  refine cl_91 hX (by decide) (Nat.le_of_ble_eq_true rfl) dP_put_3 (fun r2 τ1 => ?_)
  refine k_if_ne (tgt := 12) hX dP_put_6 (by decide) ?_ ?_
  · refine k_aload_n hX dP_put_12 rfl ?_
    refine gf_2 hX dP_put_13 ?_
    refine gf_74 hX dP_put_16 ?_
    refine k_bipush hX dP_put_19 (by decide) ?_
    refine k_icmp_lt (tgt := 27) hX dP_put_21 (by decide) ?_ ?_
    · refine k_aload_n hX dP_put_27 rfl ?_
      refine gf_2 hX dP_put_28 ?_
      refine k_iload_n hX dP_put_31 rfl ?_
      refine k_iload_n hX dP_put_32 rfl ?_
      refine k_iload_n hX dP_put_33 rfl ?_
      refine cl_93 hX (by decide) (Nat.le_of_ble_eq_true rfl) dP_put_34 (fun r4 τ3 => ?_)
      refine k_istore (L' := [lq 0, li x1, li x2, li x3, li r4]) hX dP_put_37 rfl (by decide) rfl ?_
      refine k_aload_n hX dP_put_39 rfl ?_
      refine gf_2 hX dP_put_40 ?_
      refine k_iload hX dP_put_43 rfl ?_
      refine k_iload_n hX dP_put_45 rfl ?_
      refine k_iload_n hX dP_put_46 rfl ?_
      refine k_iload_n hX dP_put_47 rfl ?_
      refine cl_94 hX (by decide) (Nat.le_of_ble_eq_true rfl) dP_put_48 (fun _ τ5 => ?_)
      refine k_aload_n hX dP_put_51 rfl ?_
      refine gf_75 hX dP_put_52 ?_
      refine k_iconst hX dP_put_55 ?_
      refine k_iload hX dP_put_56 rfl ?_
      refine k_iconst hX dP_put_58 ?_
      refine k_iconst hX dP_put_59 ?_
      refine k_iconst hX dP_put_60 ?_
      refine cl_46 hX (by decide) (Nat.le_of_ble_eq_true rfl) dP_put_61 (fun _ τ6 => ?_)
      refine k_aload_n hX dP_put_64 rfl ?_
      refine cl_50 hX (by decide) (Nat.le_of_ble_eq_true rfl) dP_put_65 (fun _ τ7 => ?_)
      refine k_iload hX dP_put_68 rfl ?_
      exact k_iret hX hR hT dP_put_70
    · refine k_bipush hX dP_put_24 (by decide) ?_
      exact k_iret hX hR hT dP_put_26
  · refine k_bipush hX dP_put_9 (by decide) ?_
    exact k_iret hX hR hT dP_put_11
theorem dP_ranked_0 : decode prog_1_method_17_code 0 = .ok (.aload_n 0, 1) := by decide +kernel
theorem dP_ranked_1 : decode prog_1_method_17_code 1 = .ok (.iload_n 1, 1) := by decide +kernel
theorem dP_ranked_2 : decode prog_1_method_17_code 2 = .ok (.invokevirtual 196, 3) := by decide +kernel
theorem dP_ranked_5 : decode prog_1_method_17_code 5 = .ok (.ifCond .eq 6, 3) := by decide +kernel
theorem dP_ranked_8 : decode prog_1_method_17_code 8 = .ok (.bipush (-2), 2) := by decide +kernel
theorem dP_ranked_10 : decode prog_1_method_17_code 10 = .ok (.ireturn, 1) := by decide +kernel
theorem dP_ranked_11 : decode prog_1_method_17_code 11 = .ok (.iload_n 2, 1) := by decide +kernel
theorem dP_ranked_12 : decode prog_1_method_17_code 12 = .ok (.invokestatic 190, 3) := by decide +kernel
theorem dP_ranked_15 : decode prog_1_method_17_code 15 = .ok (.ifCond .eq 6, 3) := by decide +kernel
theorem dP_ranked_18 : decode prog_1_method_17_code 18 = .ok (.bipush (-3), 2) := by decide +kernel
theorem dP_ranked_20 : decode prog_1_method_17_code 20 = .ok (.ireturn, 1) := by decide +kernel
theorem dP_ranked_21 : decode prog_1_method_17_code 21 = .ok (.aload_n 0, 1) := by decide +kernel
theorem dP_ranked_22 : decode prog_1_method_17_code 22 = .ok (.invokevirtual 212, 3) := by decide +kernel
theorem dP_ranked_25 : decode prog_1_method_17_code 25 = .ok (.aload_n 0, 1) := by decide +kernel
theorem dP_ranked_26 : decode prog_1_method_17_code 26 = .ok (.getfield 40, 3) := by decide +kernel
theorem dP_ranked_29 : decode prog_1_method_17_code 29 = .ok (.iload_n 1, 1) := by decide +kernel
theorem dP_ranked_30 : decode prog_1_method_17_code 30 = .ok (.iload_n 2, 1) := by decide +kernel
theorem dP_ranked_31 : decode prog_1_method_17_code 31 = .ok (.invokevirtual 218, 3) := by decide +kernel
theorem dP_ranked_34 : decode prog_1_method_17_code 34 = .ok (.ireturn, 1) := by decide +kernel
set_option maxRecDepth 100000 in
set_option maxHeartbeats 4000000 in
theorem sP_ranked (x1 x2 : Int) (σ : KM) : kSem 7 (⟨"KeyPath", "ranked", "(II)I"⟩ : MethodName) prog_1_method_17_code 3 (some .int) [kr 0, ki x1, ki x2] σ (fP_ranked x1 x2 σ) := by
  refine kSem.of (L0 := [lq 0, li x1, li x2]) (by decide) (Nat.le_of_ble_eq_true rfl) rfl (fun X q hX hR => ?_)
  have hT : ∀ z : Int × KM, (fun z => z = q) z → z = q := fun _ h => h
  refine k_aload_n hX dP_ranked_0 rfl ?_
  refine k_iload_n hX dP_ranked_1 rfl ?_
  refine cl_9 hX (by decide) (Nat.le_of_ble_eq_true rfl) dP_ranked_2 (fun r2 τ1 => ?_)
  refine k_if_eq (tgt := 11) hX dP_ranked_5 (by decide) ?_ ?_
  · refine k_iload_n hX dP_ranked_11 rfl ?_
    refine cl_44 hX (by decide) (Nat.le_of_ble_eq_true rfl) dP_ranked_12 (fun r4 τ3 => ?_)
    refine k_if_eq (tgt := 21) hX dP_ranked_15 (by decide) ?_ ?_
    · refine k_aload_n hX dP_ranked_21 rfl ?_
      refine cl_14 hX (by decide) (Nat.le_of_ble_eq_true rfl) dP_ranked_22 (fun _ τ5 => ?_)
      refine k_aload_n hX dP_ranked_25 rfl ?_
      refine gf_23 hX dP_ranked_26 ?_
      refine k_iload_n hX dP_ranked_29 rfl ?_
      refine k_iload_n hX dP_ranked_30 rfl ?_
      refine cl_86 hX (by decide) (Nat.le_of_ble_eq_true rfl) dP_ranked_31 (fun r7 τ6 => ?_)
      exact k_iret hX hR hT dP_ranked_34
    · refine k_bipush hX dP_ranked_18 (by decide) ?_
      exact k_iret hX hR hT dP_ranked_20
  · refine k_bipush hX dP_ranked_8 (by decide) ?_
    exact k_iret hX hR hT dP_ranked_10
theorem dP_roman_0 : decode prog_1_method_34_code 0 = .ok (.aload_n 0, 1) := by decide +kernel
theorem dP_roman_1 : decode prog_1_method_34_code 1 = .ok (.iload_n 1, 1) := by decide +kernel
theorem dP_roman_2 : decode prog_1_method_34_code 2 = .ok (.invokevirtual 196, 3) := by decide +kernel
theorem dP_roman_5 : decode prog_1_method_34_code 5 = .ok (.ifCond .eq 6, 3) := by decide +kernel
theorem dP_roman_8 : decode prog_1_method_34_code 8 = .ok (.bipush (-2), 2) := by decide +kernel
theorem dP_roman_10 : decode prog_1_method_34_code 10 = .ok (.ireturn, 1) := by decide +kernel
theorem dP_roman_11 : decode prog_1_method_34_code 11 = .ok (.aload_n 0, 1) := by decide +kernel
theorem dP_roman_12 : decode prog_1_method_34_code 12 = .ok (.invokevirtual 233, 3) := by decide +kernel
theorem dP_roman_15 : decode prog_1_method_34_code 15 = .ok (.ifCond .eq 8, 3) := by decide +kernel
theorem dP_roman_18 : decode prog_1_method_34_code 18 = .ok (.bipush (-5), 2) := by decide +kernel
theorem dP_roman_20 : decode prog_1_method_34_code 20 = .ok (.goto 8, 3) := by decide +kernel
theorem dP_roman_23 : decode prog_1_method_34_code 23 = .ok (.aload_n 0, 1) := by decide +kernel
theorem dP_roman_24 : decode prog_1_method_34_code 24 = .ok (.iload_n 1, 1) := by decide +kernel
theorem dP_roman_25 : decode prog_1_method_34_code 25 = .ok (.invokevirtual 301, 3) := by decide +kernel
theorem dP_roman_28 : decode prog_1_method_34_code 28 = .ok (.ireturn, 1) := by decide +kernel
set_option maxRecDepth 100000 in
set_option maxHeartbeats 4000000 in
theorem tP_roman_J28 {X : KC} {q : Int × KM} (hX : kOk X 8 prog_1_method_34_code 2 "KeyPath") (hR : kRet X (some .int) q) (t0 : Int) (σ : KM) {Θ : (Int × KM) → Prop} (hT : ∀ z, Θ (z) → z = q) : kJ X 28 [lq 0, none] [ki t0] σ (fP_roman_J28 t0 σ) Θ := by
  exact k_iret hX hR hT dP_roman_28
set_option maxRecDepth 100000 in
set_option maxHeartbeats 4000000 in
theorem sP_roman (x1 : Int) (σ : KM) : kSem 8 (⟨"KeyPath", "roman", "(I)I"⟩ : MethodName) prog_1_method_34_code 2 (some .int) [kr 0, ki x1] σ (fP_roman x1 σ) := by
  refine kSem.of (L0 := [lq 0, li x1]) (by decide) (Nat.le_of_ble_eq_true rfl) rfl (fun X q hX hR => ?_)
  have hT : ∀ z : Int × KM, (fun z => z = q) z → z = q := fun _ h => h
  refine k_aload_n hX dP_roman_0 rfl ?_
  refine k_iload_n hX dP_roman_1 rfl ?_
  refine cl_9 hX (by decide) (Nat.le_of_ble_eq_true rfl) dP_roman_2 (fun r2 τ1 => ?_)
  refine k_if_eq (tgt := 11) hX dP_roman_5 (by decide) ?_ ?_
  · refine k_aload_n hX dP_roman_11 rfl ?_
    refine cl_33 hX (by decide) (Nat.le_of_ble_eq_true rfl) dP_roman_12 (fun r4 τ3 => ?_)
    refine k_if_eq (tgt := 23) hX dP_roman_15 (by decide) ?_ ?_
    · refine k_aload_n hX dP_roman_23 rfl ?_
      refine k_iload_n hX dP_roman_24 rfl ?_
      refine cl_38 hX (by decide) (Nat.le_of_ble_eq_true rfl) dP_roman_25 (fun r6 τ5 => ?_)
      refine k_less [true, false] (L' := [lq 0, none]) rfl ?_
      exact tP_roman_J28 hX hR r6 τ5 hT
    · refine k_bipush hX dP_roman_18 (by decide) ?_
      refine k_goto (tgt := 28) hX dP_roman_20 (by decide) ?_
      refine k_less [true, false] (L' := [lq 0, none]) rfl ?_
      exact tP_roman_J28 hX hR (-5) τ3 hT
  · refine k_bipush hX dP_roman_8 (by decide) ?_
    exact k_iret hX hR hT dP_roman_10
