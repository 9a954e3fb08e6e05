theorem diNo_0 : decode prog_5_method_1_code 0 = .ok (.aload_n 0, 1) := by decide +kernel
theorem diNo_1 : decode prog_5_method_1_code 1 = .ok (.invokespecial 3, 3) := by decide +kernel
theorem diNo_4 : decode prog_5_method_1_code 4 = .ok (.aload_n 0, 1) := by decide +kernel
theorem diNo_5 : decode prog_5_method_1_code 5 = .ok (.bipush 100, 2) := by decide +kernel
theorem diNo_7 : decode prog_5_method_1_code 7 = .ok (.newarray .int, 2) := by decide +kernel
theorem diNo_9 : decode prog_5_method_1_code 9 = .ok (.putfield 9, 3) := by decide +kernel
theorem diNo_12 : decode prog_5_method_1_code 12 = .ok (.aload_n 0, 1) := by decide +kernel
theorem diNo_13 : decode prog_5_method_1_code 13 = .ok (.bipush 100, 2) := by decide +kernel
theorem diNo_15 : decode prog_5_method_1_code 15 = .ok (.newarray .int, 2) := by decide +kernel
theorem diNo_17 : decode prog_5_method_1_code 17 = .ok (.putfield 15, 3) := by decide +kernel
theorem diNo_20 : decode prog_5_method_1_code 20 = .ok (.aload_n 0, 1) := by decide +kernel
theorem diNo_21 : decode prog_5_method_1_code 21 = .ok (.bipush 100, 2) := by decide +kernel
theorem diNo_23 : decode prog_5_method_1_code 23 = .ok (.newarray .int, 2) := by decide +kernel
theorem diNo_25 : decode prog_5_method_1_code 25 = .ok (.putfield 18, 3) := by decide +kernel
theorem diNo_28 : decode prog_5_method_1_code 28 = .ok (.return_, 1) := by decide +kernel
set_option maxRecDepth 100000 in
set_option maxHeartbeats 4000000 in
theorem giNo : gSem 1 3 300 (⟨"KeyPath$Notes", "<init>", "()V"⟩ : MethodName) prog_5_method_1_code 1 (fun b => [.ref b]) (fun _ b w => (b, .inr (2, .null :: .null :: .null :: .int 0 :: [])) :: w) (fun K b w u => ∃ q23 q15 q7 : Nat, u = (q23, .inl (K 1, 100, .inl (fun _ => 0))) :: (q15, .inl (K 1, 100, .inl (fun _ => 0))) :: (q7, .inl (K 1, 100, .inl (fun _ => 0))) :: (b, .inr (2, .ref q7 :: .ref q15 :: .ref q23 :: .int 0 :: [])) :: w) := by
  refine gSem.of (lv := fun b => [(0, .ref b)]) (by decide) (fun _ => Nat.le_of_ble_eq_true rfl) (fun _ => rfl) (fun X b w hX hI hR => ?_)
  have hI := hI rfl
  refine g_aload hX diNo_0 rfl 0 rfl ?_
  refine g_obj hX cw_37 cw_24 cw_25 (by decide) (Nat.le_of_ble_eq_true rfl) diNo_1 ?_
  refine g_aload hX diNo_4 rfl 0 rfl ?_
  refine g_bipush (v := 100) hX diNo_5 (by decide) ?_
  refine g_newa (atype := .int) (ty := .int) (t := 1) (N := 100) (cells' := 1) (slots' := 100) hX rfl (fun _ => rfl) (fun _ _ h => h) rfl cw_60 (by decide) (by decide) (by decide) rfl rfl (by decide) (by decide) diNo_7 (fun q7 => ?_)
  refine g_putF (ci := 2) (k := 0) (q0 := 1) (ty0 := k_y2) (w' := (q7, .inl (gK X 1, 100, .inl (fun _ => 0))) :: (b, .inr (2, .ref q7 :: .null :: .null :: .int 0 :: [])) :: w) hX hI rfl k_lay2 k_ok2 k_n2 (by decide) cw_38 rfl rfl rfl rfl rfl (Nat.le_of_ble_eq_true rfl) rfl diNo_9 ?_
  refine g_aload hX diNo_12 rfl 0 rfl ?_
  refine g_bipush (v := 100) hX diNo_13 (by decide) ?_
  refine g_newa (atype := .int) (ty := .int) (t := 1) (N := 100) (cells' := 2) (slots' := 200) hX rfl (fun _ => rfl) (fun _ _ h => h) rfl cw_60 (by decide) (by decide) (by decide) rfl rfl (by decide) (by decide) diNo_15 (fun q15 => ?_)
  refine g_at (pc := 17) rfl ?_
  refine g_putF (ci := 2) (k := 1) (q0 := 2) (ty0 := k_y2) (w' := (q15, .inl (gK X 1, 100, .inl (fun _ => 0))) :: (q7, .inl (gK X 1, 100, .inl (fun _ => 0))) :: (b, .inr (2, .ref q7 :: .ref q15 :: .null :: .int 0 :: [])) :: w) hX hI rfl k_lay2 k_ok2 k_n2 (by decide) cw_41 rfl rfl rfl rfl rfl (Nat.le_of_ble_eq_true rfl) rfl diNo_17 ?_
  refine g_aload hX diNo_20 rfl 0 rfl ?_
  refine g_bipush (v := 100) hX diNo_21 (by decide) ?_
  refine g_newa (atype := .int) (ty := .int) (t := 1) (N := 100) (cells' := 3) (slots' := 300) hX rfl (fun _ => rfl) (fun _ _ h => h) rfl cw_60 (by decide) (by decide) (by decide) rfl rfl (by decide) (by decide) diNo_23 (fun q23 => ?_)
  refine g_putF (ci := 2) (k := 2) (q0 := 3) (ty0 := k_y2) (w' := (q23, .inl (gK X 1, 100, .inl (fun _ => 0))) :: (q15, .inl (gK X 1, 100, .inl (fun _ => 0))) :: (q7, .inl (gK X 1, 100, .inl (fun _ => 0))) :: (b, .inr (2, .ref q7 :: .ref q15 :: .ref q23 :: .int 0 :: [])) :: w) hX hI rfl k_lay2 k_ok2 k_n2 (by decide) cw_44 rfl rfl rfl rfl rfl (Nat.le_of_ble_eq_true rfl) rfl diNo_25 ?_
  exact g_ret hX hR ⟨q23, q15, q7, rfl⟩ diNo_28
theorem diTR_0 : decode prog_8_method_1_code 0 = .ok (.aload_n 0, 1) := by decide +kernel
theorem diTR_1 : decode prog_8_method_1_code 1 = .ok (.invokespecial 3, 3) := by decide +kernel
theorem diTR_4 : decode prog_8_method_1_code 4 = .ok (.aload_n 0, 1) := by decide +kernel
theorem diTR_5 : decode prog_8_method_1_code 5 = .ok (.sipush 700, 3) := by decide +kernel
theorem diTR_8 : decode prog_8_method_1_code 8 = .ok (.newarray .int, 2) := by decide +kernel
theorem diTR_10 : decode prog_8_method_1_code 10 = .ok (.putfield 9, 3) := by decide +kernel
theorem diTR_13 : decode prog_8_method_1_code 13 = .ok (.aload_n 0, 1) := by decide +kernel
theorem diTR_14 : decode prog_8_method_1_code 14 = .ok (.new 15, 3) := by decide +kernel
theorem diTR_17 : decode prog_8_method_1_code 17 = .ok (.dup, 1) := by decide +kernel
theorem diTR_18 : decode prog_8_method_1_code 18 = .ok (.invokespecial 17, 3) := by decide +kernel
theorem diTR_21 : decode prog_8_method_1_code 21 = .ok (.putfield 18, 3) := by decide +kernel
theorem diTR_24 : decode prog_8_method_1_code 24 = .ok (.aload_n 0, 1) := by decide +kernel
theorem diTR_25 : decode prog_8_method_1_code 25 = .ok (.iconst (-1), 1) := by decide +kernel
theorem diTR_26 : decode prog_8_method_1_code 26 = .ok (.putfield 22, 3) := by decide +kernel
theorem diTR_29 : decode prog_8_method_1_code 29 = .ok (.aload_n 0, 1) := by decide +kernel
theorem diTR_30 : decode prog_8_method_1_code 30 = .ok (.bipush 6, 2) := by decide +kernel
theorem diTR_32 : decode prog_8_method_1_code 32 = .ok (.newarray .int, 2) := by decide +kernel
theorem diTR_34 : decode prog_8_method_1_code 34 = .ok (.putfield 26, 3) := by decide +kernel
theorem diTR_37 : decode prog_8_method_1_code 37 = .ok (.return_, 1) := by decide +kernel
set_option maxRecDepth 100000 in
set_option maxHeartbeats 4000000 in
theorem giTR : gSem 2 6 1010 (⟨"KeyPath$TextReader", "<init>", "()V"⟩ : MethodName) prog_8_method_1_code 1 (fun b => [.ref b]) (fun _ b w => (b, .inr (1, .null :: .int 0 :: .null :: .int 0 :: .int 0 :: .int 0 :: .int 0 :: .int 0 :: .null :: .int 0 :: [])) :: w) (fun K b w u => ∃ q32 c18q23 c18q15 c18q7 q14 q8 : Nat, u = (q32, .inl (K 1, 6, .inl (fun _ => 0))) :: (c18q23, .inl (K 1, 100, .inl (fun _ => 0))) :: (c18q15, .inl (K 1, 100, .inl (fun _ => 0))) :: (c18q7, .inl (K 1, 100, .inl (fun _ => 0))) :: (q14, .inr (2, .ref c18q7 :: .ref c18q15 :: .ref c18q23 :: .int 0 :: [])) :: (q8, .inl (K 1, 700, .inl (fun _ => 0))) :: (b, .inr (1, .ref q8 :: .int 0 :: .ref q14 :: .int 0 :: .int (-1) :: .int 0 :: .int 0 :: .int 0 :: .ref q32 :: .int 0 :: [])) :: w) := by
  refine gSem.of (lv := fun b => [(0, .ref b)]) (by decide) (fun _ => Nat.le_of_ble_eq_true rfl) (fun _ => rfl) (fun X b w hX hI hR => ?_)
  have hI := hI rfl
  refine g_aload hX diTR_0 rfl 0 rfl ?_
  refine g_obj hX cw_31 cw_24 cw_25 (by decide) (Nat.le_of_ble_eq_true rfl) diTR_1 ?_
  refine g_aload hX diTR_4 rfl 0 rfl ?_
  refine g_sipush (v := 700) hX diTR_5 (by decide) ?_
  refine g_newa (atype := .int) (ty := .int) (t := 1) (N := 700) (cells' := 1) (slots' := 700) hX rfl (fun _ => rfl) (fun _ _ h => h) rfl cw_60 (by decide) (by decide) (by decide) rfl rfl (by decide) (by decide) diTR_8 (fun q8 => ?_)
  refine g_putF (ci := 1) (k := 0) (q0 := 1) (ty0 := k_y1) (w' := (q8, .inl (gK X 1, 700, .inl (fun _ => 0))) :: (b, .inr (1, .ref q8 :: .int 0 :: .null :: .int 0 :: .int 0 :: .int 0 :: .int 0 :: .int 0 :: .null :: .int 0 :: [])) :: w) hX hI rfl k_lay1 k_ok1 k_n1 (by decide) cw_61 rfl rfl rfl rfl rfl (Nat.le_of_ble_eq_true rfl) rfl diTR_10 ?_
  refine g_aload hX diTR_13 rfl 0 rfl ?_
  refine g_new (ci := 2) (ty := k_y2) (fs := .null :: .null :: .null :: .int 0 :: []) (cells' := 2) (slots' := 704) hX rfl k_lay2 k_ok2 cw_32 cw_33 cw_3 (by decide +kernel) rfl rfl (by decide) (by decide) diTR_14 (fun q14 => ?_)
  refine g_dup hX diTR_17 rfl ?_
  refine g_at (pc := 18) rfl ?_
  refine g_callIN (cells' := 5) (slots' := 1004) hX giNo rfl ⟨⟨by decide, by decide⟩, cw_36, cw_3, by decide +kernel⟩ (List.mem_of_getElem? (i := 1) rfl) cw_35 rfl (Nat.le_of_ble_eq_true rfl) rfl rfl (by decide) (by decide) diTR_18 (fun u hu => ?_)
  obtain ⟨c18q23, c18q15, c18q7, rfl⟩ := hu
  refine g_putF (ci := 1) (k := 2) (q0 := 5) (ty0 := k_y1) (w' := (c18q23, .inl (gK X 1, 100, .inl (fun _ => 0))) :: (c18q15, .inl (gK X 1, 100, .inl (fun _ => 0))) :: (c18q7, .inl (gK X 1, 100, .inl (fun _ => 0))) :: (q14, .inr (2, .ref c18q7 :: .ref c18q15 :: .ref c18q23 :: .int 0 :: [])) :: (q8, .inl (gK X 1, 700, .inl (fun _ => 0))) :: (b, .inr (1, .ref q8 :: .int 0 :: .ref q14 :: .int 0 :: .int 0 :: .int 0 :: .int 0 :: .int 0 :: .null :: .int 0 :: [])) :: w) hX hI rfl k_lay1 k_ok1 k_n1 (by decide) cw_64 rfl rfl rfl rfl rfl (Nat.le_of_ble_eq_true rfl) rfl diTR_21 ?_
  refine g_aload hX diTR_24 rfl 0 rfl ?_
  refine g_iconst (v := (-1)) hX diTR_25 (by decide) ?_
  refine g_put (ci := 1) (k := 4) (q0 := 5) (ty0 := k_y1) (w' := (c18q23, .inl (gK X 1, 100, .inl (fun _ => 0))) :: (c18q15, .inl (gK X 1, 100, .inl (fun _ => 0))) :: (c18q7, .inl (gK X 1, 100, .inl (fun _ => 0))) :: (q14, .inr (2, .ref c18q7 :: .ref c18q15 :: .ref c18q23 :: .int 0 :: [])) :: (q8, .inl (gK X 1, 700, .inl (fun _ => 0))) :: (b, .inr (1, .ref q8 :: .int 0 :: .ref q14 :: .int 0 :: .int (-1) :: .int 0 :: .int 0 :: .int 0 :: .null :: .int 0 :: [])) :: w) hX rfl k_lay1 k_ok1 k_n1 (by decide) cw_68 rfl rfl rfl rfl rfl (Nat.le_of_ble_eq_true rfl) rfl diTR_26 ?_
  refine g_aload hX diTR_29 rfl 0 rfl ?_
  refine g_bipush (v := 6) hX diTR_30 (by decide) ?_
  refine g_newa (atype := .int) (ty := .int) (t := 1) (N := 6) (cells' := 6) (slots' := 1010) hX rfl (fun _ => rfl) (fun _ _ h => h) rfl cw_60 (by decide) (by decide) (by decide) rfl rfl (by decide) (by decide) diTR_32 (fun q32 => ?_)
  refine g_putF (ci := 1) (k := 8) (q0 := 6) (ty0 := k_y1) (w' := (q32, .inl (gK X 1, 6, .inl (fun _ => 0))) :: (c18q23, .inl (gK X 1, 100, .inl (fun _ => 0))) :: (c18q15, .inl (gK X 1, 100, .inl (fun _ => 0))) :: (c18q7, .inl (gK X 1, 100, .inl (fun _ => 0))) :: (q14, .inr (2, .ref c18q7 :: .ref c18q15 :: .ref c18q23 :: .int 0 :: [])) :: (q8, .inl (gK X 1, 700, .inl (fun _ => 0))) :: (b, .inr (1, .ref q8 :: .int 0 :: .ref q14 :: .int 0 :: .int (-1) :: .int 0 :: .int 0 :: .int 0 :: .ref q32 :: .int 0 :: [])) :: w) hX hI rfl k_lay1 k_ok1 k_n1 (by decide) cw_73 rfl rfl rfl rfl rfl (Nat.le_of_ble_eq_true rfl) rfl diTR_34 ?_
  exact g_ret hX hR ⟨q32, c18q23, c18q15, c18q7, q14, q8, rfl⟩ diTR_37
theorem diHi_0 : decode prog_3_method_1_code 0 = .ok (.aload_n 0, 1) := by decide +kernel
theorem diHi_1 : decode prog_3_method_1_code 1 = .ok (.invokespecial 3, 3) := by decide +kernel
theorem diHi_4 : decode prog_3_method_1_code 4 = .ok (.aload_n 0, 1) := by decide +kernel
theorem diHi_5 : decode prog_3_method_1_code 5 = .ok (.bipush 10, 2) := by decide +kernel
theorem diHi_7 : decode prog_3_method_1_code 7 = .ok (.newarray .int, 2) := by decide +kernel
theorem diHi_9 : decode prog_3_method_1_code 9 = .ok (.putfield 9, 3) := by decide +kernel
theorem diHi_12 : decode prog_3_method_1_code 12 = .ok (.aload_n 0, 1) := by decide +kernel
theorem diHi_13 : decode prog_3_method_1_code 13 = .ok (.bipush 10, 2) := by decide +kernel
theorem diHi_15 : decode prog_3_method_1_code 15 = .ok (.newarray .int, 2) := by decide +kernel
theorem diHi_17 : decode prog_3_method_1_code 17 = .ok (.putfield 15, 3) := by decide +kernel
theorem diHi_20 : decode prog_3_method_1_code 20 = .ok (.aload_n 0, 1) := by decide +kernel
theorem diHi_21 : decode prog_3_method_1_code 21 = .ok (.bipush 10, 2) := by decide +kernel
theorem diHi_23 : decode prog_3_method_1_code 23 = .ok (.newarray .int, 2) := by decide +kernel
theorem diHi_25 : decode prog_3_method_1_code 25 = .ok (.putfield 18, 3) := by decide +kernel
theorem diHi_28 : decode prog_3_method_1_code 28 = .ok (.aload_n 0, 1) := by decide +kernel
theorem diHi_29 : decode prog_3_method_1_code 29 = .ok (.bipush 10, 2) := by decide +kernel
theorem diHi_31 : decode prog_3_method_1_code 31 = .ok (.newarray .int, 2) := by decide +kernel
theorem diHi_33 : decode prog_3_method_1_code 33 = .ok (.putfield 21, 3) := by decide +kernel
theorem diHi_36 : decode prog_3_method_1_code 36 = .ok (.aload_n 0, 1) := by decide +kernel
theorem diHi_37 : decode prog_3_method_1_code 37 = .ok (.bipush 10, 2) := by decide +kernel
theorem diHi_39 : decode prog_3_method_1_code 39 = .ok (.newarray .int, 2) := by decide +kernel
theorem diHi_41 : decode prog_3_method_1_code 41 = .ok (.putfield 24, 3) := by decide +kernel
theorem diHi_44 : decode prog_3_method_1_code 44 = .ok (.return_, 1) := by decide +kernel
set_option maxRecDepth 100000 in
set_option maxHeartbeats 4000000 in
theorem giHi : gSem 1 5 50 (⟨"KeyPath$History", "<init>", "()V"⟩ : MethodName) prog_3_method_1_code 1 (fun b => [.ref b]) (fun _ b w => (b, .inr (3, .null :: .null :: .null :: .null :: .null :: .int 0 :: [])) :: w) (fun K b w u => ∃ q39 q31 q23 q15 q7 : Nat, u = (q39, .inl (K 1, 10, .inl (fun _ => 0))) :: (q31, .inl (K 1, 10, .inl (fun _ => 0))) :: (q23, .inl (K 1, 10, .inl (fun _ => 0))) :: (q15, .inl (K 1, 10, .inl (fun _ => 0))) :: (q7, .inl (K 1, 10, .inl (fun _ => 0))) :: (b, .inr (3, .ref q7 :: .ref q15 :: .ref q23 :: .ref q31 :: .ref q39 :: .int 0 :: [])) :: w) := by
  refine gSem.of (lv := fun b => [(0, .ref b)]) (by decide) (fun _ => Nat.le_of_ble_eq_true rfl) (fun _ => rfl) (fun X b w hX hI hR => ?_)
  have hI := hI rfl
  refine g_aload hX diHi_0 rfl 0 rfl ?_
  refine g_obj hX cw_103 cw_24 cw_25 (by decide) (Nat.le_of_ble_eq_true rfl) diHi_1 ?_
  refine g_aload hX diHi_4 rfl 0 rfl ?_
  refine g_bipush (v := 10) hX diHi_5 (by decide) ?_
  refine g_newa (atype := .int) (ty := .int) (t := 1) (N := 10) (cells' := 1) (slots' := 10) hX rfl (fun _ => rfl) (fun _ _ h => h) rfl cw_60 (by decide) (by decide) (by decide) rfl rfl (by decide) (by decide) diHi_7 (fun q7 => ?_)
  refine g_putF (ci := 3) (k := 0) (q0 := 1) (ty0 := k_y3) (w' := (q7, .inl (gK X 1, 10, .inl (fun _ => 0))) :: (b, .inr (3, .ref q7 :: .null :: .null :: .null :: .null :: .int 0 :: [])) :: w) hX hI rfl k_lay3 k_ok3 k_n3 (by decide) cw_104 rfl rfl rfl rfl rfl (Nat.le_of_ble_eq_true rfl) rfl diHi_9 ?_
  refine g_aload hX diHi_12 rfl 0 rfl ?_
  refine g_bipush (v := 10) hX diHi_13 (by decide) ?_
  refine g_newa (atype := .int) (ty := .int) (t := 1) (N := 10) (cells' := 2) (slots' := 20) hX rfl (fun _ => rfl) (fun _ _ h => h) rfl cw_60 (by decide) (by decide) (by decide) rfl rfl (by decide) (by decide) diHi_15 (fun q15 => ?_)
  refine g_at (pc := 17) rfl ?_
  refine g_putF (ci := 3) (k := 1) (q0 := 2) (ty0 := k_y3) (w' := (q15, .inl (gK X 1, 10, .inl (fun _ => 0))) :: (q7, .inl (gK X 1, 10, .inl (fun _ => 0))) :: (b, .inr (3, .ref q7 :: .ref q15 :: .null :: .null :: .null :: .int 0 :: [])) :: w) hX hI rfl k_lay3 k_ok3 k_n3 (by decide) cw_105 rfl rfl rfl rfl rfl (Nat.le_of_ble_eq_true rfl) rfl diHi_17 ?_
  refine g_aload hX diHi_20 rfl 0 rfl ?_
  refine g_bipush (v := 10) hX diHi_21 (by decide) ?_
  refine g_newa (atype := .int) (ty := .int) (t := 1) (N := 10) (cells' := 3) (slots' := 30) hX rfl (fun _ => rfl) (fun _ _ h => h) rfl cw_60 (by decide) (by decide) (by decide) rfl rfl (by decide) (by decide) diHi_23 (fun q23 => ?_)
  refine g_putF (ci := 3) (k := 2) (q0 := 3) (ty0 := k_y3) (w' := (q23, .inl (gK X 1, 10, .inl (fun _ => 0))) :: (q15, .inl (gK X 1, 10, .inl (fun _ => 0))) :: (q7, .inl (gK X 1, 10, .inl (fun _ => 0))) :: (b, .inr (3, .ref q7 :: .ref q15 :: .ref q23 :: .null :: .null :: .int 0 :: [])) :: w) hX hI rfl k_lay3 k_ok3 k_n3 (by decide) cw_106 rfl rfl rfl rfl rfl (Nat.le_of_ble_eq_true rfl) rfl diHi_25 ?_
  refine g_aload hX diHi_28 rfl 0 rfl ?_
  refine g_bipush (v := 10) hX diHi_29 (by decide) ?_
  refine g_newa (atype := .int) (ty := .int) (t := 1) (N := 10) (cells' := 4) (slots' := 40) hX rfl (fun _ => rfl) (fun _ _ h => h) rfl cw_60 (by decide) (by decide) (by decide) rfl rfl (by decide) (by decide) diHi_31 (fun q31 => ?_)
  refine g_putF (ci := 3) (k := 3) (q0 := 4) (ty0 := k_y3) (w' := (q31, .inl (gK X 1, 10, .inl (fun _ => 0))) :: (q23, .inl (gK X 1, 10, .inl (fun _ => 0))) :: (q15, .inl (gK X 1, 10, .inl (fun _ => 0))) :: (q7, .inl (gK X 1, 10, .inl (fun _ => 0))) :: (b, .inr (3, .ref q7 :: .ref q15 :: .ref q23 :: .ref q31 :: .null :: .int 0 :: [])) :: w) hX hI rfl k_lay3 k_ok3 k_n3 (by decide) cw_107 rfl rfl rfl rfl rfl (Nat.le_of_ble_eq_true rfl) rfl diHi_33 ?_
  refine g_aload hX diHi_36 rfl 0 rfl ?_
  refine g_at (pc := 37) rfl ?_
  refine g_bipush (v := 10) hX diHi_37 (by decide) ?_
  refine g_newa (atype := .int) (ty := .int) (t := 1) (N := 10) (cells' := 5) (slots' := 50) hX rfl (fun _ => rfl) (fun _ _ h => h) rfl cw_60 (by decide) (by decide) (by decide) rfl rfl (by decide) (by decide) diHi_39 (fun q39 => ?_)
  refine g_putF (ci := 3) (k := 4) (q0 := 5) (ty0 := k_y3) (w' := (q39, .inl (gK X 1, 10, .inl (fun _ => 0))) :: (q31, .inl (gK X 1, 10, .inl (fun _ => 0))) :: (q23, .inl (gK X 1, 10, .inl (fun _ => 0))) :: (q15, .inl (gK X 1, 10, .inl (fun _ => 0))) :: (q7, .inl (gK X 1, 10, .inl (fun _ => 0))) :: (b, .inr (3, .ref q7 :: .ref q15 :: .ref q23 :: .ref q31 :: .ref q39 :: .int 0 :: [])) :: w) hX hI rfl k_lay3 k_ok3 k_n3 (by decide) cw_108 rfl rfl rfl rfl rfl (Nat.le_of_ble_eq_true rfl) rfl diHi_41 ?_
  exact g_ret hX hR ⟨q39, q31, q23, q15, q7, rfl⟩ diHi_44
theorem diWi_0 : decode prog_9_method_1_code 0 = .ok (.aload_n 0, 1) := by decide +kernel
theorem diWi_1 : decode prog_9_method_1_code 1 = .ok (.invokespecial 3, 3) := by decide +kernel
theorem diWi_4 : decode prog_9_method_1_code 4 = .ok (.aload_n 0, 1) := by decide +kernel
theorem diWi_5 : decode prog_9_method_1_code 5 = .ok (.bipush 16, 2) := by decide +kernel
theorem diWi_7 : decode prog_9_method_1_code 7 = .ok (.putfield 9, 3) := by decide +kernel
theorem diWi_10 : decode prog_9_method_1_code 10 = .ok (.aload_n 0, 1) := by decide +kernel
theorem diWi_11 : decode prog_9_method_1_code 11 = .ok (.bipush 8, 2) := by decide +kernel
theorem diWi_13 : decode prog_9_method_1_code 13 = .ok (.putfield 15, 3) := by decide +kernel
theorem diWi_16 : decode prog_9_method_1_code 16 = .ok (.aload_n 0, 1) := by decide +kernel
theorem diWi_17 : decode prog_9_method_1_code 17 = .ok (.sipush 588, 3) := by decide +kernel
theorem diWi_20 : decode prog_9_method_1_code 20 = .ok (.newarray .int, 2) := by decide +kernel
theorem diWi_22 : decode prog_9_method_1_code 22 = .ok (.putfield 18, 3) := by decide +kernel
theorem diWi_25 : decode prog_9_method_1_code 25 = .ok (.aload_n 0, 1) := by decide +kernel
theorem diWi_26 : decode prog_9_method_1_code 26 = .ok (.bipush 49, 2) := by decide +kernel
theorem diWi_28 : decode prog_9_method_1_code 28 = .ok (.newarray .int, 2) := by decide +kernel
theorem diWi_30 : decode prog_9_method_1_code 30 = .ok (.putfield 22, 3) := by decide +kernel
theorem diWi_33 : decode prog_9_method_1_code 33 = .ok (.aload_n 0, 1) := by decide +kernel
theorem diWi_34 : decode prog_9_method_1_code 34 = .ok (.bipush 48, 2) := by decide +kernel
theorem diWi_36 : decode prog_9_method_1_code 36 = .ok (.newarray .int, 2) := by decide +kernel
theorem diWi_38 : decode prog_9_method_1_code 38 = .ok (.putfield 25, 3) := by decide +kernel
theorem diWi_41 : decode prog_9_method_1_code 41 = .ok (.aload_n 0, 1) := by decide +kernel
theorem diWi_42 : decode prog_9_method_1_code 42 = .ok (.iconst 1, 1) := by decide +kernel
theorem diWi_43 : decode prog_9_method_1_code 43 = .ok (.putfield 28, 3) := by decide +kernel
theorem diWi_46 : decode prog_9_method_1_code 46 = .ok (.return_, 1) := by decide +kernel
set_option maxRecDepth 100000 in
set_option maxHeartbeats 4000000 in
theorem giWi : gSem 1 3 685 (⟨"KeyPath$Windows", "<init>", "()V"⟩ : MethodName) prog_9_method_1_code 1 (fun b => [.ref b]) (fun _ b w => (b, .inr (4, .int 0 :: .int 0 :: .int 0 :: .null :: .null :: .null :: .int 0 :: [])) :: w) (fun K b w u => ∃ q36 q28 q20 : Nat, u = (q36, .inl (K 1, 48, .inl (fun _ => 0))) :: (q28, .inl (K 1, 49, .inl (fun _ => 0))) :: (q20, .inl (K 1, 588, .inl (fun _ => 0))) :: (b, .inr (4, .int 16 :: .int 8 :: .int 0 :: .ref q20 :: .ref q28 :: .ref q36 :: .int 1 :: [])) :: w) := by
  refine gSem.of (lv := fun b => [(0, .ref b)]) (by decide) (fun _ => Nat.le_of_ble_eq_true rfl) (fun _ => rfl) (fun X b w hX hI hR => ?_)
  have hI := hI rfl
  refine g_aload hX diWi_0 rfl 0 rfl ?_
  refine g_obj hX cw_129 cw_24 cw_25 (by decide) (Nat.le_of_ble_eq_true rfl) diWi_1 ?_
  refine g_aload hX diWi_4 rfl 0 rfl ?_
  refine g_bipush (v := 16) hX diWi_5 (by decide) ?_
  refine g_put (ci := 4) (k := 0) (q0 := 0) (ty0 := k_y4) (w' := (b, .inr (4, .int 16 :: .int 0 :: .int 0 :: .null :: .null :: .null :: .int 0 :: [])) :: w) hX rfl k_lay4 k_ok4 k_n4 (by decide) cw_130 rfl rfl rfl rfl rfl (Nat.le_of_ble_eq_true rfl) rfl diWi_7 ?_
  refine g_aload hX diWi_10 rfl 0 rfl ?_
  refine g_bipush (v := 8) hX diWi_11 (by decide) ?_
  refine g_put (ci := 4) (k := 1) (q0 := 0) (ty0 := k_y4) (w' := (b, .inr (4, .int 16 :: .int 8 :: .int 0 :: .null :: .null :: .null :: .int 0 :: [])) :: w) hX rfl k_lay4 k_ok4 k_n4 (by decide) cw_132 rfl rfl rfl rfl rfl (Nat.le_of_ble_eq_true rfl) rfl diWi_13 ?_
  refine g_aload hX diWi_16 rfl 0 rfl ?_
  refine g_at (pc := 17) rfl ?_
  refine g_sipush (v := 588) hX diWi_17 (by decide) ?_
  refine g_newa (atype := .int) (ty := .int) (t := 1) (N := 588) (cells' := 1) (slots' := 588) hX rfl (fun _ => rfl) (fun _ _ h => h) rfl cw_60 (by decide) (by decide) (by decide) rfl rfl (by decide) (by decide) diWi_20 (fun q20 => ?_)
  refine g_putF (ci := 4) (k := 3) (q0 := 1) (ty0 := k_y4) (w' := (q20, .inl (gK X 1, 588, .inl (fun _ => 0))) :: (b, .inr (4, .int 16 :: .int 8 :: .int 0 :: .ref q20 :: .null :: .null :: .int 0 :: [])) :: w) hX hI rfl k_lay4 k_ok4 k_n4 (by decide) cw_138 rfl rfl rfl rfl rfl (Nat.le_of_ble_eq_true rfl) rfl diWi_22 ?_
  refine g_aload hX diWi_25 rfl 0 rfl ?_
  refine g_bipush (v := 49) hX diWi_26 (by decide) ?_
  refine g_newa (atype := .int) (ty := .int) (t := 1) (N := 49) (cells' := 2) (slots' := 637) hX rfl (fun _ => rfl) (fun _ _ h => h) rfl cw_60 (by decide) (by decide) (by decide) rfl rfl (by decide) (by decide) diWi_28 (fun q28 => ?_)
  refine g_putF (ci := 4) (k := 4) (q0 := 2) (ty0 := k_y4) (w' := (q28, .inl (gK X 1, 49, .inl (fun _ => 0))) :: (q20, .inl (gK X 1, 588, .inl (fun _ => 0))) :: (b, .inr (4, .int 16 :: .int 8 :: .int 0 :: .ref q20 :: .ref q28 :: .null :: .int 0 :: [])) :: w) hX hI rfl k_lay4 k_ok4 k_n4 (by decide) cw_141 rfl rfl rfl rfl rfl (Nat.le_of_ble_eq_true rfl) rfl diWi_30 ?_
  refine g_aload hX diWi_33 rfl 0 rfl ?_
  refine g_bipush (v := 48) hX diWi_34 (by decide) ?_
  refine g_newa (atype := .int) (ty := .int) (t := 1) (N := 48) (cells' := 3) (slots' := 685) hX rfl (fun _ => rfl) (fun _ _ h => h) rfl cw_60 (by decide) (by decide) (by decide) rfl rfl (by decide) (by decide) diWi_36 (fun q36 => ?_)
  refine g_at (pc := 38) rfl ?_
  refine g_putF (ci := 4) (k := 5) (q0 := 3) (ty0 := k_y4) (w' := (q36, .inl (gK X 1, 48, .inl (fun _ => 0))) :: (q28, .inl (gK X 1, 49, .inl (fun _ => 0))) :: (q20, .inl (gK X 1, 588, .inl (fun _ => 0))) :: (b, .inr (4, .int 16 :: .int 8 :: .int 0 :: .ref q20 :: .ref q28 :: .ref q36 :: .int 0 :: [])) :: w) hX hI rfl k_lay4 k_ok4 k_n4 (by decide) cw_145 rfl rfl rfl rfl rfl (Nat.le_of_ble_eq_true rfl) rfl diWi_38 ?_
  refine g_aload hX diWi_41 rfl 0 rfl ?_
  refine g_iconst (v := 1) hX diWi_42 (by decide) ?_
  refine g_put (ci := 4) (k := 6) (q0 := 3) (ty0 := k_y4) (w' := (q36, .inl (gK X 1, 48, .inl (fun _ => 0))) :: (q28, .inl (gK X 1, 49, .inl (fun _ => 0))) :: (q20, .inl (gK X 1, 588, .inl (fun _ => 0))) :: (b, .inr (4, .int 16 :: .int 8 :: .int 0 :: .ref q20 :: .ref q28 :: .ref q36 :: .int 1 :: [])) :: w) hX rfl k_lay4 k_ok4 k_n4 (by decide) cw_147 rfl rfl rfl rfl rfl (Nat.le_of_ble_eq_true rfl) rfl diWi_43 ?_
  exact g_ret hX hR ⟨q36, q28, q20, rfl⟩ diWi_46
theorem diPr_0 : decode prog_7_method_1_code 0 = .ok (.aload_n 0, 1) := by decide +kernel
theorem diPr_1 : decode prog_7_method_1_code 1 = .ok (.invokespecial 3, 3) := by decide +kernel
theorem diPr_4 : decode prog_7_method_1_code 4 = .ok (.aload_n 0, 1) := by decide +kernel
theorem diPr_5 : decode prog_7_method_1_code 5 = .ok (.getstatic 9, 3) := by decide +kernel
theorem diPr_8 : decode prog_7_method_1_code 8 = .ok (.invokevirtual 13, 3) := by decide +kernel
theorem diPr_11 : decode prog_7_method_1_code 11 = .ok (.checkcast 14, 3) := by decide +kernel
theorem diPr_14 : decode prog_7_method_1_code 14 = .ok (.putfield 18, 3) := by decide +kernel
theorem diPr_17 : decode prog_7_method_1_code 17 = .ok (.aload_n 0, 1) := by decide +kernel
theorem diPr_18 : decode prog_7_method_1_code 18 = .ok (.sipush 1176, 3) := by decide +kernel
theorem diPr_21 : decode prog_7_method_1_code 21 = .ok (.newarray .int, 2) := by decide +kernel
theorem diPr_23 : decode prog_7_method_1_code 23 = .ok (.putfield 23, 3) := by decide +kernel
theorem diPr_26 : decode prog_7_method_1_code 26 = .ok (.aload_n 0, 1) := by decide +kernel
theorem diPr_27 : decode prog_7_method_1_code 27 = .ok (.bipush 49, 2) := by decide +kernel
theorem diPr_29 : decode prog_7_method_1_code 29 = .ok (.newarray .int, 2) := by decide +kernel
theorem diPr_31 : decode prog_7_method_1_code 31 = .ok (.putfield 26, 3) := by decide +kernel
theorem diPr_34 : decode prog_7_method_1_code 34 = .ok (.aload_n 0, 1) := by decide +kernel
theorem diPr_35 : decode prog_7_method_1_code 35 = .ok (.iconst 1, 1) := by decide +kernel
theorem diPr_36 : decode prog_7_method_1_code 36 = .ok (.putfield 29, 3) := by decide +kernel
theorem diPr_39 : decode prog_7_method_1_code 39 = .ok (.return_, 1) := by decide +kernel
set_option maxRecDepth 100000 in
set_option maxHeartbeats 4000000 in
theorem giPr : gSem 1 3 1249 (⟨"KeyPath$Profiles", "<init>", "()V"⟩ : MethodName) prog_7_method_1_code 1 (fun b => [.ref b]) (fun _ b w => (b, .inr (5, .null :: .null :: .null :: .int 0 :: [])) :: w) (fun K b w u => ∃ q29 q21 q8 : Nat, u = (q29, .inl (K 1, 49, .inl (fun _ => 0))) :: (q21, .inl (K 1, 1176, .inl (fun _ => 0))) :: (q8, .inl (K 1, 24, .inl (fun j => c32 (k_s5 j)))) :: (b, .inr (5, .ref q8 :: .ref q21 :: .ref q29 :: .int 1 :: [])) :: w) := by
  refine gSem.of (lv := fun b => [(0, .ref b)]) (by decide) (fun _ => Nat.le_of_ble_eq_true rfl) (fun _ => rfl) (fun X b w hX hI hR => ?_)
  have hI := hI rfl
  refine g_aload hX diPr_0 rfl 0 rfl ?_
  refine g_obj hX cw_169 cw_24 cw_25 (by decide) (Nat.le_of_ble_eq_true rfl) diPr_1 ?_
  refine g_aload hX diPr_4 rfl 0 rfl ?_
  refine g_fw hX (List.mem_of_getElem? (i := 6) rfl) diPr_5 ?_
  refine g_clone (cells' := 1) (slots' := 24) hX cw_172 cw_173 cw_174 cw_175 cw_176 (by decide) (Nat.le_of_ble_eq_true rfl) rfl rfl (by decide) (by decide) diPr_8 (fun q8 => ?_)
  refine g_cast (q0 := 0) hX cw_178 rfl diPr_11 ?_
  refine g_putF (ci := 5) (k := 0) (q0 := 1) (ty0 := k_y5) (w' := (q8, .inl (gK X 1, 24, .inl (fun j => c32 (k_s5 j)))) :: (b, .inr (5, .ref q8 :: .null :: .null :: .int 0 :: [])) :: w) hX hI rfl k_lay5 k_ok5 k_n5 (by decide) cw_179 rfl rfl rfl rfl rfl (Nat.le_of_ble_eq_true rfl) rfl diPr_14 ?_
  refine g_aload hX diPr_17 rfl 0 rfl ?_
  refine g_sipush (v := 1176) hX diPr_18 (by decide) ?_
  refine g_at (pc := 21) rfl ?_
  refine g_newa (atype := .int) (ty := .int) (t := 1) (N := 1176) (cells' := 2) (slots' := 1200) hX rfl (fun _ => rfl) (fun _ _ h => h) rfl cw_60 (by decide) (by decide) (by decide) rfl rfl (by decide) (by decide) diPr_21 (fun q21 => ?_)
  refine g_putF (ci := 5) (k := 1) (q0 := 2) (ty0 := k_y5) (w' := (q21, .inl (gK X 1, 1176, .inl (fun _ => 0))) :: (q8, .inl (gK X 1, 24, .inl (fun j => c32 (k_s5 j)))) :: (b, .inr (5, .ref q8 :: .ref q21 :: .null :: .int 0 :: [])) :: w) hX hI rfl k_lay5 k_ok5 k_n5 (by decide) cw_181 rfl rfl rfl rfl rfl (Nat.le_of_ble_eq_true rfl) rfl diPr_23 ?_
  refine g_aload hX diPr_26 rfl 0 rfl ?_
  refine g_bipush (v := 49) hX diPr_27 (by decide) ?_
  refine g_newa (atype := .int) (ty := .int) (t := 1) (N := 49) (cells' := 3) (slots' := 1249) hX rfl (fun _ => rfl) (fun _ _ h => h) rfl cw_60 (by decide) (by decide) (by decide) rfl rfl (by decide) (by decide) diPr_29 (fun q29 => ?_)
  refine g_putF (ci := 5) (k := 2) (q0 := 3) (ty0 := k_y5) (w' := (q29, .inl (gK X 1, 49, .inl (fun _ => 0))) :: (q21, .inl (gK X 1, 1176, .inl (fun _ => 0))) :: (q8, .inl (gK X 1, 24, .inl (fun j => c32 (k_s5 j)))) :: (b, .inr (5, .ref q8 :: .ref q21 :: .ref q29 :: .int 0 :: [])) :: w) hX hI rfl k_lay5 k_ok5 k_n5 (by decide) cw_184 rfl rfl rfl rfl rfl (Nat.le_of_ble_eq_true rfl) rfl diPr_31 ?_
  refine g_aload hX diPr_34 rfl 0 rfl ?_
  refine g_iconst (v := 1) hX diPr_35 (by decide) ?_
  refine g_put (ci := 5) (k := 3) (q0 := 3) (ty0 := k_y5) (w' := (q29, .inl (gK X 1, 49, .inl (fun _ => 0))) :: (q21, .inl (gK X 1, 1176, .inl (fun _ => 0))) :: (q8, .inl (gK X 1, 24, .inl (fun j => c32 (k_s5 j)))) :: (b, .inr (5, .ref q8 :: .ref q21 :: .ref q29 :: .int 1 :: [])) :: w) hX rfl k_lay5 k_ok5 k_n5 (by decide) cw_186 rfl rfl rfl rfl rfl (Nat.le_of_ble_eq_true rfl) rfl diPr_36 ?_
  exact g_ret hX hR ⟨q29, q21, q8, rfl⟩ diPr_39
theorem diNe_0 : decode prog_4_method_1_code 0 = .ok (.aload_n 0, 1) := by decide +kernel
theorem diNe_1 : decode prog_4_method_1_code 1 = .ok (.invokespecial 3, 3) := by decide +kernel
theorem diNe_4 : decode prog_4_method_1_code 4 = .ok (.aload_n 0, 1) := by decide +kernel
theorem diNe_5 : decode prog_4_method_1_code 5 = .ok (.bipush 40, 2) := by decide +kernel
theorem diNe_7 : decode prog_4_method_1_code 7 = .ok (.putfield 9, 3) := by decide +kernel
theorem diNe_10 : decode prog_4_method_1_code 10 = .ok (.aload_n 0, 1) := by decide +kernel
theorem diNe_11 : decode prog_4_method_1_code 11 = .ok (.bipush 30, 2) := by decide +kernel
theorem diNe_13 : decode prog_4_method_1_code 13 = .ok (.putfield 15, 3) := by decide +kernel
theorem diNe_16 : decode prog_4_method_1_code 16 = .ok (.aload_n 0, 1) := by decide +kernel
theorem diNe_17 : decode prog_4_method_1_code 17 = .ok (.bipush 60, 2) := by decide +kernel
theorem diNe_19 : decode prog_4_method_1_code 19 = .ok (.putfield 18, 3) := by decide +kernel
theorem diNe_22 : decode prog_4_method_1_code 22 = .ok (.aload_n 0, 1) := by decide +kernel
theorem diNe_23 : decode prog_4_method_1_code 23 = .ok (.iconst 1, 1) := by decide +kernel
theorem diNe_24 : decode prog_4_method_1_code 24 = .ok (.putfield 21, 3) := by decide +kernel
theorem diNe_27 : decode prog_4_method_1_code 27 = .ok (.aload_n 0, 1) := by decide +kernel
theorem diNe_28 : decode prog_4_method_1_code 28 = .ok (.iconst 1, 1) := by decide +kernel
theorem diNe_29 : decode prog_4_method_1_code 29 = .ok (.putfield 24, 3) := by decide +kernel
theorem diNe_32 : decode prog_4_method_1_code 32 = .ok (.aload_n 0, 1) := by decide +kernel
theorem diNe_33 : decode prog_4_method_1_code 33 = .ok (.sipush 576, 3) := by decide +kernel
theorem diNe_36 : decode prog_4_method_1_code 36 = .ok (.newarray .int, 2) := by decide +kernel
theorem diNe_38 : decode prog_4_method_1_code 38 = .ok (.putfield 28, 3) := by decide +kernel
theorem diNe_41 : decode prog_4_method_1_code 41 = .ok (.aload_n 0, 1) := by decide +kernel
theorem diNe_42 : decode prog_4_method_1_code 42 = .ok (.sipush 576, 3) := by decide +kernel
theorem diNe_45 : decode prog_4_method_1_code 45 = .ok (.newarray .int, 2) := by decide +kernel
theorem diNe_47 : decode prog_4_method_1_code 47 = .ok (.putfield 32, 3) := by decide +kernel
theorem diNe_50 : decode prog_4_method_1_code 50 = .ok (.aload_n 0, 1) := by decide +kernel
theorem diNe_51 : decode prog_4_method_1_code 51 = .ok (.bipush 24, 2) := by decide +kernel
theorem diNe_53 : decode prog_4_method_1_code 53 = .ok (.newarray .int, 2) := by decide +kernel
theorem diNe_55 : decode prog_4_method_1_code 55 = .ok (.putfield 35, 3) := by decide +kernel
theorem diNe_58 : decode prog_4_method_1_code 58 = .ok (.return_, 1) := by decide +kernel
set_option maxRecDepth 100000 in
set_option maxHeartbeats 4000000 in
theorem giNe : gSem 1 3 1176 (⟨"KeyPath$Net", "<init>", "()V"⟩ : MethodName) prog_4_method_1_code 1 (fun b => [.ref b]) (fun _ b w => (b, .inr (6, .int 0 :: .int 0 :: .int 0 :: .int 0 :: .int 0 :: .null :: .null :: .null :: [])) :: w) (fun K b w u => ∃ q53 q45 q36 : Nat, u = (q53, .inl (K 1, 24, .inl (fun _ => 0))) :: (q45, .inl (K 1, 576, .inl (fun _ => 0))) :: (q36, .inl (K 1, 576, .inl (fun _ => 0))) :: (b, .inr (6, .int 40 :: .int 30 :: .int 60 :: .int 1 :: .int 1 :: .ref q36 :: .ref q45 :: .ref q53 :: [])) :: w) := by
  refine gSem.of (lv := fun b => [(0, .ref b)]) (by decide) (fun _ => Nat.le_of_ble_eq_true rfl) (fun _ => rfl) (fun X b w hX hI hR => ?_)
  have hI := hI rfl
  refine g_aload hX diNe_0 rfl 0 rfl ?_
  refine g_obj hX cw_202 cw_24 cw_25 (by decide) (Nat.le_of_ble_eq_true rfl) diNe_1 ?_
  refine g_aload hX diNe_4 rfl 0 rfl ?_
  refine g_bipush (v := 40) hX diNe_5 (by decide) ?_
  refine g_put (ci := 6) (k := 0) (q0 := 0) (ty0 := k_y6) (w' := (b, .inr (6, .int 40 :: .int 0 :: .int 0 :: .int 0 :: .int 0 :: .null :: .null :: .null :: [])) :: w) hX rfl k_lay6 k_ok6 k_n6 (by decide) cw_203 rfl rfl rfl rfl rfl (Nat.le_of_ble_eq_true rfl) rfl diNe_7 ?_
  refine g_aload hX diNe_10 rfl 0 rfl ?_
  refine g_bipush (v := 30) hX diNe_11 (by decide) ?_
  refine g_put (ci := 6) (k := 1) (q0 := 0) (ty0 := k_y6) (w' := (b, .inr (6, .int 40 :: .int 30 :: .int 0 :: .int 0 :: .int 0 :: .null :: .null :: .null :: [])) :: w) hX rfl k_lay6 k_ok6 k_n6 (by decide) cw_205 rfl rfl rfl rfl rfl (Nat.le_of_ble_eq_true rfl) rfl diNe_13 ?_
  refine g_aload hX diNe_16 rfl 0 rfl ?_
  refine g_at (pc := 17) rfl ?_
  refine g_bipush (v := 60) hX diNe_17 (by decide) ?_
  refine g_put (ci := 6) (k := 2) (q0 := 0) (ty0 := k_y6) (w' := (b, .inr (6, .int 40 :: .int 30 :: .int 60 :: .int 0 :: .int 0 :: .null :: .null :: .null :: [])) :: w) hX rfl k_lay6 k_ok6 k_n6 (by decide) cw_207 rfl rfl rfl rfl rfl (Nat.le_of_ble_eq_true rfl) rfl diNe_19 ?_
  refine g_aload hX diNe_22 rfl 0 rfl ?_
  refine g_iconst (v := 1) hX diNe_23 (by decide) ?_
  refine g_put (ci := 6) (k := 3) (q0 := 0) (ty0 := k_y6) (w' := (b, .inr (6, .int 40 :: .int 30 :: .int 60 :: .int 1 :: .int 0 :: .null :: .null :: .null :: [])) :: w) hX rfl k_lay6 k_ok6 k_n6 (by decide) cw_209 rfl rfl rfl rfl rfl (Nat.le_of_ble_eq_true rfl) rfl diNe_24 ?_
  refine g_aload hX diNe_27 rfl 0 rfl ?_
  refine g_iconst (v := 1) hX diNe_28 (by decide) ?_
  refine g_put (ci := 6) (k := 4) (q0 := 0) (ty0 := k_y6) (w' := (b, .inr (6, .int 40 :: .int 30 :: .int 60 :: .int 1 :: .int 1 :: .null :: .null :: .null :: [])) :: w) hX rfl k_lay6 k_ok6 k_n6 (by decide) cw_212 rfl rfl rfl rfl rfl (Nat.le_of_ble_eq_true rfl) rfl diNe_29 ?_
  refine g_aload hX diNe_32 rfl 0 rfl ?_
  refine g_sipush (v := 576) hX diNe_33 (by decide) ?_
  refine g_at (pc := 36) rfl ?_
  refine g_newa (atype := .int) (ty := .int) (t := 1) (N := 576) (cells' := 1) (slots' := 576) hX rfl (fun _ => rfl) (fun _ _ h => h) rfl cw_60 (by decide) (by decide) (by decide) rfl rfl (by decide) (by decide) diNe_36 (fun q36 => ?_)
  refine g_putF (ci := 6) (k := 5) (q0 := 1) (ty0 := k_y6) (w' := (q36, .inl (gK X 1, 576, .inl (fun _ => 0))) :: (b, .inr (6, .int 40 :: .int 30 :: .int 60 :: .int 1 :: .int 1 :: .ref q36 :: .null :: .null :: [])) :: w) hX hI rfl k_lay6 k_ok6 k_n6 (by decide) cw_214 rfl rfl rfl rfl rfl (Nat.le_of_ble_eq_true rfl) rfl diNe_38 ?_
  refine g_aload hX diNe_41 rfl 0 rfl ?_
  refine g_sipush (v := 576) hX diNe_42 (by decide) ?_
  refine g_newa (atype := .int) (ty := .int) (t := 1) (N := 576) (cells' := 2) (slots' := 1152) hX rfl (fun _ => rfl) (fun _ _ h => h) rfl cw_60 (by decide) (by decide) (by decide) rfl rfl (by decide) (by decide) diNe_45 (fun q45 => ?_)
  refine g_putF (ci := 6) (k := 6) (q0 := 2) (ty0 := k_y6) (w' := (q45, .inl (gK X 1, 576, .inl (fun _ => 0))) :: (q36, .inl (gK X 1, 576, .inl (fun _ => 0))) :: (b, .inr (6, .int 40 :: .int 30 :: .int 60 :: .int 1 :: .int 1 :: .ref q36 :: .ref q45 :: .null :: [])) :: w) hX hI rfl k_lay6 k_ok6 k_n6 (by decide) cw_217 rfl rfl rfl rfl rfl (Nat.le_of_ble_eq_true rfl) rfl diNe_47 ?_
  refine g_aload hX diNe_50 rfl 0 rfl ?_
  refine g_bipush (v := 24) hX diNe_51 (by decide) ?_
  refine g_newa (atype := .int) (ty := .int) (t := 1) (N := 24) (cells' := 3) (slots' := 1176) hX rfl (fun _ => rfl) (fun _ _ h => h) rfl cw_60 (by decide) (by decide) (by decide) rfl rfl (by decide) (by decide) diNe_53 (fun q53 => ?_)
  refine g_putF (ci := 6) (k := 7) (q0 := 3) (ty0 := k_y6) (w' := (q53, .inl (gK X 1, 24, .inl (fun _ => 0))) :: (q45, .inl (gK X 1, 576, .inl (fun _ => 0))) :: (q36, .inl (gK X 1, 576, .inl (fun _ => 0))) :: (b, .inr (6, .int 40 :: .int 30 :: .int 60 :: .int 1 :: .int 1 :: .ref q36 :: .ref q45 :: .ref q53 :: [])) :: w) hX hI rfl k_lay6 k_ok6 k_n6 (by decide) cw_218 rfl rfl rfl rfl rfl (Nat.le_of_ble_eq_true rfl) rfl diNe_55 ?_
  exact g_ret hX hR ⟨q53, q45, q36, rfl⟩ diNe_58
theorem diFi_0 : decode prog_6_method_1_code 0 = .ok (.aload_n 0, 1) := by decide +kernel
theorem diFi_1 : decode prog_6_method_1_code 1 = .ok (.invokespecial 3, 3) := by decide +kernel
theorem diFi_4 : decode prog_6_method_1_code 4 = .ok (.aload_n 0, 1) := by decide +kernel
theorem diFi_5 : decode prog_6_method_1_code 5 = .ok (.bipush 48, 2) := by decide +kernel
theorem diFi_7 : decode prog_6_method_1_code 7 = .ok (.newarray .int, 2) := by decide +kernel
theorem diFi_9 : decode prog_6_method_1_code 9 = .ok (.putfield 9, 3) := by decide +kernel
theorem diFi_12 : decode prog_6_method_1_code 12 = .ok (.aload_n 0, 1) := by decide +kernel
theorem diFi_13 : decode prog_6_method_1_code 13 = .ok (.sipush 1152, 3) := by decide +kernel
theorem diFi_16 : decode prog_6_method_1_code 16 = .ok (.newarray .int, 2) := by decide +kernel
theorem diFi_18 : decode prog_6_method_1_code 18 = .ok (.putfield 15, 3) := by decide +kernel
theorem diFi_21 : decode prog_6_method_1_code 21 = .ok (.aload_n 0, 1) := by decide +kernel
theorem diFi_22 : decode prog_6_method_1_code 22 = .ok (.bipush 48, 2) := by decide +kernel
theorem diFi_24 : decode prog_6_method_1_code 24 = .ok (.newarray .boolean, 2) := by decide +kernel
theorem diFi_26 : decode prog_6_method_1_code 26 = .ok (.putfield 18, 3) := by decide +kernel
theorem diFi_29 : decode prog_6_method_1_code 29 = .ok (.aload_n 0, 1) := by decide +kernel
theorem diFi_30 : decode prog_6_method_1_code 30 = .ok (.sipush 576, 3) := by decide +kernel
theorem diFi_33 : decode prog_6_method_1_code 33 = .ok (.newarray .int, 2) := by decide +kernel
theorem diFi_35 : decode prog_6_method_1_code 35 = .ok (.putfield 22, 3) := by decide +kernel
theorem diFi_38 : decode prog_6_method_1_code 38 = .ok (.aload_n 0, 1) := by decide +kernel
theorem diFi_39 : decode prog_6_method_1_code 39 = .ok (.sipush 1152, 3) := by decide +kernel
theorem diFi_42 : decode prog_6_method_1_code 42 = .ok (.newarray .int, 2) := by decide +kernel
theorem diFi_44 : decode prog_6_method_1_code 44 = .ok (.putfield 25, 3) := by decide +kernel
theorem diFi_47 : decode prog_6_method_1_code 47 = .ok (.aload_n 0, 1) := by decide +kernel
theorem diFi_48 : decode prog_6_method_1_code 48 = .ok (.sipush 1152, 3) := by decide +kernel
theorem diFi_51 : decode prog_6_method_1_code 51 = .ok (.newarray .int, 2) := by decide +kernel
theorem diFi_53 : decode prog_6_method_1_code 53 = .ok (.putfield 28, 3) := by decide +kernel
theorem diFi_56 : decode prog_6_method_1_code 56 = .ok (.aload_n 0, 1) := by decide +kernel
theorem diFi_57 : decode prog_6_method_1_code 57 = .ok (.bipush 48, 2) := by decide +kernel
theorem diFi_59 : decode prog_6_method_1_code 59 = .ok (.newarray .int, 2) := by decide +kernel
theorem diFi_61 : decode prog_6_method_1_code 61 = .ok (.putfield 31, 3) := by decide +kernel
theorem diFi_64 : decode prog_6_method_1_code 64 = .ok (.aload_n 0, 1) := by decide +kernel
theorem diFi_65 : decode prog_6_method_1_code 65 = .ok (.bipush 48, 2) := by decide +kernel
theorem diFi_67 : decode prog_6_method_1_code 67 = .ok (.newarray .int, 2) := by decide +kernel
theorem diFi_69 : decode prog_6_method_1_code 69 = .ok (.putfield 34, 3) := by decide +kernel
theorem diFi_72 : decode prog_6_method_1_code 72 = .ok (.aload_n 0, 1) := by decide +kernel
theorem diFi_73 : decode prog_6_method_1_code 73 = .ok (.iconst 1, 1) := by decide +kernel
theorem diFi_74 : decode prog_6_method_1_code 74 = .ok (.putfield 37, 3) := by decide +kernel
theorem diFi_77 : decode prog_6_method_1_code 77 = .ok (.aload_n 0, 1) := by decide +kernel
theorem diFi_78 : decode prog_6_method_1_code 78 = .ok (.getfield 9, 3) := by decide +kernel
theorem diFi_81 : decode prog_6_method_1_code 81 = .ok (.iconst (-1), 1) := by decide +kernel
theorem diFi_82 : decode prog_6_method_1_code 82 = .ok (.invokestatic 41, 3) := by decide +kernel
theorem diFi_85 : decode prog_6_method_1_code 85 = .ok (.return_, 1) := by decide +kernel
set_option maxRecDepth 100000 in
set_option maxHeartbeats 4000000 in
theorem giFi : gSem 1 8 4224 (⟨"KeyPath$PathFinder", "<init>", "()V"⟩ : MethodName) prog_6_method_1_code 1 (fun b => [.ref b]) (fun _ b w => (b, .inr (7, .null :: .int 0 :: .null :: .null :: .null :: .null :: .null :: .int 0 :: .int 0 :: .int 0 :: .null :: .null :: .int 0 :: .int 0 :: .int 0 :: .int 0 :: [])) :: w) (fun K b w u => ∃ q7 q67 q59 q51 q42 q33 q24 q16 : Nat, u = (q7, .inl (K 1, 48, .inl (fun _ => -1))) :: (q67, .inl (K 1, 48, .inl (fun _ => 0))) :: (q59, .inl (K 1, 48, .inl (fun _ => 0))) :: (q51, .inl (K 1, 1152, .inl (fun _ => 0))) :: (q42, .inl (K 1, 1152, .inl (fun _ => 0))) :: (q33, .inl (K 1, 576, .inl (fun _ => 0))) :: (q24, .inl (K 3, 48, .inl (fun _ => 0))) :: (q16, .inl (K 1, 1152, .inl (fun _ => 0))) :: (b, .inr (7, .ref q7 :: .int 0 :: .ref q16 :: .ref q24 :: .ref q33 :: .ref q42 :: .ref q51 :: .int 0 :: .int 0 :: .int 0 :: .ref q59 :: .ref q67 :: .int 0 :: .int 1 :: .int 0 :: .int 0 :: [])) :: w) := by
  refine gSem.of (lv := fun b => [(0, .ref b)]) (by decide) (fun _ => Nat.le_of_ble_eq_true rfl) (fun _ => rfl) (fun X b w hX hI hR => ?_)
  have hI := hI rfl
  refine g_aload hX diFi_0 rfl 0 rfl ?_
  refine g_obj hX cw_241 cw_24 cw_25 (by decide) (Nat.le_of_ble_eq_true rfl) diFi_1 ?_
  refine g_aload hX diFi_4 rfl 0 rfl ?_
  refine g_bipush (v := 48) hX diFi_5 (by decide) ?_
  refine g_newa (atype := .int) (ty := .int) (t := 1) (N := 48) (cells' := 1) (slots' := 48) hX rfl (fun _ => rfl) (fun _ _ h => h) rfl cw_60 (by decide) (by decide) (by decide) rfl rfl (by decide) (by decide) diFi_7 (fun q7 => ?_)
  refine g_putF (ci := 7) (k := 0) (q0 := 1) (ty0 := k_y7) (w' := (q7, .inl (gK X 1, 48, .inl (fun _ => 0))) :: (b, .inr (7, .ref q7 :: .int 0 :: .null :: .null :: .null :: .null :: .null :: .int 0 :: .int 0 :: .int 0 :: .null :: .null :: .int 0 :: .int 0 :: .int 0 :: .int 0 :: [])) :: w) hX hI rfl k_lay7 k_ok7 k_n7 (by decide) cw_245 rfl rfl rfl rfl rfl (Nat.le_of_ble_eq_true rfl) rfl diFi_9 ?_
  refine g_aload hX diFi_12 rfl 0 rfl ?_
  refine g_sipush (v := 1152) hX diFi_13 (by decide) ?_
  refine g_newa (atype := .int) (ty := .int) (t := 1) (N := 1152) (cells' := 2) (slots' := 1200) hX rfl (fun _ => rfl) (fun _ _ h => h) rfl cw_60 (by decide) (by decide) (by decide) rfl rfl (by decide) (by decide) diFi_16 (fun q16 => ?_)
  refine g_at (pc := 18) rfl ?_
  refine g_putF (ci := 7) (k := 2) (q0 := 2) (ty0 := k_y7) (w' := (q16, .inl (gK X 1, 1152, .inl (fun _ => 0))) :: (q7, .inl (gK X 1, 48, .inl (fun _ => 0))) :: (b, .inr (7, .ref q7 :: .int 0 :: .ref q16 :: .null :: .null :: .null :: .null :: .int 0 :: .int 0 :: .int 0 :: .null :: .null :: .int 0 :: .int 0 :: .int 0 :: .int 0 :: [])) :: w) hX hI rfl k_lay7 k_ok7 k_n7 (by decide) cw_250 rfl rfl rfl rfl rfl (Nat.le_of_ble_eq_true rfl) rfl diFi_18 ?_
  refine g_aload hX diFi_21 rfl 0 rfl ?_
  refine g_bipush (v := 48) hX diFi_22 (by decide) ?_
  refine g_newa (atype := .boolean) (ty := .boolean) (t := 3) (N := 48) (cells' := 3) (slots' := 1248) hX rfl (fun _ => rfl) (fun _ _ h => h) rfl cw_310 (by decide) (by decide) (by decide) rfl rfl (by decide) (by decide) diFi_24 (fun q24 => ?_)
  refine g_putF (ci := 7) (k := 3) (q0 := 3) (ty0 := k_y7) (w' := (q24, .inl (gK X 3, 48, .inl (fun _ => 0))) :: (q16, .inl (gK X 1, 1152, .inl (fun _ => 0))) :: (q7, .inl (gK X 1, 48, .inl (fun _ => 0))) :: (b, .inr (7, .ref q7 :: .int 0 :: .ref q16 :: .ref q24 :: .null :: .null :: .null :: .int 0 :: .int 0 :: .int 0 :: .null :: .null :: .int 0 :: .int 0 :: .int 0 :: .int 0 :: [])) :: w) hX hI rfl k_lay7 k_ok7 k_n7 (by decide) cw_252 rfl rfl rfl rfl rfl (Nat.le_of_ble_eq_true rfl) rfl diFi_26 ?_
  refine g_aload hX diFi_29 rfl 0 rfl ?_
  refine g_sipush (v := 576) hX diFi_30 (by decide) ?_
  refine g_newa (atype := .int) (ty := .int) (t := 1) (N := 576) (cells' := 4) (slots' := 1824) hX rfl (fun _ => rfl) (fun _ _ h => h) rfl cw_60 (by decide) (by decide) (by decide) rfl rfl (by decide) (by decide) diFi_33 (fun q33 => ?_)
  refine g_putF (ci := 7) (k := 4) (q0 := 4) (ty0 := k_y7) (w' := (q33, .inl (gK X 1, 576, .inl (fun _ => 0))) :: (q24, .inl (gK X 3, 48, .inl (fun _ => 0))) :: (q16, .inl (gK X 1, 1152, .inl (fun _ => 0))) :: (q7, .inl (gK X 1, 48, .inl (fun _ => 0))) :: (b, .inr (7, .ref q7 :: .int 0 :: .ref q16 :: .ref q24 :: .ref q33 :: .null :: .null :: .int 0 :: .int 0 :: .int 0 :: .null :: .null :: .int 0 :: .int 0 :: .int 0 :: .int 0 :: [])) :: w) hX hI rfl k_lay7 k_ok7 k_n7 (by decide) cw_254 rfl rfl rfl rfl rfl (Nat.le_of_ble_eq_true rfl) rfl diFi_35 ?_
  refine g_aload hX diFi_38 rfl 0 rfl ?_
  refine g_at (pc := 39) rfl ?_
  refine g_sipush (v := 1152) hX diFi_39 (by decide) ?_
  refine g_newa (atype := .int) (ty := .int) (t := 1) (N := 1152) (cells' := 5) (slots' := 2976) hX rfl (fun _ => rfl) (fun _ _ h => h) rfl cw_60 (by decide) (by decide) (by decide) rfl rfl (by decide) (by decide) diFi_42 (fun q42 => ?_)
  refine g_putF (ci := 7) (k := 5) (q0 := 5) (ty0 := k_y7) (w' := (q42, .inl (gK X 1, 1152, .inl (fun _ => 0))) :: (q33, .inl (gK X 1, 576, .inl (fun _ => 0))) :: (q24, .inl (gK X 3, 48, .inl (fun _ => 0))) :: (q16, .inl (gK X 1, 1152, .inl (fun _ => 0))) :: (q7, .inl (gK X 1, 48, .inl (fun _ => 0))) :: (b, .inr (7, .ref q7 :: .int 0 :: .ref q16 :: .ref q24 :: .ref q33 :: .ref q42 :: .null :: .int 0 :: .int 0 :: .int 0 :: .null :: .null :: .int 0 :: .int 0 :: .int 0 :: .int 0 :: [])) :: w) hX hI rfl k_lay7 k_ok7 k_n7 (by decide) cw_256 rfl rfl rfl rfl rfl (Nat.le_of_ble_eq_true rfl) rfl diFi_44 ?_
  refine g_aload hX diFi_47 rfl 0 rfl ?_
  refine g_sipush (v := 1152) hX diFi_48 (by decide) ?_
  refine g_newa (atype := .int) (ty := .int) (t := 1) (N := 1152) (cells' := 6) (slots' := 4128) hX rfl (fun _ => rfl) (fun _ _ h => h) rfl cw_60 (by decide) (by decide) (by decide) rfl rfl (by decide) (by decide) diFi_51 (fun q51 => ?_)
  refine g_putF (ci := 7) (k := 6) (q0 := 6) (ty0 := k_y7) (w' := (q51, .inl (gK X 1, 1152, .inl (fun _ => 0))) :: (q42, .inl (gK X 1, 1152, .inl (fun _ => 0))) :: (q33, .inl (gK X 1, 576, .inl (fun _ => 0))) :: (q24, .inl (gK X 3, 48, .inl (fun _ => 0))) :: (q16, .inl (gK X 1, 1152, .inl (fun _ => 0))) :: (q7, .inl (gK X 1, 48, .inl (fun _ => 0))) :: (b, .inr (7, .ref q7 :: .int 0 :: .ref q16 :: .ref q24 :: .ref q33 :: .ref q42 :: .ref q51 :: .int 0 :: .int 0 :: .int 0 :: .null :: .null :: .int 0 :: .int 0 :: .int 0 :: .int 0 :: [])) :: w) hX hI rfl k_lay7 k_ok7 k_n7 (by decide) cw_258 rfl rfl rfl rfl rfl (Nat.le_of_ble_eq_true rfl) rfl diFi_53 ?_
  refine g_aload hX diFi_56 rfl 0 rfl ?_
  refine g_bipush (v := 48) hX diFi_57 (by decide) ?_
  refine g_newa (atype := .int) (ty := .int) (t := 1) (N := 48) (cells' := 7) (slots' := 4176) hX rfl (fun _ => rfl) (fun _ _ h => h) rfl cw_60 (by decide) (by decide) (by decide) rfl rfl (by decide) (by decide) diFi_59 (fun q59 => ?_)
  refine g_at (pc := 61) rfl ?_
  refine g_putF (ci := 7) (k := 10) (q0 := 7) (ty0 := k_y7) (w' := (q59, .inl (gK X 1, 48, .inl (fun _ => 0))) :: (q51, .inl (gK X 1, 1152, .inl (fun _ => 0))) :: (q42, .inl (gK X 1, 1152, .inl (fun _ => 0))) :: (q33, .inl (gK X 1, 576, .inl (fun _ => 0))) :: (q24, .inl (gK X 3, 48, .inl (fun _ => 0))) :: (q16, .inl (gK X 1, 1152, .inl (fun _ => 0))) :: (q7, .inl (gK X 1, 48, .inl (fun _ => 0))) :: (b, .inr (7, .ref q7 :: .int 0 :: .ref q16 :: .ref q24 :: .ref q33 :: .ref q42 :: .ref q51 :: .int 0 :: .int 0 :: .int 0 :: .ref q59 :: .null :: .int 0 :: .int 0 :: .int 0 :: .int 0 :: [])) :: w) hX hI rfl k_lay7 k_ok7 k_n7 (by decide) cw_265 rfl rfl rfl rfl rfl (Nat.le_of_ble_eq_true rfl) rfl diFi_61 ?_
  refine g_aload hX diFi_64 rfl 0 rfl ?_
  refine g_bipush (v := 48) hX diFi_65 (by decide) ?_
  refine g_newa (atype := .int) (ty := .int) (t := 1) (N := 48) (cells' := 8) (slots' := 4224) hX rfl (fun _ => rfl) (fun _ _ h => h) rfl cw_60 (by decide) (by decide) (by decide) rfl rfl (by decide) (by decide) diFi_67 (fun q67 => ?_)
  refine g_putF (ci := 7) (k := 11) (q0 := 8) (ty0 := k_y7) (w' := (q67, .inl (gK X 1, 48, .inl (fun _ => 0))) :: (q59, .inl (gK X 1, 48, .inl (fun _ => 0))) :: (q51, .inl (gK X 1, 1152, .inl (fun _ => 0))) :: (q42, .inl (gK X 1, 1152, .inl (fun _ => 0))) :: (q33, .inl (gK X 1, 576, .inl (fun _ => 0))) :: (q24, .inl (gK X 3, 48, .inl (fun _ => 0))) :: (q16, .inl (gK X 1, 1152, .inl (fun _ => 0))) :: (q7, .inl (gK X 1, 48, .inl (fun _ => 0))) :: (b, .inr (7, .ref q7 :: .int 0 :: .ref q16 :: .ref q24 :: .ref q33 :: .ref q42 :: .ref q51 :: .int 0 :: .int 0 :: .int 0 :: .ref q59 :: .ref q67 :: .int 0 :: .int 0 :: .int 0 :: .int 0 :: [])) :: w) hX hI rfl k_lay7 k_ok7 k_n7 (by decide) cw_268 rfl rfl rfl rfl rfl (Nat.le_of_ble_eq_true rfl) rfl diFi_69 ?_
  refine g_aload hX diFi_72 rfl 0 rfl ?_
  refine g_iconst (v := 1) hX diFi_73 (by decide) ?_
  refine g_put (ci := 7) (k := 13) (q0 := 8) (ty0 := k_y7) (w' := (q67, .inl (gK X 1, 48, .inl (fun _ => 0))) :: (q59, .inl (gK X 1, 48, .inl (fun _ => 0))) :: (q51, .inl (gK X 1, 1152, .inl (fun _ => 0))) :: (q42, .inl (gK X 1, 1152, .inl (fun _ => 0))) :: (q33, .inl (gK X 1, 576, .inl (fun _ => 0))) :: (q24, .inl (gK X 3, 48, .inl (fun _ => 0))) :: (q16, .inl (gK X 1, 1152, .inl (fun _ => 0))) :: (q7, .inl (gK X 1, 48, .inl (fun _ => 0))) :: (b, .inr (7, .ref q7 :: .int 0 :: .ref q16 :: .ref q24 :: .ref q33 :: .ref q42 :: .ref q51 :: .int 0 :: .int 0 :: .int 0 :: .ref q59 :: .ref q67 :: .int 0 :: .int 1 :: .int 0 :: .int 0 :: [])) :: w) hX rfl k_lay7 k_ok7 k_n7 (by decide) cw_272 rfl rfl rfl rfl rfl (Nat.le_of_ble_eq_true rfl) rfl diFi_74 ?_
  refine g_aload hX diFi_77 rfl 0 rfl ?_
  refine g_get (ci := 7) (k := 0) (q0 := 8) hX rfl k_lay7 (by decide) cw_245 rfl rfl rfl diFi_78 ?_
  refine g_at (pc := 81) rfl ?_
  refine g_iconst (v := (-1)) hX diFi_81 (by decide) ?_
  refine g_perm (List.perm_middle (l₁ := ((q67, .inl (gK X 1, 48, .inl (fun _ => 0))) :: (q59, .inl (gK X 1, 48, .inl (fun _ => 0))) :: (q51, .inl (gK X 1, 1152, .inl (fun _ => 0))) :: (q42, .inl (gK X 1, 1152, .inl (fun _ => 0))) :: (q33, .inl (gK X 1, 576, .inl (fun _ => 0))) :: (q24, .inl (gK X 3, 48, .inl (fun _ => 0))) :: (q16, .inl (gK X 1, 1152, .inl (fun _ => 0))) ::  [] : va_W)) (a := ((q7, .inl (gK X 1, 48, .inl (fun _ => 0))) : Nat × va_E)) (l₂ := (b, .inr (7, .ref q7 :: .int 0 :: .ref q16 :: .ref q24 :: .ref q33 :: .ref q42 :: .ref q51 :: .int 0 :: .int 0 :: .int 0 :: .ref q59 :: .ref q67 :: .int 0 :: .int 1 :: .int 0 :: .int 0 :: [])) :: w)) ?_
  refine g_callS (np := 2) (cells' := 8) (slots' := 4224) hX g_fill rfl ⟨⟨by decide, by decide⟩, cw_244, cw_9, by decide +kernel⟩ rfl cw_242 cw_243 (Nat.le_of_ble_eq_true rfl) rfl rfl (by decide) (by decide) rfl diFi_82 (fun u hu => ?_)
  subst hu
  exact g_ret hX hR ⟨q7, q67, q59, q51, q42, q33, q24, q16, rfl⟩ diFi_85
theorem diDe_0 : decode prog_2_method_1_code 0 = .ok (.aload_n 0, 1) := by decide +kernel
theorem diDe_1 : decode prog_2_method_1_code 1 = .ok (.invokespecial 3, 3) := by decide +kernel
theorem diDe_4 : decode prog_2_method_1_code 4 = .ok (.aload_n 0, 1) := by decide +kernel
theorem diDe_5 : decode prog_2_method_1_code 5 = .ok (.sipush 1152, 3) := by decide +kernel
theorem diDe_8 : decode prog_2_method_1_code 8 = .ok (.newarray .int, 2) := by decide +kernel
theorem diDe_10 : decode prog_2_method_1_code 10 = .ok (.putfield 9, 3) := by decide +kernel
theorem diDe_13 : decode prog_2_method_1_code 13 = .ok (.aload_n 0, 1) := by decide +kernel
theorem diDe_14 : decode prog_2_method_1_code 14 = .ok (.sipush 1152, 3) := by decide +kernel
theorem diDe_17 : decode prog_2_method_1_code 17 = .ok (.newarray .int, 2) := by decide +kernel
theorem diDe_19 : decode prog_2_method_1_code 19 = .ok (.putfield 15, 3) := by decide +kernel
theorem diDe_22 : decode prog_2_method_1_code 22 = .ok (.aload_n 0, 1) := by decide +kernel
theorem diDe_23 : decode prog_2_method_1_code 23 = .ok (.bipush 48, 2) := by decide +kernel
theorem diDe_25 : decode prog_2_method_1_code 25 = .ok (.newarray .int, 2) := by decide +kernel
theorem diDe_27 : decode prog_2_method_1_code 27 = .ok (.putfield 18, 3) := by decide +kernel
theorem diDe_30 : decode prog_2_method_1_code 30 = .ok (.aload_n 0, 1) := by decide +kernel
theorem diDe_31 : decode prog_2_method_1_code 31 = .ok (.sipush 1152, 3) := by decide +kernel
theorem diDe_34 : decode prog_2_method_1_code 34 = .ok (.newarray .int, 2) := by decide +kernel
theorem diDe_36 : decode prog_2_method_1_code 36 = .ok (.putfield 21, 3) := by decide +kernel
theorem diDe_39 : decode prog_2_method_1_code 39 = .ok (.return_, 1) := by decide +kernel
set_option maxRecDepth 100000 in
set_option maxHeartbeats 4000000 in
theorem giDe : gSem 1 4 3504 (⟨"KeyPath$Detours", "<init>", "()V"⟩ : MethodName) prog_2_method_1_code 1 (fun b => [.ref b]) (fun _ b w => (b, .inr (8, .null :: .int 0 :: .null :: .null :: .int 0 :: .null :: [])) :: w) (fun K b w u => ∃ q34 q25 q17 q8 : Nat, u = (q34, .inl (K 1, 1152, .inl (fun _ => 0))) :: (q25, .inl (K 1, 48, .inl (fun _ => 0))) :: (q17, .inl (K 1, 1152, .inl (fun _ => 0))) :: (q8, .inl (K 1, 1152, .inl (fun _ => 0))) :: (b, .inr (8, .ref q8 :: .int 0 :: .ref q17 :: .ref q25 :: .int 0 :: .ref q34 :: [])) :: w) := by
  refine gSem.of (lv := fun b => [(0, .ref b)]) (by decide) (fun _ => Nat.le_of_ble_eq_true rfl) (fun _ => rfl) (fun X b w hX hI hR => ?_)
  have hI := hI rfl
  refine g_aload hX diDe_0 rfl 0 rfl ?_
  refine g_obj hX cw_316 cw_24 cw_25 (by decide) (Nat.le_of_ble_eq_true rfl) diDe_1 ?_
  refine g_aload hX diDe_4 rfl 0 rfl ?_
  refine g_sipush (v := 1152) hX diDe_5 (by decide) ?_
  refine g_newa (atype := .int) (ty := .int) (t := 1) (N := 1152) (cells' := 1) (slots' := 1152) hX rfl (fun _ => rfl) (fun _ _ h => h) rfl cw_60 (by decide) (by decide) (by decide) rfl rfl (by decide) (by decide) diDe_8 (fun q8 => ?_)
  refine g_putF (ci := 8) (k := 0) (q0 := 1) (ty0 := k_y8) (w' := (q8, .inl (gK X 1, 1152, .inl (fun _ => 0))) :: (b, .inr (8, .ref q8 :: .int 0 :: .null :: .null :: .int 0 :: .null :: [])) :: w) hX hI rfl k_lay8 k_ok8 k_n8 (by decide) cw_317 rfl rfl rfl rfl rfl (Nat.le_of_ble_eq_true rfl) rfl diDe_10 ?_
  refine g_aload hX diDe_13 rfl 0 rfl ?_
  refine g_sipush (v := 1152) hX diDe_14 (by decide) ?_
  refine g_newa (atype := .int) (ty := .int) (t := 1) (N := 1152) (cells' := 2) (slots' := 2304) hX rfl (fun _ => rfl) (fun _ _ h => h) rfl cw_60 (by decide) (by decide) (by decide) rfl rfl (by decide) (by decide) diDe_17 (fun q17 => ?_)
  refine g_at (pc := 19) rfl ?_
  refine g_putF (ci := 8) (k := 2) (q0 := 2) (ty0 := k_y8) (w' := (q17, .inl (gK X 1, 1152, .inl (fun _ => 0))) :: (q8, .inl (gK X 1, 1152, .inl (fun _ => 0))) :: (b, .inr (8, .ref q8 :: .int 0 :: .ref q17 :: .null :: .int 0 :: .null :: [])) :: w) hX hI rfl k_lay8 k_ok8 k_n8 (by decide) cw_319 rfl rfl rfl rfl rfl (Nat.le_of_ble_eq_true rfl) rfl diDe_19 ?_
  refine g_aload hX diDe_22 rfl 0 rfl ?_
  refine g_bipush (v := 48) hX diDe_23 (by decide) ?_
  refine g_newa (atype := .int) (ty := .int) (t := 1) (N := 48) (cells' := 3) (slots' := 2352) hX rfl (fun _ => rfl) (fun _ _ h => h) rfl cw_60 (by decide) (by decide) (by decide) rfl rfl (by decide) (by decide) diDe_25 (fun q25 => ?_)
  refine g_putF (ci := 8) (k := 3) (q0 := 3) (ty0 := k_y8) (w' := (q25, .inl (gK X 1, 48, .inl (fun _ => 0))) :: (q17, .inl (gK X 1, 1152, .inl (fun _ => 0))) :: (q8, .inl (gK X 1, 1152, .inl (fun _ => 0))) :: (b, .inr (8, .ref q8 :: .int 0 :: .ref q17 :: .ref q25 :: .int 0 :: .null :: [])) :: w) hX hI rfl k_lay8 k_ok8 k_n8 (by decide) cw_320 rfl rfl rfl rfl rfl (Nat.le_of_ble_eq_true rfl) rfl diDe_27 ?_
  refine g_aload hX diDe_30 rfl 0 rfl ?_
  refine g_sipush (v := 1152) hX diDe_31 (by decide) ?_
  refine g_newa (atype := .int) (ty := .int) (t := 1) (N := 1152) (cells' := 4) (slots' := 3504) hX rfl (fun _ => rfl) (fun _ _ h => h) rfl cw_60 (by decide) (by decide) (by decide) rfl rfl (by decide) (by decide) diDe_34 (fun q34 => ?_)
  refine g_putF (ci := 8) (k := 5) (q0 := 4) (ty0 := k_y8) (w' := (q34, .inl (gK X 1, 1152, .inl (fun _ => 0))) :: (q25, .inl (gK X 1, 48, .inl (fun _ => 0))) :: (q17, .inl (gK X 1, 1152, .inl (fun _ => 0))) :: (q8, .inl (gK X 1, 1152, .inl (fun _ => 0))) :: (b, .inr (8, .ref q8 :: .int 0 :: .ref q17 :: .ref q25 :: .int 0 :: .ref q34 :: [])) :: w) hX hI rfl k_lay8 k_ok8 k_n8 (by decide) cw_323 rfl rfl rfl rfl rfl (Nat.le_of_ble_eq_true rfl) rfl diDe_36 ?_
  exact g_ret hX hR ⟨q34, q25, q17, q8, rfl⟩ diDe_39
