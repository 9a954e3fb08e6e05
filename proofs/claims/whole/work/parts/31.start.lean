/-! ===== the law from its entry ===== -/
theorem diLw_0 : decode code 0 = .ok (.new 7, 3) := by decide +kernel
theorem diLw_3 : decode code 3 = .ok (.dup, 1) := by decide +kernel
theorem diLw_4 : decode code 4 = .ok (.invokespecial 9, 3) := by decide +kernel
theorem diLw_7 : decode code 7 = .ok (.astore_n 1, 1) := by decide +kernel
theorem diLw_8 : decode code 8 = .ok (.new 10, 3) := by decide +kernel
theorem diLw_11 : decode code 11 = .ok (.dup, 1) := by decide +kernel
theorem diLw_12 : decode code 12 = .ok (.invokespecial 12, 3) := by decide +kernel
theorem diLw_15 : decode code 15 = .ok (.astore_n 2, 1) := by decide +kernel
theorem diLw_16 : decode code 16 = .ok (.iconst 0, 1) := by decide +kernel
theorem diLw_17 : decode code 17 = .ok (.istore_n 3, 1) := by decide +kernel
def g_cs : List Nat := [53, 67, 66, 65, 64, 63, 62, 61, 60, 59, 58, 57, 56, 55, 54, 52, 51, 50, 49, 48, 47, 46, 45, 10, 44, 43, 42, 41, 9, 33, 40, 39, 38, 37, 36, 35, 34, 8, 32, 31, 30, 7, 29, 28, 27, 6, 26, 25, 24, 5, 23, 22, 21, 20, 19, 4, 18, 17, 16, 3, 12, 15, 14, 13, 2, 11, 1, 0]
def g_al (L : List Nat) (α : Nat → Nat) : Nat → Nat := fun c => if c < 68 then L.getD c 0 else α c
theorem g_e0 {α : Nat → Nat} {K : Nat → ClassId} (c t n : Nat) (h1 : k_ty c = t) (h2 : t ≠ 0) (h3 : k_ln c = n) (h4 : ∀ j : Int, s0 c j = 0) : k_ent α K s0 c = .inl (K t, n, .inl (fun _ => 0)) := by
  subst h1 h3
  unfold k_ent
  rw [if_neg h2]
  congr 4
  funext j
  rw [h4, c32_0]
theorem ge_0 (α : Nat → Nat) (K : Nat → ClassId) : k_ent α K s0 0 = .inr (0, .ref (α 1) :: .ref (α 3) :: .ref (α 4) :: .ref (α 5) :: .ref (α 6) :: .ref (α 7) :: .ref (α 8) :: .ref (α 9) :: []) := rfl
theorem ge_1 (α : Nat → Nat) (K : Nat → ClassId) : k_ent α K s0 1 = .inr (1, .ref (α 11) :: .int 0 :: .ref (α 2) :: .int 0 :: .int (-1) :: .int 0 :: .int 0 :: .int 0 :: .ref (α 12) :: .int 0 :: []) := rfl
theorem ge_2 (α : Nat → Nat) (K : Nat → ClassId) : k_ent α K s0 2 = .inr (2, .ref (α 13) :: .ref (α 14) :: .ref (α 15) :: .int 0 :: []) := rfl
theorem ge_3 (α : Nat → Nat) (K : Nat → ClassId) : k_ent α K s0 3 = .inr (2, .ref (α 16) :: .ref (α 17) :: .ref (α 18) :: .int 0 :: []) := rfl
theorem ge_4 (α : Nat → Nat) (K : Nat → ClassId) : k_ent α K s0 4 = .inr (3, .ref (α 19) :: .ref (α 20) :: .ref (α 21) :: .ref (α 22) :: .ref (α 23) :: .int 0 :: []) := rfl
theorem ge_5 (α : Nat → Nat) (K : Nat → ClassId) : k_ent α K s0 5 = .inr (4, .int 16 :: .int 8 :: .int 0 :: .ref (α 24) :: .ref (α 25) :: .ref (α 26) :: .int 1 :: []) := rfl
theorem ge_6 (α : Nat → Nat) (K : Nat → ClassId) : k_ent α K s0 6 = .inr (5, .ref (α 27) :: .ref (α 28) :: .ref (α 29) :: .int 1 :: []) := rfl
theorem ge_7 (α : Nat → Nat) (K : Nat → ClassId) : k_ent α K s0 7 = .inr (6, .int 40 :: .int 30 :: .int 60 :: .int 1 :: .int 1 :: .ref (α 30) :: .ref (α 31) :: .ref (α 32) :: []) := rfl
theorem ge_8 (α : Nat → Nat) (K : Nat → ClassId) : k_ent α K s0 8 = .inr (7, .ref (α 33) :: .int 0 :: .ref (α 34) :: .ref (α 35) :: .ref (α 36) :: .ref (α 37) :: .ref (α 38) :: .int 0 :: .int 0 :: .int 0 :: .ref (α 39) :: .ref (α 40) :: .int 0 :: .int 1 :: .int 0 :: .int 0 :: []) := rfl
theorem ge_9 (α : Nat → Nat) (K : Nat → ClassId) : k_ent α K s0 9 = .inr (8, .ref (α 41) :: .int 0 :: .ref (α 42) :: .ref (α 43) :: .int 0 :: .ref (α 44) :: []) := rfl
theorem ge_10 (α : Nat → Nat) (K : Nat → ClassId) : k_ent α K s0 10 = .inr (9, .int 0 :: .ref (α 45) :: .ref (α 46) :: .ref (α 47) :: .ref (α 48) :: .ref (α 49) :: .ref (α 50) :: .int 0 :: .int 0 :: .ref (α 51) :: .int 0 :: .int 16 :: .int 8 :: .int 40 :: .int 30 :: .int 60 :: .int 1 :: .ref (α 52) :: .ref (α 53) :: .ref (α 54) :: .int 0 :: .int 0 :: .int 0 :: .int 0 :: .int (-1) :: .int 0 :: .ref (α 55) :: .int 0 :: .ref (α 56) :: .ref (α 57) :: .ref (α 58) :: .ref (α 59) :: .ref (α 60) :: .ref (α 61) :: .ref (α 62) :: .ref (α 63) :: .ref (α 64) :: .int 0 :: .int 0 :: .ref (α 65) :: .ref (α 66) :: .ref (α 67) :: []) := rfl
theorem ge_11 (α : Nat → Nat) (K : Nat → ClassId) : k_ent α K s0 11 = .inl (K 1, 700, .inl (fun _ => 0)) := g_e0 11 1 700 rfl (by decide) rfl (fun _ => rfl)
theorem ge_12 (α : Nat → Nat) (K : Nat → ClassId) : k_ent α K s0 12 = .inl (K 1, 6, .inl (fun _ => 0)) := g_e0 12 1 6 rfl (by decide) rfl (fun _ => rfl)
theorem ge_13 (α : Nat → Nat) (K : Nat → ClassId) : k_ent α K s0 13 = .inl (K 1, 100, .inl (fun _ => 0)) := g_e0 13 1 100 rfl (by decide) rfl (fun _ => rfl)
theorem ge_14 (α : Nat → Nat) (K : Nat → ClassId) : k_ent α K s0 14 = .inl (K 1, 100, .inl (fun _ => 0)) := g_e0 14 1 100 rfl (by decide) rfl (fun _ => rfl)
theorem ge_15 (α : Nat → Nat) (K : Nat → ClassId) : k_ent α K s0 15 = .inl (K 1, 100, .inl (fun _ => 0)) := g_e0 15 1 100 rfl (by decide) rfl (fun _ => rfl)
theorem ge_16 (α : Nat → Nat) (K : Nat → ClassId) : k_ent α K s0 16 = .inl (K 1, 100, .inl (fun _ => 0)) := g_e0 16 1 100 rfl (by decide) rfl (fun _ => rfl)
theorem ge_17 (α : Nat → Nat) (K : Nat → ClassId) : k_ent α K s0 17 = .inl (K 1, 100, .inl (fun _ => 0)) := g_e0 17 1 100 rfl (by decide) rfl (fun _ => rfl)
theorem ge_18 (α : Nat → Nat) (K : Nat → ClassId) : k_ent α K s0 18 = .inl (K 1, 100, .inl (fun _ => 0)) := g_e0 18 1 100 rfl (by decide) rfl (fun _ => rfl)
theorem ge_19 (α : Nat → Nat) (K : Nat → ClassId) : k_ent α K s0 19 = .inl (K 1, 10, .inl (fun _ => 0)) := g_e0 19 1 10 rfl (by decide) rfl (fun _ => rfl)
theorem ge_20 (α : Nat → Nat) (K : Nat → ClassId) : k_ent α K s0 20 = .inl (K 1, 10, .inl (fun _ => 0)) := g_e0 20 1 10 rfl (by decide) rfl (fun _ => rfl)
theorem ge_21 (α : Nat → Nat) (K : Nat → ClassId) : k_ent α K s0 21 = .inl (K 1, 10, .inl (fun _ => 0)) := g_e0 21 1 10 rfl (by decide) rfl (fun _ => rfl)
theorem ge_22 (α : Nat → Nat) (K : Nat → ClassId) : k_ent α K s0 22 = .inl (K 1, 10, .inl (fun _ => 0)) := g_e0 22 1 10 rfl (by decide) rfl (fun _ => rfl)
theorem ge_23 (α : Nat → Nat) (K : Nat → ClassId) : k_ent α K s0 23 = .inl (K 1, 10, .inl (fun _ => 0)) := g_e0 23 1 10 rfl (by decide) rfl (fun _ => rfl)
theorem ge_24 (α : Nat → Nat) (K : Nat → ClassId) : k_ent α K s0 24 = .inl (K 1, 588, .inl (fun _ => 0)) := g_e0 24 1 588 rfl (by decide) rfl (fun _ => rfl)
theorem ge_25 (α : Nat → Nat) (K : Nat → ClassId) : k_ent α K s0 25 = .inl (K 1, 49, .inl (fun _ => 0)) := g_e0 25 1 49 rfl (by decide) rfl (fun _ => rfl)
theorem ge_26 (α : Nat → Nat) (K : Nat → ClassId) : k_ent α K s0 26 = .inl (K 1, 48, .inl (fun _ => 0)) := g_e0 26 1 48 rfl (by decide) rfl (fun _ => rfl)
theorem ge_27 (α : Nat → Nat) (K : Nat → ClassId) : k_ent α K s0 27 = .inl (K 1, 24, .inl (fun j => c32 (k_s5 j))) := rfl
theorem ge_28 (α : Nat → Nat) (K : Nat → ClassId) : k_ent α K s0 28 = .inl (K 1, 1176, .inl (fun _ => 0)) := g_e0 28 1 1176 rfl (by decide) rfl (fun _ => rfl)
theorem ge_29 (α : Nat → Nat) (K : Nat → ClassId) : k_ent α K s0 29 = .inl (K 1, 49, .inl (fun _ => 0)) := g_e0 29 1 49 rfl (by decide) rfl (fun _ => rfl)
theorem ge_30 (α : Nat → Nat) (K : Nat → ClassId) : k_ent α K s0 30 = .inl (K 1, 576, .inl (fun _ => 0)) := g_e0 30 1 576 rfl (by decide) rfl (fun _ => rfl)
theorem ge_31 (α : Nat → Nat) (K : Nat → ClassId) : k_ent α K s0 31 = .inl (K 1, 576, .inl (fun _ => 0)) := g_e0 31 1 576 rfl (by decide) rfl (fun _ => rfl)
theorem ge_32 (α : Nat → Nat) (K : Nat → ClassId) : k_ent α K s0 32 = .inl (K 1, 24, .inl (fun _ => 0)) := g_e0 32 1 24 rfl (by decide) rfl (fun _ => rfl)
theorem ge_33 (α : Nat → Nat) (K : Nat → ClassId) : k_ent α K s0 33 = .inl (K 1, 48, .inl (fun _ => -1)) := rfl
theorem ge_34 (α : Nat → Nat) (K : Nat → ClassId) : k_ent α K s0 34 = .inl (K 1, 1152, .inl (fun _ => 0)) := g_e0 34 1 1152 rfl (by decide) rfl (fun _ => rfl)
theorem ge_35 (α : Nat → Nat) (K : Nat → ClassId) : k_ent α K s0 35 = .inl (K 3, 48, .inl (fun _ => 0)) := g_e0 35 3 48 rfl (by decide) rfl (fun _ => rfl)
theorem ge_36 (α : Nat → Nat) (K : Nat → ClassId) : k_ent α K s0 36 = .inl (K 1, 576, .inl (fun _ => 0)) := g_e0 36 1 576 rfl (by decide) rfl (fun _ => rfl)
theorem ge_37 (α : Nat → Nat) (K : Nat → ClassId) : k_ent α K s0 37 = .inl (K 1, 1152, .inl (fun _ => 0)) := g_e0 37 1 1152 rfl (by decide) rfl (fun _ => rfl)
theorem ge_38 (α : Nat → Nat) (K : Nat → ClassId) : k_ent α K s0 38 = .inl (K 1, 1152, .inl (fun _ => 0)) := g_e0 38 1 1152 rfl (by decide) rfl (fun _ => rfl)
theorem ge_39 (α : Nat → Nat) (K : Nat → ClassId) : k_ent α K s0 39 = .inl (K 1, 48, .inl (fun _ => 0)) := g_e0 39 1 48 rfl (by decide) rfl (fun _ => rfl)
theorem ge_40 (α : Nat → Nat) (K : Nat → ClassId) : k_ent α K s0 40 = .inl (K 1, 48, .inl (fun _ => 0)) := g_e0 40 1 48 rfl (by decide) rfl (fun _ => rfl)
theorem ge_41 (α : Nat → Nat) (K : Nat → ClassId) : k_ent α K s0 41 = .inl (K 1, 1152, .inl (fun _ => 0)) := g_e0 41 1 1152 rfl (by decide) rfl (fun _ => rfl)
theorem ge_42 (α : Nat → Nat) (K : Nat → ClassId) : k_ent α K s0 42 = .inl (K 1, 1152, .inl (fun _ => 0)) := g_e0 42 1 1152 rfl (by decide) rfl (fun _ => rfl)
theorem ge_43 (α : Nat → Nat) (K : Nat → ClassId) : k_ent α K s0 43 = .inl (K 1, 48, .inl (fun _ => 0)) := g_e0 43 1 48 rfl (by decide) rfl (fun _ => rfl)
theorem ge_44 (α : Nat → Nat) (K : Nat → ClassId) : k_ent α K s0 44 = .inl (K 1, 1152, .inl (fun _ => 0)) := g_e0 44 1 1152 rfl (by decide) rfl (fun _ => rfl)
theorem ge_45 (α : Nat → Nat) (K : Nat → ClassId) : k_ent α K s0 45 = .inl (K 1, 100, .inl (fun _ => 0)) := g_e0 45 1 100 rfl (by decide) rfl (fun _ => rfl)
theorem ge_46 (α : Nat → Nat) (K : Nat → ClassId) : k_ent α K s0 46 = .inl (K 1, 100, .inl (fun _ => 0)) := g_e0 46 1 100 rfl (by decide) rfl (fun _ => rfl)
theorem ge_47 (α : Nat → Nat) (K : Nat → ClassId) : k_ent α K s0 47 = .inl (K 1, 100, .inl (fun _ => 0)) := g_e0 47 1 100 rfl (by decide) rfl (fun _ => rfl)
theorem ge_48 (α : Nat → Nat) (K : Nat → ClassId) : k_ent α K s0 48 = .inl (K 1, 100, .inl (fun _ => 0)) := g_e0 48 1 100 rfl (by decide) rfl (fun _ => rfl)
theorem ge_49 (α : Nat → Nat) (K : Nat → ClassId) : k_ent α K s0 49 = .inl (K 1, 100, .inl (fun _ => 0)) := g_e0 49 1 100 rfl (by decide) rfl (fun _ => rfl)
theorem ge_50 (α : Nat → Nat) (K : Nat → ClassId) : k_ent α K s0 50 = .inl (K 1, 100, .inl (fun _ => 0)) := g_e0 50 1 100 rfl (by decide) rfl (fun _ => rfl)
theorem ge_51 (α : Nat → Nat) (K : Nat → ClassId) : k_ent α K s0 51 = .inl (K 1, 3010, .inl (fun _ => 0)) := g_e0 51 1 3010 rfl (by decide) rfl (fun _ => rfl)
theorem ge_52 (α : Nat → Nat) (K : Nat → ClassId) : k_ent α K s0 52 = .inl (K 1, 24, .inl (fun j => c32 (k_s5 j))) := rfl
theorem ge_53 (α : Nat → Nat) (K : Nat → ClassId) : k_ent α K s0 53 = .inl (K 1, 48, .inl (fun _ => -1)) := rfl
theorem ge_54 (α : Nat → Nat) (K : Nat → ClassId) : k_ent α K s0 54 = .inl (K 2, 700, .inl (fun _ => 0)) := g_e0 54 2 700 rfl (by decide) rfl (fun _ => rfl)
theorem ge_55 (α : Nat → Nat) (K : Nat → ClassId) : k_ent α K s0 55 = .inl (K 1, 12, .inl (fun _ => 0)) := g_e0 55 1 12 rfl (by decide) rfl (fun _ => rfl)
theorem ge_56 (α : Nat → Nat) (K : Nat → ClassId) : k_ent α K s0 56 = .inl (K 1, 24, .inl (fun _ => 0)) := g_e0 56 1 24 rfl (by decide) rfl (fun _ => rfl)
theorem ge_57 (α : Nat → Nat) (K : Nat → ClassId) : k_ent α K s0 57 = .inl (K 1, 24, .inl (fun _ => 0)) := g_e0 57 1 24 rfl (by decide) rfl (fun _ => rfl)
theorem ge_58 (α : Nat → Nat) (K : Nat → ClassId) : k_ent α K s0 58 = .inl (K 1, 576, .inl (fun _ => 0)) := g_e0 58 1 576 rfl (by decide) rfl (fun _ => rfl)
theorem ge_59 (α : Nat → Nat) (K : Nat → ClassId) : k_ent α K s0 59 = .inl (K 1, 1152, .inl (fun _ => 0)) := g_e0 59 1 1152 rfl (by decide) rfl (fun _ => rfl)
theorem ge_60 (α : Nat → Nat) (K : Nat → ClassId) : k_ent α K s0 60 = .inl (K 1, 1152, .inl (fun _ => 0)) := g_e0 60 1 1152 rfl (by decide) rfl (fun _ => rfl)
theorem ge_61 (α : Nat → Nat) (K : Nat → ClassId) : k_ent α K s0 61 = .inl (K 1, 1152, .inl (fun _ => 0)) := g_e0 61 1 1152 rfl (by decide) rfl (fun _ => rfl)
theorem ge_62 (α : Nat → Nat) (K : Nat → ClassId) : k_ent α K s0 62 = .inl (K 1, 1152, .inl (fun _ => 0)) := g_e0 62 1 1152 rfl (by decide) rfl (fun _ => rfl)
theorem ge_63 (α : Nat → Nat) (K : Nat → ClassId) : k_ent α K s0 63 = .inl (K 1, 48, .inl (fun _ => 0)) := g_e0 63 1 48 rfl (by decide) rfl (fun _ => rfl)
theorem ge_64 (α : Nat → Nat) (K : Nat → ClassId) : k_ent α K s0 64 = .inl (K 3, 48, .inl (fun _ => 0)) := g_e0 64 3 48 rfl (by decide) rfl (fun _ => rfl)
theorem ge_65 (α : Nat → Nat) (K : Nat → ClassId) : k_ent α K s0 65 = .inl (K 1, 1152, .inl (fun _ => 0)) := g_e0 65 1 1152 rfl (by decide) rfl (fun _ => rfl)
theorem ge_66 (α : Nat → Nat) (K : Nat → ClassId) : k_ent α K s0 66 = .inl (K 1, 1152, .inl (fun _ => 0)) := g_e0 66 1 1152 rfl (by decide) rfl (fun _ => rfl)
theorem ge_67 (α : Nat → Nat) (K : Nat → ClassId) : k_ent α K s0 67 = .inl (K 1, 12, .inl (fun _ => 0)) := g_e0 67 1 12 rfl (by decide) rfl (fun _ => rfl)
set_option maxRecDepth 100000 in
set_option maxHeartbeats 4000000 in
theorem g_world (K : Nat → ClassId) (α0 : Nat → Nat) (q0 c4q5 c4c9q14 c4q16 c4q27 c4q38 c4q49 c4q60 c4q71 c4q82 q8 c4c9q8 c4c9q32 c4c9c18q7 c4c9c18q15 c4c9c18q23 c4c20q7 c4c20q15 c4c20q23 c4c31q7 c4c31q15 c4c31q23 c4c31q31 c4c31q39 c4c42q20 c4c42q28 c4c42q36 c4c53q8 c4c53q21 c4c53q29 c4c64q36 c4c64q45 c4c64q53 c4c75q7 c4c75q16 c4c75q24 c4c75q33 c4c75q42 c4c75q51 c4c75q59 c4c75q67 c4c86q8 c4c86q17 c4c86q25 c4c86q34 c12q7 c12q15 c12q23 c12q31 c12q39 c12q47 c12q56 c12q99 c12q245 c12q254 c12q267 c12q275 c12q283 c12q292 c12q301 c12q310 c12q319 c12q328 c12q336 c12q344 c12q353 c12q362 c12q370 : Nat) : ((c12q245, .inl (K 1, 48, .inl (fun _ => -1))) :: (c12q370, .inl (K 1, 12, .inl (fun _ => 0))) :: (c12q362, .inl (K 1, 1152, .inl (fun _ => 0))) :: (c12q353, .inl (K 1, 1152, .inl (fun _ => 0))) :: (c12q344, .inl (K 3, 48, .inl (fun _ => 0))) :: (c12q336, .inl (K 1, 48, .inl (fun _ => 0))) :: (c12q328, .inl (K 1, 1152, .inl (fun _ => 0))) :: (c12q319, .inl (K 1, 1152, .inl (fun _ => 0))) :: (c12q310, .inl (K 1, 1152, .inl (fun _ => 0))) :: (c12q301, .inl (K 1, 1152, .inl (fun _ => 0))) :: (c12q292, .inl (K 1, 576, .inl (fun _ => 0))) :: (c12q283, .inl (K 1, 24, .inl (fun _ => 0))) :: (c12q275, .inl (K 1, 24, .inl (fun _ => 0))) :: (c12q267, .inl (K 1, 12, .inl (fun _ => 0))) :: (c12q254, .inl (K 2, 700, .inl (fun _ => 0))) :: (c12q99, .inl (K 1, 24, .inl (fun j => c32 (k_s5 j)))) :: (c12q56, .inl (K 1, 3010, .inl (fun _ => 0))) :: (c12q47, .inl (K 1, 100, .inl (fun _ => 0))) :: (c12q39, .inl (K 1, 100, .inl (fun _ => 0))) :: (c12q31, .inl (K 1, 100, .inl (fun _ => 0))) :: (c12q23, .inl (K 1, 100, .inl (fun _ => 0))) :: (c12q15, .inl (K 1, 100, .inl (fun _ => 0))) :: (c12q7, .inl (K 1, 100, .inl (fun _ => 0))) :: (q8, .inr (9, .int 0 :: .ref c12q7 :: .ref c12q15 :: .ref c12q23 :: .ref c12q31 :: .ref c12q39 :: .ref c12q47 :: .int 0 :: .int 0 :: .ref c12q56 :: .int 0 :: .int 16 :: .int 8 :: .int 40 :: .int 30 :: .int 60 :: .int 1 :: .ref c12q99 :: .ref c12q245 :: .ref c12q254 :: .int 0 :: .int 0 :: .int 0 :: .int 0 :: .int (-1) :: .int 0 :: .ref c12q267 :: .int 0 :: .ref c12q275 :: .ref c12q283 :: .ref c12q292 :: .ref c12q301 :: .ref c12q310 :: .ref c12q319 :: .ref c12q328 :: .ref c12q336 :: .ref c12q344 :: .int 0 :: .int 0 :: .ref c12q353 :: .ref c12q362 :: .ref c12q370 :: [])) :: (c4c86q34, .inl (K 1, 1152, .inl (fun _ => 0))) :: (c4c86q25, .inl (K 1, 48, .inl (fun _ => 0))) :: (c4c86q17, .inl (K 1, 1152, .inl (fun _ => 0))) :: (c4c86q8, .inl (K 1, 1152, .inl (fun _ => 0))) :: (c4q82, .inr (8, .ref c4c86q8 :: .int 0 :: .ref c4c86q17 :: .ref c4c86q25 :: .int 0 :: .ref c4c86q34 :: [])) :: (c4c75q7, .inl (K 1, 48, .inl (fun _ => -1))) :: (c4c75q67, .inl (K 1, 48, .inl (fun _ => 0))) :: (c4c75q59, .inl (K 1, 48, .inl (fun _ => 0))) :: (c4c75q51, .inl (K 1, 1152, .inl (fun _ => 0))) :: (c4c75q42, .inl (K 1, 1152, .inl (fun _ => 0))) :: (c4c75q33, .inl (K 1, 576, .inl (fun _ => 0))) :: (c4c75q24, .inl (K 3, 48, .inl (fun _ => 0))) :: (c4c75q16, .inl (K 1, 1152, .inl (fun _ => 0))) :: (c4q71, .inr (7, .ref c4c75q7 :: .int 0 :: .ref c4c75q16 :: .ref c4c75q24 :: .ref c4c75q33 :: .ref c4c75q42 :: .ref c4c75q51 :: .int 0 :: .int 0 :: .int 0 :: .ref c4c75q59 :: .ref c4c75q67 :: .int 0 :: .int 1 :: .int 0 :: .int 0 :: [])) :: (c4c64q53, .inl (K 1, 24, .inl (fun _ => 0))) :: (c4c64q45, .inl (K 1, 576, .inl (fun _ => 0))) :: (c4c64q36, .inl (K 1, 576, .inl (fun _ => 0))) :: (c4q60, .inr (6, .int 40 :: .int 30 :: .int 60 :: .int 1 :: .int 1 :: .ref c4c64q36 :: .ref c4c64q45 :: .ref c4c64q53 :: [])) :: (c4c53q29, .inl (K 1, 49, .inl (fun _ => 0))) :: (c4c53q21, .inl (K 1, 1176, .inl (fun _ => 0))) :: (c4c53q8, .inl (K 1, 24, .inl (fun j => c32 (k_s5 j)))) :: (c4q49, .inr (5, .ref c4c53q8 :: .ref c4c53q21 :: .ref c4c53q29 :: .int 1 :: [])) :: (c4c42q36, .inl (K 1, 48, .inl (fun _ => 0))) :: (c4c42q28, .inl (K 1, 49, .inl (fun _ => 0))) :: (c4c42q20, .inl (K 1, 588, .inl (fun _ => 0))) :: (c4q38, .inr (4, .int 16 :: .int 8 :: .int 0 :: .ref c4c42q20 :: .ref c4c42q28 :: .ref c4c42q36 :: .int 1 :: [])) :: (c4c31q39, .inl (K 1, 10, .inl (fun _ => 0))) :: (c4c31q31, .inl (K 1, 10, .inl (fun _ => 0))) :: (c4c31q23, .inl (K 1, 10, .inl (fun _ => 0))) :: (c4c31q15, .inl (K 1, 10, .inl (fun _ => 0))) :: (c4c31q7, .inl (K 1, 10, .inl (fun _ => 0))) :: (c4q27, .inr (3, .ref c4c31q7 :: .ref c4c31q15 :: .ref c4c31q23 :: .ref c4c31q31 :: .ref c4c31q39 :: .int 0 :: [])) :: (c4c20q23, .inl (K 1, 100, .inl (fun _ => 0))) :: (c4c20q15, .inl (K 1, 100, .inl (fun _ => 0))) :: (c4c20q7, .inl (K 1, 100, .inl (fun _ => 0))) :: (c4q16, .inr (2, .ref c4c20q7 :: .ref c4c20q15 :: .ref c4c20q23 :: .int 0 :: [])) :: (c4c9q32, .inl (K 1, 6, .inl (fun _ => 0))) :: (c4c9c18q23, .inl (K 1, 100, .inl (fun _ => 0))) :: (c4c9c18q15, .inl (K 1, 100, .inl (fun _ => 0))) :: (c4c9c18q7, .inl (K 1, 100, .inl (fun _ => 0))) :: (c4c9q14, .inr (2, .ref c4c9c18q7 :: .ref c4c9c18q15 :: .ref c4c9c18q23 :: .int 0 :: [])) :: (c4c9q8, .inl (K 1, 700, .inl (fun _ => 0))) :: (c4q5, .inr (1, .ref c4c9q8 :: .int 0 :: .ref c4c9q14 :: .int 0 :: .int (-1) :: .int 0 :: .int 0 :: .int 0 :: .ref c4c9q32 :: .int 0 :: [])) :: (q0, .inr (0, .ref c4q5 :: .ref c4q16 :: .ref c4q27 :: .ref c4q38 :: .ref c4q49 :: .ref c4q60 :: .ref c4q71 :: .ref c4q82 :: [])) :: []) = g_cs.map (fun c => (g_al (q0 :: c4q5 :: c4c9q14 :: c4q16 :: c4q27 :: c4q38 :: c4q49 :: c4q60 :: c4q71 :: c4q82 :: q8 :: c4c9q8 :: c4c9q32 :: c4c9c18q7 :: c4c9c18q15 :: c4c9c18q23 :: c4c20q7 :: c4c20q15 :: c4c20q23 :: c4c31q7 :: c4c31q15 :: c4c31q23 :: c4c31q31 :: c4c31q39 :: c4c42q20 :: c4c42q28 :: c4c42q36 :: c4c53q8 :: c4c53q21 :: c4c53q29 :: c4c64q36 :: c4c64q45 :: c4c64q53 :: c4c75q7 :: c4c75q16 :: c4c75q24 :: c4c75q33 :: c4c75q42 :: c4c75q51 :: c4c75q59 :: c4c75q67 :: c4c86q8 :: c4c86q17 :: c4c86q25 :: c4c86q34 :: c12q7 :: c12q15 :: c12q23 :: c12q31 :: c12q39 :: c12q47 :: c12q56 :: c12q99 :: c12q245 :: c12q254 :: c12q267 :: c12q275 :: c12q283 :: c12q292 :: c12q301 :: c12q310 :: c12q319 :: c12q328 :: c12q336 :: c12q344 :: c12q353 :: c12q362 :: c12q370 :: []) α0 c, k_ent (g_al (q0 :: c4q5 :: c4c9q14 :: c4q16 :: c4q27 :: c4q38 :: c4q49 :: c4q60 :: c4q71 :: c4q82 :: q8 :: c4c9q8 :: c4c9q32 :: c4c9c18q7 :: c4c9c18q15 :: c4c9c18q23 :: c4c20q7 :: c4c20q15 :: c4c20q23 :: c4c31q7 :: c4c31q15 :: c4c31q23 :: c4c31q31 :: c4c31q39 :: c4c42q20 :: c4c42q28 :: c4c42q36 :: c4c53q8 :: c4c53q21 :: c4c53q29 :: c4c64q36 :: c4c64q45 :: c4c64q53 :: c4c75q7 :: c4c75q16 :: c4c75q24 :: c4c75q33 :: c4c75q42 :: c4c75q51 :: c4c75q59 :: c4c75q67 :: c4c86q8 :: c4c86q17 :: c4c86q25 :: c4c86q34 :: c12q7 :: c12q15 :: c12q23 :: c12q31 :: c12q39 :: c12q47 :: c12q56 :: c12q99 :: c12q245 :: c12q254 :: c12q267 :: c12q275 :: c12q283 :: c12q292 :: c12q301 :: c12q310 :: c12q319 :: c12q328 :: c12q336 :: c12q344 :: c12q353 :: c12q362 :: c12q370 :: []) α0) K s0 c)) := by
  unfold g_cs
  simp only [List.map_cons, List.map_nil, ge_0, ge_1, ge_2, ge_3, ge_4, ge_5, ge_6, ge_7, ge_8, ge_9, ge_10, ge_11, ge_12, ge_13, ge_14, ge_15, ge_16, ge_17, ge_18, ge_19, ge_20, ge_21, ge_22, ge_23, ge_24, ge_25, ge_26, ge_27, ge_28, ge_29, ge_30, ge_31, ge_32, ge_33, ge_34, ge_35, ge_36, ge_37, ge_38, ge_39, ge_40, ge_41, ge_42, ge_43, ge_44, ge_45, ge_46, ge_47, ge_48, ge_49, ge_50, ge_51, ge_52, ge_53, ge_54, ge_55, ge_56, ge_57, ge_58, ge_59, ge_60, ge_61, ge_62, ge_63, ge_64, ge_65, ge_66, ge_67]
  rfl
theorem g_csP : List.Perm g_cs (List.range 68) := by decide
theorem g_done {D : va_G} {K : Nat → ClassId} {α : Nat → Nat} {z : Nat} {H : Heap} {w : va_W} (hw : w = g_cs.map (fun c => (α c, k_ent α K s0 c))) (hP : va_P D k_cls w H) (hD : va_D (gA z) w) : va_P D k_cls (k_wd α K s0) H ∧ k_inj α ∧ ∀ c, c < k_NC → z ≤ α c := by
  have hp : List.Perm w (k_wd α K s0) := by
    rw [hw]
    exact g_csP.map _
  have hP1 := hP.perm hp
  have hD1 := hD.perm hp
  exact ⟨hP1, fun i j hi hj h => hD1.1 i j _ _ (k_at hi) (k_at hj) h, fun c hc => hD1.2 c _ (k_at hc)⟩
theorem k_ext.al {α β : Nat → Nat} {A : Nat → Prop} {U : State} {H : Heap} (h : ∀ i, 100 ≤ i → β i = α i) (hE : k_ext α A U H) : k_ext β A U H := by
  obtain ⟨h1, h2, ⟨h3, h4⟩, h5, h6, h7⟩ := hE
  have e1 : (fun i => β (110 + i)) = fun i => α (110 + i) := funext fun i => h _ (by omega)
  have e2 : (fun i => β (112 + i)) = fun i => α (112 + i) := funext fun i => h _ (by omega)
  refine ⟨h1, fun i hi => by rw [h (100 + i) (by omega)]; exact h2 i hi, ⟨by rw [h 110 (by decide)]; exact h3, by rw [h 111 (by decide)]; exact h4⟩, ?_, h6, h7⟩
  rw [e1, e2]
  exact h5

set_option maxRecDepth 100000 in
set_option maxHeartbeats 8000000 in
theorem whole_start {p : Program} {e : Env} {s : State} {m : MethodId} {below : List Frame} {meth : Method} {c : Code} (l : Launch) (hflags : l.flags = flags0) {b L : Nat} {xs : Nat → Int32} (hL : L ≤ 3072) (C0 : lw_At p s m meth c b L xs) : W p l e room_1 s m #[Value.ref b] below meth c s.heap [] 0 0 (lw_Z below #[Value.ref b] s) (entryFrame m ([Value.ref b] : List Value).toArray 4) := by
  obtain ⟨hx, hb, hr, hml, hown, hts, hXs, hbl, hlocks, hgv⟩ := C0
  obtain ⟨D, K, hK⟩ := b_K hts
  obtain ⟨α0, hb0, hE, hF⟩ := b_begin hts hgv hK
  subst hb0
  have hle := lv_entry [Value.ref (α0 120)] (n := 4) (Nat.le_of_ble_eq_true rfl)
  rw [lg_entry_eq]
  generalize (lg_sl [Value.ref (α0 120)] ++ List.replicate (4 - (lg_sl [Value.ref (α0 120)]).length) Slot.unset).toArray = ls at hle ⊢
  have hX : gOk ((p, l, e, room_1), (s, m, #[Value.ref (α0 120)], below), (meth, c), (D, K, α0, s.heap.size), (lw_Z below #[Value.ref (α0 120)] s, 4)) 2048 600000 7302250 code 4 "KeyPathLaw" :=
    ⟨hx, hb, hml, rfl, hown, b_tab hts, ⟨by decide, by decide, by decide, by decide⟩, hK, Nat.le_refl _, hE, hF⟩
  refine (?_ : gW ((p, l, e, room_1), (s, m, #[Value.ref (α0 120)], below), (meth, c), (D, K, α0, s.heap.size), (lw_Z below #[Value.ref (α0 120)] s, 4)) 0 0 0 [(0, .ref (α0 120))] [] []) s.heap [] ls (fun k q h => by cases h) ⟨fun i j p q h => (by cases h), fun k q h => (by cases h)⟩ va_S.rf hle
  refine g_new (ci := 0) (ty := k_y0) (fs := .null :: .null :: .null :: .null :: .null :: .null :: .null :: .null :: []) (cells' := 1) (slots' := 8) hX rfl k_lay0 k_ok0 cw_18 cw_19 cw_1 (by decide +kernel) rfl rfl (by decide) (by decide) diLw_0 (fun q0 => ?_)
  refine g_dup hX diLw_3 rfl ?_
  refine g_callI (cells' := 44) (slots' := 12267) hX giP rfl ⟨⟨by decide, by decide⟩, cw_22, cw_1, by decide +kernel⟩ cw_20 cw_21 rfl (Nat.le_of_ble_eq_true rfl) rfl rfl (by decide) (by decide) diLw_4 (fun u hu => ?_)
  obtain ⟨c4c86q34, c4c86q25, c4c86q17, c4c86q8, c4q82, c4c75q7, c4c75q67, c4c75q59, c4c75q51, c4c75q42, c4c75q33, c4c75q24, c4c75q16, c4q71, c4c64q53, c4c64q45, c4c64q36, c4q60, c4c53q29, c4c53q21, c4c53q8, c4q49, c4c42q36, c4c42q28, c4c42q20, c4q38, c4c31q39, c4c31q31, c4c31q23, c4c31q15, c4c31q7, c4q27, c4c20q23, c4c20q15, c4c20q7, c4q16, c4c9q32, c4c9c18q23, c4c9c18q15, c4c9c18q7, c4c9q14, c4c9q8, c4q5, rfl⟩ := hu
  refine g_astore (lv' := [(1, .ref q0), (0, .ref (α0 120))]) hX diLw_7 rfl (by decide) rfl ?_
  refine g_new (ci := 9) (ty := k_y9) (fs := .int 0 :: .null :: .null :: .null :: .null :: .null :: .null :: .int 0 :: .int 0 :: .null :: .int 0 :: .int 0 :: .int 0 :: .int 0 :: .int 0 :: .int 0 :: .int 0 :: .null :: .null :: .null :: .int 0 :: .int 0 :: .int 0 :: .int 0 :: .int 0 :: .int 0 :: .null :: .int 0 :: .null :: .null :: .null :: .null :: .null :: .null :: .null :: .null :: .null :: .int 0 :: .int 0 :: .null :: .null :: .null :: []) (cells' := 45) (slots' := 12309) hX rfl k_lay9 k_ok9 cw_981 cw_982 cw_11 (by decide +kernel) rfl rfl (by decide) (by decide) diLw_8 (fun q8 => ?_)
  refine g_dup hX diLw_11 rfl ?_
  refine g_callI (cells' := 68) (slots' := 24347) hX giM rfl ⟨⟨by decide, by decide⟩, cw_985, cw_11, by decide +kernel⟩ cw_983 cw_984 rfl (Nat.le_of_ble_eq_true rfl) rfl rfl (by decide) (by decide) diLw_12 (fun u hu => ?_)
  obtain ⟨c12q245, c12q370, c12q362, c12q353, c12q344, c12q336, c12q328, c12q319, c12q310, c12q301, c12q292, c12q283, c12q275, c12q267, c12q254, c12q99, c12q56, c12q47, c12q39, c12q31, c12q23, c12q15, c12q7, rfl⟩ := hu
  refine g_astore (lv' := [(2, .ref q8), (1, .ref q0), (0, .ref (α0 120))]) hX diLw_15 rfl (by decide) rfl ?_
  refine g_iconst (v := c32 0) hX diLw_16 rfl ?_
  refine g_istore (lv' := [(3, .int (c32 0)), (2, .ref q8), (1, .ref q0), (0, .ref (α0 120))]) hX diLw_17 rfl (by decide) rfl ?_
  intro H locs ls hP hD hS hL
  have hw := g_world K α0 q0 c4q5 c4c9q14 c4q16 c4q27 c4q38 c4q49 c4q60 c4q71 c4q82 q8 c4c9q8 c4c9q32 c4c9c18q7 c4c9c18q15 c4c9c18q23 c4c20q7 c4c20q15 c4c20q23 c4c31q7 c4c31q15 c4c31q23 c4c31q31 c4c31q39 c4c42q20 c4c42q28 c4c42q36 c4c53q8 c4c53q21 c4c53q29 c4c64q36 c4c64q45 c4c64q53 c4c75q7 c4c75q16 c4c75q24 c4c75q33 c4c75q42 c4c75q51 c4c75q59 c4c75q67 c4c86q8 c4c86q17 c4c86q25 c4c86q34 c12q7 c12q15 c12q23 c12q31 c12q39 c12q47 c12q56 c12q99 c12q245 c12q254 c12q267 c12q275 c12q283 c12q292 c12q301 c12q310 c12q319 c12q328 c12q336 c12q344 c12q353 c12q362 c12q370
  obtain ⟨hP1, hi1, hA1⟩ := g_done hw hP hD
  generalize hα : g_al (q0 :: c4q5 :: c4c9q14 :: c4q16 :: c4q27 :: c4q38 :: c4q49 :: c4q60 :: c4q71 :: c4q82 :: q8 :: c4c9q8 :: c4c9q32 :: c4c9c18q7 :: c4c9c18q15 :: c4c9c18q23 :: c4c20q7 :: c4c20q15 :: c4c20q23 :: c4c31q7 :: c4c31q15 :: c4c31q23 :: c4c31q31 :: c4c31q39 :: c4c42q20 :: c4c42q28 :: c4c42q36 :: c4c53q8 :: c4c53q21 :: c4c53q29 :: c4c64q36 :: c4c64q45 :: c4c64q53 :: c4c75q7 :: c4c75q16 :: c4c75q24 :: c4c75q33 :: c4c75q42 :: c4c75q51 :: c4c75q59 :: c4c75q67 :: c4c86q8 :: c4c86q17 :: c4c86q25 :: c4c86q34 :: c12q7 :: c12q15 :: c12q23 :: c12q31 :: c12q39 :: c12q47 :: c12q56 :: c12q99 :: c12q245 :: c12q254 :: c12q267 :: c12q275 :: c12q283 :: c12q292 :: c12q301 :: c12q310 :: c12q319 :: c12q328 :: c12q336 :: c12q344 :: c12q353 :: c12q362 :: c12q370 :: []) α0 = α at hP1 hi1 hA1
  have a120 : α 120 = α0 120 := by rw [← hα]; rfl
  have a0 : α 0 = q0 := by rw [← hα]; rfl
  have a10 : α 10 = q8 := by rw [← hα]; rfl
  have hE1 : k_ext α (fun q => s.heap.size ≤ q) s s.heap := k_ext.al (fun i hi => by rw [← hα]; unfold g_al; rw [if_neg (by omega)]) hE
  have hxs : ∀ j : Int, i32 (xs j.toNat).toInt := fun j => ⟨Int32.le_toInt _, Int32.toInt_lt _⟩
  obtain ⟨⟨r, τ⟩, hF1, hr1⟩ := law_true (nS := (L : Int)) (xS := fun j => (xs j.toNat).toInt) ⟨by omega, by omega⟩ hxs
  have hX1 : kOk ((p, l, e, room_1), (s, m, #[Value.ref (α0 120)], below), (meth, c), (D, K, α, fun q => s.heap.size ≤ q), (lw_Z below #[Value.ref (α0 120)] s, 68, 24347, 4)) 2048 code 4 "KeyPathLaw" :=
    ⟨hx, hb, hml, rfl, hown, b_tab hts, ⟨by decide, by decide, by decide, by decide⟩, hK, fun q h => h, hA1, hi1, hE1⟩
  have hR1 : kRetL ((p, l, e, room_1), (s, m, #[Value.ref (α0 120)], below), (meth, c), (D, K, α, fun q => s.heap.size ≤ q), (lw_Z below #[Value.ref (α0 120)] s, 68, 24347, 4)) (L : Int) (fun j => (xs j.toNat).toInt) (r, τ) := by
    refine ⟨⟨L, rfl, by omega, ?_, by rw [a120]; exact hbl, by rw [a120]; exact Nat.not_le.mpr hbl⟩, hr1, hr, hlocks, rfl, by rw [a120], rfl, by decide, by decide, by rw [a120]⟩
    have e9 : (fun j : Nat => c32 ((fun j : Int => (xs j.toNat).toInt) (j : Int))) = xs := by
      funext j
      show c32 (xs (j : Int).toNat).toInt = xs j
      rw [c32_of, Int.toNat_natCast]
    rw [a120, e9]
    exact hXs
  refine tLaw_law_120_L18 (q := (r, τ)) (Θ := fun z => z = (r, τ)) hX1 hR1 0 s0 (fun z h => h) (r, τ) hF1 rfl H locs ls hP1 hS ⟨hL.1, hL.2.1, rfl, fun i v hi => ?_⟩
  match i, hi with
  | 0, hi =>
    cases hi
    show _ = some (Slot.val (.ref (α 120)))
    rw [a120]
    exact hL.2.2 (0, .ref (α0 120)) (by simp)
  | 1, hi =>
    cases hi
    show _ = some (Slot.val (.ref (α 0)))
    rw [a0]
    exact hL.2.2 (1, .ref q0) (by simp)
  | 2, hi =>
    cases hi
    show _ = some (Slot.val (.ref (α 10)))
    rw [a10]
    exact hL.2.2 (2, .ref q8) (by simp)
  | 3, hi =>
    cases hi
    exact hL.2.2 (3, .int (c32 0)) (by simp)
  | n + 4, hi => cases hi
