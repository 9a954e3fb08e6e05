/-! ===== histories ===== -/
def hnS (n : Nat) : Nat := if n < 10 then n + 1 else 10
def hpS (n : Nat) (H : Nat → NL) (B : NL) : Nat → NL := fun j => if n < 10 then (if j ≤ n then H j else B) else (if j < 10 then H (j + 1) else B)
theorem hpS_a {n : Nat} {H : Nat → NL} {B : NL} (c : n < 10) {j : Nat} (h : j ≤ n) : hpS n H B j = H j := by
  unfold hpS
  rw [if_pos c, if_pos h]
theorem hpS_b {n : Nat} {H : Nat → NL} {B : NL} (c : n < 10) : hpS n H B (n + 1) = B := by
  unfold hpS
  rw [if_pos c, if_neg (by omega)]
theorem hpS_c {n : Nat} {H : Nat → NL} {B : NL} (c : ¬ n < 10) {j : Nat} (h : j < 10) : hpS n H B j = H (j + 1) := by
  unfold hpS
  rw [if_neg c, if_pos h]
theorem hpS_d {n : Nat} {H : Nat → NL} {B : NL} (c : ¬ n < 10) : hpS n H B 10 = B := by
  unfold hpS
  rw [if_neg c, if_neg (by omega)]
def opOK (k q t l p : Int) (A B : NL) : Prop := (k = 0 ∧ (0 ≤ q ∧ q < A.1) ∧ nEq (rvS A q) B) ∨ (k = 1 ∧ (0 ≤ q ∧ q ≤ A.1 ∧ A.1 < 100) ∧ nEq (inS A q t l p) B) ∨ (k = 2 ∧ nEq (mvN A (-p)) B)
def hC (n : Nat) (H : Nat → NL) (σ : KM) : Prop := σ 4 5 = n ∧ ∀ j : Nat, j < n → opOK (σ 19 j) (σ 20 j) (σ 21 j) (σ 22 j) (σ 23 j) (H (j + 1)) (H j)
def snpS (σ : KM) (j : Nat) (A : NL) : Prop := σ 51 (301 * (j : Int)) = A.1 ∧ ∀ k : Int, 0 ≤ k → k < A.1 → σ 51 (301 * (j : Int) + 1 + k) = A.2.1 k ∧ σ 51 (301 * (j : Int) + 101 + k) = A.2.2.1 k ∧ σ 51 (301 * (j : Int) + 201 + k) = A.2.2.2 k
def hM (n : Nat) (H : Nat → NL) (σ : KM) : Prop := σ 10 10 = n ∧ ∀ j : Nat, j < n → snpS σ j (H j)
theorem hC.fr {n : Nat} {H : Nat → NL} {W : List (Nat × Option Int)} {σ τ : KM} (h : hC n H σ) (hf : kFr W σ τ) (hk : kKeep W [19, 20, 21, 22, 23] [(4, 5)] = true) : hC n H τ := by
  have c19 := kKeep.cell hk hf (c := 19) (by decide)
  have c20 := kKeep.cell hk hf (c := 20) (by decide)
  have c21 := kKeep.cell hk hf (c := 21) (by decide)
  have c22 := kKeep.cell hk hf (c := 22) (by decide)
  have c23 := kKeep.cell hk hf (c := 23) (by decide)
  have f45 := kKeep.fld hk hf (c := 4) (i := 5) (by decide)
  unfold hC
  rw [c19, c20, c21, c22, c23, f45]
  exact h
theorem hM.fr {n : Nat} {H : Nat → NL} {W : List (Nat × Option Int)} {σ τ : KM} (h : hM n H σ) (hf : kFr W σ τ) (hk : kKeep W [51] [(10, 10)] = true) : hM n H τ := by
  have c51 := kKeep.cell hk hf (c := 51) (by decide)
  have f := kKeep.fld hk hf (c := 10) (i := 10) (by decide)
  unfold hM snpS
  rw [c51, f]
  exact h
theorem P_remember {n : Nat} {H : Nat → NL} {σ : KM} (h : hC n H σ) (hn : n ≤ 10) {k q t l p : Int} {B : NL} (ho : opOK k q t l p B (H n)) : kT (fHi_remember k q t l p σ) (fun z => hC (hnS n) (hpS n H B) z.2) := by
  unfold fHi_remember
  rw [h.1]
  by_cases c : n < 10
  · refine kT_ltt (by omega) (by omega) ?_
    unfold fHi_remember_J13
    have e : ∀ (τ : KM), τ 4 = σ 4 → τ 4 5 = (n : Int) := fun τ h4 => by rw [h4]; exact h.1
    rw [h.1]
    refine kT_wr (by omega) ?_
    rw [e (ks σ 19 n k) rfl]
    refine kT_wr (by omega) ?_
    rw [e (ks (ks σ 19 n k) 20 n q) rfl]
    refine kT_wr (by omega) ?_
    rw [e (ks (ks (ks σ 19 n k) 20 n q) 21 n t) rfl]
    refine kT_wr (by omega) ?_
    rw [e (ks (ks (ks (ks σ 19 n k) 20 n q) 21 n t) 22 n l) rfl]
    refine kT_wr (by omega) (kT_wf (kT_ri ?_))
    dsimp only
    unfold hnS
    rw [if_pos c]
    refine ⟨?_, fun j hj => ?_⟩
    · rw [ks_s]
      show σ 4 5 + 1 = _
      rw [h.1]
      omega
    · show opOK (ks σ 19 n k 19 j) (ks σ 20 n q 20 j) (ks σ 21 n t 21 j) (ks σ 22 n l 22 j) (ks σ 23 n p 23 j) _ _
      by_cases ej : j = n
      · rw [ej, ks_s, ks_s, ks_s, ks_s, ks_s, hpS_b c, hpS_a c (by omega)]
        exact ho
      · rw [ks_i (by omega), ks_i (by omega), ks_i (by omega), ks_i (by omega), ks_i (by omega), hpS_a c (by omega), hpS_a c (by omega)]
        exact h.2 j (by omega)
  · have n10 : n = 10 := by omega
    subst n10
    refine kT_ltf (by omega) (by omega) ?_
    unfold fHi_forgetOldest
    refine kT_call (kT_wf ?_)
    have e : ∀ (τ : KM), τ 4 = ks σ 4 5 9 4 → τ 4 5 = 9 := fun τ h4 => by rw [h4]; exact ks_s _ _ _ _
    rw [ks_s]
    refine kT_cpy (by omega) ?_
    rw [e (kCp (ks σ 4 5 9) 19 19 1 0 9) rfl]
    refine kT_cpy (by omega) ?_
    rw [e (kCp (kCp (ks σ 4 5 9) 19 19 1 0 9) 20 20 1 0 9) rfl]
    refine kT_cpy (by omega) ?_
    rw [e (kCp (kCp (kCp (ks σ 4 5 9) 19 19 1 0 9) 20 20 1 0 9) 21 21 1 0 9) rfl]
    refine kT_cpy (by omega) ?_
    rw [e (kCp (kCp (kCp (kCp (ks σ 4 5 9) 19 19 1 0 9) 20 20 1 0 9) 21 21 1 0 9) 22 22 1 0 9) rfl]
    refine kT_cpy (by omega) (kT_ri ?_)
    dsimp only
    generalize hM : kCp (kCp (kCp (kCp (kCp (ks σ 4 5 9) 19 19 1 0 9) 20 20 1 0 9) 21 21 1 0 9) 22 22 1 0 9) 23 23 1 0 9 = M
    have e2 : ∀ (τ : KM), τ 4 = M 4 → τ 4 5 = 9 := fun τ h4 => by rw [h4, ← hM]; show ks σ 4 5 9 4 5 = 9; exact ks_s _ _ _ _
    have sh : ∀ c : Nat, c = 19 ∨ c = 20 ∨ c = 21 ∨ c = 22 ∨ c = 23 → ∀ j : Nat, j < 9 → M c j = σ c ((j + 1 : Nat) : Int) := by
      intro c hc j hj
      have q : ∀ d : Nat, (if (0 : Int) ≤ j ∧ (j : Int) < 0 + 9 then σ d (1 + ((j : Int) - 0)) else σ d j) = σ d ((j + 1 : Nat) : Int) := fun d => by
        rw [if_pos (by omega), show (1 : Int) + ((j : Int) - 0) = ((j + 1 : Nat) : Int) by omega]
      rcases hc with rfl | rfl | rfl | rfl | rfl
      · rw [← hM, ← q 19]; simp only [ks_ap, kCp_ap, and_true, true_and, and_false, false_and, and_self, if_true, if_false, reduceIte, Nat.reduceEqDiff, Int.reduceEq]
      · rw [← hM, ← q 20]; simp only [ks_ap, kCp_ap, and_true, true_and, and_false, false_and, and_self, if_true, if_false, reduceIte, Nat.reduceEqDiff, Int.reduceEq]
      · rw [← hM, ← q 21]; simp only [ks_ap, kCp_ap, and_true, true_and, and_false, false_and, and_self, if_true, if_false, reduceIte, Nat.reduceEqDiff, Int.reduceEq]
      · rw [← hM, ← q 22]; simp only [ks_ap, kCp_ap, and_true, true_and, and_false, false_and, and_self, if_true, if_false, reduceIte, Nat.reduceEqDiff, Int.reduceEq]
      · rw [← hM, ← q 23]; simp only [ks_ap, kCp_ap, and_true, true_and, and_false, false_and, and_self, if_true, if_false, reduceIte, Nat.reduceEqDiff, Int.reduceEq]
    unfold fHi_remember_J13
    rw [e2 M rfl]
    refine kT_wr (by omega) ?_
    rw [e2 (ks M 19 9 k) rfl]
    refine kT_wr (by omega) ?_
    rw [e2 (ks (ks M 19 9 k) 20 9 q) rfl]
    refine kT_wr (by omega) ?_
    rw [e2 (ks (ks (ks M 19 9 k) 20 9 q) 21 9 t) rfl]
    refine kT_wr (by omega) ?_
    rw [e2 (ks (ks (ks (ks M 19 9 k) 20 9 q) 21 9 t) 22 9 l) rfl]
    refine kT_wr (by omega) (kT_wf (kT_ri ?_))
    dsimp only
    unfold hnS
    rw [if_neg c]
    refine ⟨?_, fun j hj => ?_⟩
    · rw [ks_s, e2 (ks (ks (ks (ks (ks M 19 9 k) 20 9 q) 21 9 t) 22 9 l) 23 9 p) rfl]
      rfl
    · show opOK (ks M 19 9 k 19 j) (ks M 20 9 q 20 j) (ks M 21 9 t 21 j) (ks M 22 9 l 22 j) (ks M 23 9 p 23 j) _ _
      by_cases ej : j = 9
      · subst ej
        rw [hpS_d c, hpS_c c (by omega)]
        show opOK (ks M 19 9 k 19 9) (ks M 20 9 q 20 9) (ks M 21 9 t 21 9) (ks M 22 9 l 22 9) (ks M 23 9 p 23 9) _ _
        rw [ks_s, ks_s, ks_s, ks_s, ks_s]
        exact ho
      · rw [ks_i (by omega), ks_i (by omega), ks_i (by omega), ks_i (by omega), ks_i (by omega), hpS_c c (by omega), hpS_c c (by omega)]
        rw [sh 19 (by omega) j (by omega), sh 20 (by omega) j (by omega), sh 21 (by omega) j (by omega), sh 22 (by omega) j (by omega), sh 23 (by omega) j (by omega)]
        exact h.2 (j + 1) (by omega)
/-- what is taken back -/
theorem P_takeBack {n : Nat} {H : Nat → NL} {σ : KM} (h : hC (n + 1) H σ) (hn : n + 1 ≤ 10) (hA : cNt (H (n + 1)) σ) (hv : vN (H (n + 1))) : kT (fHi_takeBack σ) (fun z => hC n H z.2 ∧ cNt (H n) z.2) := by
  have n100 := hv.1
  unfold fHi_takeBack fHi_takeBack_J117
  rw [h.1]
  refine kT_ltf (by omega) (by omega) (kT_wf ?_)
  rw [show ((n + 1 : Nat) : Int) - 1 = n by omega]
  have e4 : ks σ 4 5 n 4 5 = (n : Int) := ks_s _ _ _ _
  have hh : hC n H (ks σ 4 5 n) := ⟨e4, fun j hj => h.2 j (by omega)⟩
  have hA1 : cNt (H (n + 1)) (ks σ 4 5 n) := hA
  have ho : opOK (ks σ 4 5 n 19 n) (ks σ 4 5 n 20 n) (ks σ 4 5 n 21 n) (ks σ 4 5 n 22 n) (ks σ 4 5 n 23 n) (H (n + 1)) (H n) := h.2 n (by omega)
  generalize ks σ 4 5 n = M at e4 hh hA1 ho ⊢
  rw [e4]
  refine kT_rd (by omega) ?_
  rcases ho with ⟨h0, hq, he⟩ | ⟨h0, hq, he⟩ | ⟨h0, he⟩
  · refine kT_eqt h0 (by omega) (kT_rd (by omega) ?_)
    refine kT_callT (kT.fr (P_remove hA1 n100 hq) (rfNo_remove _ _)) (fun r τ hz => ?_)
    obtain ⟨z1, z2⟩ := hz
    dsimp only at z1 z2
    exact kT_ri ⟨hh.fr z2 rfl, kN_eq z1 he⟩
  · refine kT_eqf (by omega) (by omega) (by omega) (kT_rd (by omega) (kT_eqt h0 (by omega) (kT_rd (by omega) (kT_rd (by omega) (kT_rd (by omega) (kT_rd (by omega) ?_))))))
    refine kT_callT (kT.fr (P_insert hA1 hq.2.2 (q := M 20 n) ⟨hq.1, hq.2.1⟩) (rfNo_insert _ _ _ _ _)) (fun r τ hz => ?_)
    obtain ⟨z1, z2⟩ := hz
    dsimp only at z1 z2
    exact kT_ri ⟨hh.fr z2 rfl, kN_eq z1 he⟩
  · refine kT_eqf (by omega) (by omega) (by omega) (kT_rd (by omega) (kT_eqf (by omega) (by omega) (by omega) (kT_rd (by omega) ?_)))
    refine kT_callT (kT.fr (P_move hA1 n100 _) (rfNo_move _ _)) (fun r τ hz => ?_)
    obtain ⟨z1, z2⟩ := hz
    dsimp only at z1 z2
    exact kT_ri ⟨hh.fr z2 rfl, kN_eq z1 he⟩
/-! the reference -/
theorem snpS_k {σ τ : KM} {j : Nat} {A : NL} (h : snpS σ j A) (hA : A.1 ≤ 100) (he : ∀ c : Int, 301 * (j : Int) ≤ c → c < 301 * (j : Int) + 301 → τ 51 c = σ 51 c) : snpS τ j A := by
  refine ⟨by rw [he _ (by omega) (by omega)]; exact h.1, fun k a c => ?_⟩
  rw [he _ (by omega) (by omega), he _ (by omega) (by omega), he _ (by omega) (by omega)]
  exact h.2 k a c
theorem M_notesAct {n : Nat} {H : Nat → NL} {σ : KM} (h : hM n H σ) (hn : n ≤ 10) (hA : mNt (H n) σ) (hv : ∀ j : Nat, j ≤ n → vN (H j)) (B : NL) : kT (fM_notesAct σ) (fun z => hM (hnS n) (hpS n H B) z.2) := by
  -- writing the snapshot n', with those ahead of it standing
  have main : ∀ (m : Nat) (G : Nat → NL) (M : KM), m < 10 → M 10 10 = m → (∀ j : Nat, j < m → snpS M j (G j)) → (∀ j : Nat, j < m → (G j).1 ≤ 100) → mNt (G m) M → (G m).1 ≤ 100 → kT (fM_notesAct_J50 M) (fun z => z.2 10 10 = ((m + 1 : Nat) : Int) ∧ ∀ j : Nat, j < m + 1 → snpS z.2 j (G j)) := by
    intro m G M hm m10 hs hg hN hg2
    unfold fM_notesAct_J50 fM_notesAct_L71
    rw [m10, hN.1]
    refine kT_let (kT_wr (by omega) ?_)
    refine kT_for (fun i s => ∃ T : KM, s = ((i : Int), T) ∧ T 10 = M 10 ∧ T 45 = M 45 ∧ T 46 = M 46 ∧ T 47 = M 47 ∧ (∀ c : Int, c < 301 * (m : Int) → T 51 c = M 51 c) ∧ T 51 (301 * (m : Int)) = (G m).1 ∧ ∀ k : Int, 0 ≤ k → k < i → T 51 (301 * (m : Int) + 1 + k) = M 45 k ∧ T 51 (301 * (m : Int) + 101 + k) = M 46 k ∧ T 51 (301 * (m : Int) + 201 + k) = M 47 k) 100 ?_ ?_ 0 (by omega) kF _ ⟨_, rfl, rfl, rfl, rfl, rfl, fun c hc => ks_i (by omega), ks_s _ _ _ _, fun k _ h => by omega⟩ (kF_lt (by omega))
    · rintro i s hi ⟨T, rfl, t10, t45, t46, t47, ta, tb, tc⟩
      show kT (fM_notesAct_B71 (301 * (m : Int)) i T) _
      unfold fM_notesAct_B71
      refine kT_ltt (by omega) (by omega) (kT_rd (by omega) (kT_wr (by omega) (kT_rd (by omega) (kT_wr (by omega) (kT_rd (by omega) (kT_wr (by omega) (kT_let (kT_inl ⟨_, rfl, t10, t45, t46, t47, fun c hc => ?_, ?_, fun k a c => ?_⟩))))))))
      · rw [ks_i (by omega), ks_i (by omega), ks_i (by omega)]; exact ta c hc
      · rw [ks_i (by omega), ks_i (by omega), ks_i (by omega)]; exact tb
      · by_cases e : k = i
        · subst e
          refine ⟨?_, ?_, ?_⟩
          · rw [ks_i (by omega), ks_i (by omega), ks_s, t45]
          · rw [ks_i (by omega), ks_s, ← t46]; rfl
          · rw [ks_s, ← t47]; rfl
        · have q := tc k a (by omega)
          refine ⟨?_, ?_, ?_⟩
          · rw [ks_i (by omega), ks_i (by omega), ks_i (by omega)]; exact q.1
          · rw [ks_i (by omega), ks_i (by omega), ks_i (by omega)]; exact q.2.1
          · rw [ks_i (by omega), ks_i (by omega), ks_i (by omega)]; exact q.2.2
    · rintro s ⟨T, rfl, t10, t45, t46, t47, ta, tb, tc⟩
      show kT (fM_notesAct_B71 (301 * (m : Int)) 100 T) _
      unfold fM_notesAct_B71 fM_notesAct_J134
      rw [t10, m10]
      refine kT_ltf (by omega) (by omega) (kT_exit (kT_wf (kT_ri ⟨?_, fun j hj => ?_⟩)))
      · dsimp only
        rw [ks_s]
        omega
      · show snpS T j (G j)
        by_cases e : j = m
        · subst e
          refine ⟨tb, fun k a c => ?_⟩
          have q := tc k a (by omega)
          rw [q.1, q.2.1, q.2.2]
          exact hN.2 k a c
        · exact snpS_k (hs j (by omega)) (hg j (by omega)) (fun c c0 c1 => ta c (by omega))
  unfold fM_notesAct
  rw [h.1]
  by_cases c : n < 10
  · refine kT_eqf (by omega) (by omega) (by omega) ?_
    refine (main n H σ c h.1 h.2 (fun j hj => (hv j (by omega)).1) hA (hv n (by omega)).1).mono (fun z hz => ?_)
    unfold hnS
    rw [if_pos c]
    refine ⟨hz.1, fun j hj => ?_⟩
    rw [hpS_a c (by omega)]
    exact hz.2 j hj
  · have n10 : n = 10 := by omega
    subst n10
    refine kT_eqt (by omega) (by omega) ?_
    unfold fM_notesAct_L11
    refine kT_for (fun i s => ∃ T : KM, s = ((i : Int), T) ∧ T 10 = σ 10 ∧ T 45 = σ 45 ∧ T 46 = σ 46 ∧ T 47 = σ 47 ∧ (∀ c : Int, 0 ≤ c → c < i → T 51 c = σ 51 (c + 301)) ∧ ∀ c : Int, i ≤ c → T 51 c = σ 51 c) 2709 ?_ ?_ 0 (by omega) kF _ ⟨σ, rfl, rfl, rfl, rfl, rfl, fun c _ h => by omega, fun c _ => rfl⟩ (kF_lt (by omega))
    · rintro i s hi ⟨T, rfl, t10, t45, t46, t47, ta, tb⟩
      show kT (fM_notesAct_B11 i T) _
      unfold fM_notesAct_B11
      refine kT_ltt (by omega) (by omega) (kT_rd (by omega) (kT_wr (by omega) (kT_let (kT_inl ⟨_, rfl, t10, t45, t46, t47, fun c c0 c1 => ?_, fun c c0 => ?_⟩))))
      · by_cases e : c = i
        · rw [e, ks_s, tb _ (by omega)]
        · rw [ks_i e]; exact ta c c0 (by omega)
      · rw [ks_i (by omega)]; exact tb c (by omega)
    · rintro s ⟨T, rfl, t10, t45, t46, t47, ta, tb⟩
      show kT (fM_notesAct_B11 2709 T) _
      unfold fM_notesAct_B11 fM_notesAct_J40
      rw [t10, h.1]
      refine kT_ltf (by omega) (by omega) (kT_exit (kT_wf ?_))
      refine (main 9 (fun j => H (j + 1)) (ks T 10 10 (((10 : Nat) : Int) - 1)) (by omega) (by rw [ks_s]; rfl) (fun j hj => ?_) (fun j hj => (hv (j + 1) (by omega)).1) ?_ (hv 10 (by omega)).1).mono (fun z hz => ?_)
      · have q := h.2 (j + 1) (by omega)
        have r := (hv (j + 1) (by omega)).1
        show snpS T j (H (j + 1))
        refine ⟨?_, fun k a d => ?_⟩
        · rw [ta _ (by omega) (by omega), show 301 * (j : Int) + 301 = 301 * ((j + 1 : Nat) : Int) by omega]; exact q.1
        · rw [ta _ (by omega) (by omega), ta _ (by omega) (by omega), ta _ (by omega) (by omega), show 301 * (j : Int) + 1 + k + 301 = 301 * ((j + 1 : Nat) : Int) + 1 + k by omega, show 301 * (j : Int) + 101 + k + 301 = 301 * ((j + 1 : Nat) : Int) + 101 + k by omega, show 301 * (j : Int) + 201 + k + 301 = 301 * ((j + 1 : Nat) : Int) + 201 + k by omega]
          exact q.2 k a d
      · show kN (ks T 10 10 _) 10 7 45 46 47 (H 10).1 (H 10).2.1 (H 10).2.2.1 (H 10).2.2.2
        refine ⟨?_, fun i a d => ?_⟩
        · rw [ks_i (by decide), t10]; exact hA.1
        · show T 45 i = _ ∧ T 46 i = _ ∧ T 47 i = _
          rw [t45, t46, t47]
          exact hA.2 i a d
      · unfold hnS
        rw [if_neg c]
        refine ⟨hz.1, fun j hj => ?_⟩
        rw [hpS_c c (by omega)]
        exact hz.2 j hj
theorem M_comes {A : NL} {σ : KM} (h : mNt A σ) (hv : vN A) (hn : A.1 < 100) {t l p : Int} (ht : i32 t) (hl : i32 l) (hp : i32 p) : kT (fM_comes t l p σ) (fun z => z.1 = (plS A t l p A.1 : Int) ∧ mNt (inS A (plS A t l p A.1) t l p) z.2) := by
  have n100 := hv.1
  have pr := plS_r A t l p A.1
  unfold i32 at ht hl hp
  unfold fM_comes fM_comes_L6
  rw [h.1]
  refine kT_let ?_
  refine kT_iter (fun n s => ∃ M : KM, s = ((n : Int), M) ∧ n ≤ A.1 ∧ plS A t l p A.1 = plS A t l p n ∧ M 10 7 = A.1 ∧ (∀ j : Int, 0 ≤ j → j < n → M 45 j = A.2.1 j ∧ M 46 j = A.2.2.1 j ∧ M 47 j = A.2.2.2 j) ∧ ∀ j : Int, n < j → j ≤ A.1 → M 45 j = A.2.1 (j - 1) ∧ M 46 j = A.2.2.1 (j - 1) ∧ M 47 j = A.2.2.2 (j - 1)) ?_ kF A.1 _ ⟨σ, rfl, Nat.le_refl _, rfl, h.1, h.2, fun j a c => by omega⟩ (kF_lt (by omega))
  rintro n s ⟨M, rfl, hnA, he, m7, h1, h2⟩
  have fin : plS A t l p A.1 = n → kT (fM_comes_J130 t l p n M) (fun z => z.1 = (plS A t l p A.1 : Int) ∧ mNt (inS A (plS A t l p A.1) t l p) z.2) := by
    intro en
    rw [en]
    unfold fM_comes_J130
    refine kT_wr (by omega) (kT_wr (by omega) (kT_wr (by omega) (kT_wf (kT_ri ⟨rfl, ?_, fun i a c => ?_⟩))))
    · dsimp only
      rw [ks_s]
      show M 10 7 + 1 = ((A.1 + 1 : Nat) : Int)
      rw [m7]
      omega
    · have c' : i < ((A.1 + 1 : Nat) : Int) := c
      show ks M 45 n t 45 i = inF A.2.1 n t i ∧ ks M 46 n l 46 i = inF A.2.2.1 n l i ∧ ks M 47 n p 47 i = inF A.2.2.2 n p i
      unfold inF
      by_cases e : i = n
      · rw [e, ks_s, ks_s, ks_s, if_neg (by omega), if_pos rfl, if_neg (by omega), if_pos rfl, if_neg (by omega), if_pos rfl]
        exact ⟨rfl, rfl, rfl⟩
      · rw [ks_i e, ks_i e, ks_i e]
        by_cases e2 : i < n
        · rw [if_pos e2, if_pos e2, if_pos e2]; exact h1 i a e2
        · rw [if_neg e2, if_neg e, if_neg e2, if_neg e, if_neg e2, if_neg e]; exact h2 i (by omega) (by omega)
  show kT (fM_comes_B6 t l p n M) _
  unfold fM_comes_B6
  cases n with
  | zero =>
    exact kT_ltf (by omega) (by omega) (kT_exit (fin (by rw [he, plS])))
  | succ n =>
    have q := h1 n (by omega) (by omega)
    have g := hv.2 n (by omega) (by omega)
    have go : bhN A n t l p → kT (fM_comes_J76 t l p ((n + 1 : Nat) : Int) M) (kS (fun s' => ∃ m, m < n + 1 ∧ ∃ M : KM, s' = ((m : Int), M) ∧ m ≤ A.1 ∧ plS A t l p A.1 = plS A t l p m ∧ M 10 7 = A.1 ∧ (∀ j : Int, 0 ≤ j → j < m → M 45 j = A.2.1 j ∧ M 46 j = A.2.2.1 j ∧ M 47 j = A.2.2.2 j) ∧ ∀ j : Int, m < j → j ≤ A.1 → M 45 j = A.2.1 (j - 1) ∧ M 46 j = A.2.2.1 (j - 1) ∧ M 47 j = A.2.2.2 (j - 1)) (fun z => z.1 = (plS A t l p A.1 : Int) ∧ mNt (inS A (plS A t l p A.1) t l p) z.2)) := by
      intro hb
      unfold fM_comes_J76
      rw [show ((n + 1 : Nat) : Int) - 1 = n by omega]
      refine kT_rd (by omega) (kT_wr (by omega) (kT_rd (by omega) (kT_wr (by omega) (kT_rd (by omega) (kT_wr (by omega) (kT_let (kT_inl ⟨n, by omega, _, Prod.ext (show ((n + 1 : Nat) : Int) + -1 = n by omega) rfl, by omega, ?_, ?_, fun j a c => ?_, fun j a c => ?_⟩)))))))
      · rw [he, plS, if_pos hb]
      · exact m7
      · show ks M 45 _ _ 45 j = _ ∧ ks M 46 _ _ 46 j = _ ∧ ks M 47 _ _ 47 j = _
        rw [ks_i (by omega), ks_i (by omega), ks_i (by omega)]
        exact h1 j a (by omega)
      · show ks M 45 _ (M 45 n) 45 j = _ ∧ ks M 46 _ (M 46 n) 46 j = _ ∧ ks M 47 _ (M 47 n) 47 j = _
        by_cases e : j = ((n + 1 : Nat) : Int)
        · rw [e, ks_s, ks_s, ks_s, show ((n + 1 : Nat) : Int) - 1 = n by omega]
          exact q
        · rw [ks_i e, ks_i e, ks_i e]
          exact h2 j (by omega) c
    have no : ¬ bhN A n t l p → plS A t l p A.1 = n + 1 := fun hb => by rw [he, plS, if_neg hb]
    rw [show ((n + 1 : Nat) : Int) - 1 = n by omega]
    refine kT_ltt (by omega) (by omega) (kT_rd (by omega) ?_)
    rw [q.1]
    refine kT_lt (by omega) (by omega) (fun c => go (by omega)) (fun c => kT_rd (by omega) ?_)
    rw [q.1]
    refine kT_eq (by omega) (by omega) (fun c2 => kT_rd (by omega) ?_) (fun c2 => kT_exit (fin (no (by omega))))
    rw [q.2.2]
    refine kT_lt (by omega) (by omega) (fun c3 => go (by omega)) (fun c3 => kT_rd (by omega) ?_)
    rw [q.2.2]
    refine kT_eq (by omega) (by omega) (fun c4 => kT_rd (by omega) ?_) (fun c4 => kT_exit (fin (no (by omega))))
    rw [q.2.1]
    exact kT_lt (by omega) (by omega) (fun c5 => go (by omega)) (fun c5 => kT_exit (fin (no (by omega))))
