/-! ===== through, unsure ===== -/
theorem ahS_r {X : KX} (hv : xV X) : ∀ (w : Nat) (k : Int), 0 ≤ k → k < 24 → ahS X w k = 1000000000 ∨ (0 ≤ ahS X w k ∧ ahS X w k ≤ 1209900 * ((w : Int) + 1))
  | 0, k, a, c => by
    have := hv.2.1 0 k a c
    rw [ahS]
    omega
  | w + 1, k, a, c => by
    have h1 := hv.2.1 ((w : Int) + 1) k a c
    rw [ahS]
    have h2 : (if xk X ((w : Int) + 1) = 1 then ahS X w k else mnS (fun o => addS (ahS X w o) (xs X o k)) 24) = 1000000000 ∨ (0 ≤ (if xk X ((w : Int) + 1) = 1 then ahS X w k else mnS (fun o => addS (ahS X w o) (xs X o k)) 24) ∧ (if xk X ((w : Int) + 1) = 1 then ahS X w k else mnS (fun o => addS (ahS X w o) (xs X o k)) 24) ≤ 1209900 * ((w : Int) + 1) + 1200000) := by
      split
      · have := ahS_r hv w k a c
        omega
      · rcases mnS_at (fun o => addS (ahS X w o) (xs X o k)) 24 with e | ⟨o, ho, e⟩
        · exact Or.inl e
        · rw [← e]
          have h3 := ahS_r hv w o ho.1 (by omega)
          have h4 := hv.2.2.2.1 o k ho.1 (by omega) a c
          unfold addS
          split <;> omega
    generalize (if xk X ((w : Int) + 1) = 1 then ahS X w k else mnS (fun o => addS (ahS X w o) (xs X o k)) 24) = v at h2 ⊢
    unfold addS
    split <;> omega
theorem mv_r {X : KX} (hv : xV X) {g : Int → Int} {B k : Int} (hk : 0 ≤ k ∧ k < 24) (hg : ∀ o, 0 ≤ o → o < 24 → g o = 1000000000 ∨ (0 ≤ g o ∧ g o ≤ B)) (j : Nat) (hj : j ≤ 24) : mnS (fun o => addS (g o) (xs X o k)) j = 1000000000 ∨ (0 ≤ mnS (fun o => addS (g o) (xs X o k)) j ∧ mnS (fun o => addS (g o) (xs X o k)) j ≤ B + 1200000) := by
  rcases mnS_at (fun o => addS (g o) (xs X o k)) j with e | ⟨o, ho, e⟩
  · exact Or.inl e
  · rw [← e]
    have h3 := hg o ho.1 (by omega)
    have h4 := hv.2.2.2.1 o k ho.1 (by omega) hk.1 hk.2
    unfold addS
    split <;> omega
theorem P_cheapestMove_41 {X : KX} (hv : xV X) {σ : KM} (h36 : stC X σ) {g : Int → Int} {row k : Int} (hk : 0 ≤ k ∧ k < 24) (hr : 0 ≤ row ∧ row ≤ 1128) (hg : ∀ o, 0 ≤ o → o < 24 → g o = 1000000000 ∨ (0 ≤ g o ∧ g o ≤ 400000000)) (h : ∀ o, 0 ≤ o → o < 24 → σ 41 (row + o) = g o) : fDe_cheapestMove_41 row k σ = some (mnS (fun o => addS (g o) (xs X o k)) 24, σ) := by
  refine kP ?_ (rfDe_cheapestMove_41 row k σ)
  unfold fDe_cheapestMove_41 fDe_cheapestMove_41_L7
  refine kT_for (fun i s => s = (mnS (fun o => addS (g o) (xs X o k)) i, (i : Int), σ)) 24 ?_ ?_ 0 (by omega) kF _ rfl (kF_lt (by omega))
  · rintro i s hi rfl
    have rm := mv_r hv hk hg i (by omega)
    have rg := hg i (by omega) (by omega)
    have rs := hv.2.2.2.1 i k (by omega) (by omega) hk.1 hk.2
    show kT (fDe_cheapestMove_41_B7 row k (mnS (fun o => addS (g o) (xs X o k)) i) i σ) _
    unfold fDe_cheapestMove_41_B7
    refine kT_ltt (by omega) (by omega) (kT_rd (by omega) (kT_rd (by omega) ?_))
    rw [h i (by omega) (by omega), h36 i k (by omega) (by omega) hk.1 hk.2]
    refine kT_mn (by omega) (by omega) (kT_let (kT_inl ?_))
    have pv : (g i = 1000000000 ∧ addS (g i) (xs X i k) = 1000000000) ∨ (g i < 1000000000 ∧ addS (g i) (xs X i k) = g i + xs X i k) := by
      unfold addS
      by_cases cc : g i < 1000000000
      · rw [if_pos ⟨cc, by omega⟩]; omega
      · rw [if_neg (by omega)]; omega
    have ml := mnS_le (fun o => addS (g o) (xs X o k)) i
    by_cases c : g i + xs X i k < mnS (fun o => addS (g o) (xs X o k)) i
    · rw [if_pos c, mnS_t (by omega)]
      rw [show addS (g i) (xs X i k) = g i + xs X i k by omega]
      rfl
    · rw [if_neg c, mnS_f (by omega)]
      rfl
  · rintro s rfl
    have rm := mv_r hv hk hg 24 (by omega)
    show kT (fDe_cheapestMove_41_B7 row k (mnS (fun o => addS (g o) (xs X o k)) 24) 24 σ) _
    unfold fDe_cheapestMove_41_B7 fDe_cheapestMove_41_J46
    exact kT_ltf (by omega) (by omega) (kT_exit (kT_ri rfl))
theorem P_lookAhead {X : KX} (hv : xV X) {σ : KM} (hx : xC X σ) (h36 : stC X σ) (hk0 : xk X 0 = 0) (h91 : σ 9 1 = 0) : kT (fDe_lookAhead σ) (fun z => ahOK X z.2 ∧ z.2 9 1 = 1) := by
  have hn := hv.1
  unfold fDe_lookAhead fDe_lookAhead_L10
  rw [h91]
  refine kT_eqt rfl (by omega) ?_
  refine kT_for (fun i s => ∃ M : KM, s = ((i : Int), M) ∧ kFr wfDe_lookAhead σ M ∧ ∀ (w : Nat) (k : Int), w < i → 0 ≤ k → k < 24 → M 41 ((w : Int) * 24 + k) = ahS X w k) (xn X) ?_ ?_ 0 (by omega) kF _ ⟨σ, rfl, kFr.rf, fun w k h => by omega⟩ (kF_lt (by omega))
  · rintro i s hi ⟨M, rfl, hf, h⟩
    have m8 : M 8 = σ 8 := hf.cell rfl
    show kT (fDe_lookAhead_B10 i M) _
    unfold fDe_lookAhead_B10 fDe_lookAhead_L20
    rw [m8, hx.1]
    refine kT_ltt (by omega) (by omega) ?_
    refine kT_for (fun j s => ∃ M : KM, s = ((j : Int), M) ∧ kFr wfDe_lookAhead σ M ∧ (∀ (w : Nat) (k : Int), w < i → 0 ≤ k → k < 24 → M 41 ((w : Int) * 24 + k) = ahS X w k) ∧ ∀ k : Int, 0 ≤ k → k < j → M 41 ((i : Int) * 24 + k) = ahS X i k) 24 ?_ ?_ 0 (by omega) kF _ ⟨M, rfl, hf, h, fun k _ h => by omega⟩ (kF_lt (by omega))
    · rintro j s hj ⟨M, rfl, hf, h, hk⟩
      have hxM := hx.fr hf rfl
      have hsM := h36.fr hf rfl
      have ow := hv.2.1 i j (by omega) (by omega)
      have e34 := hxM.2.1 i j (by omega) (by omega) (by omega) (by omega)
      have e35 := hxM.2.2 i (by omega) (by omega)
      have kr := hv.2.2.1 i
      have fin : ∀ v, (v = 1000000000 ∨ (0 ≤ v ∧ v ≤ 400000000)) → addS (xo X i j) v = ahS X i j → kT (fDe_lookAhead_J82 i j ((i : Int) * 24 + j) v M) (kS (fun s => ∃ M : KM, s = (((j + 1 : Nat) : Int), M) ∧ kFr wfDe_lookAhead σ M ∧ (∀ (w : Nat) (k : Int), w < i → 0 ≤ k → k < 24 → M 41 ((w : Int) * 24 + k) = ahS X w k) ∧ ∀ k : Int, 0 ≤ k → k < ((j + 1 : Nat) : Int) → M 41 ((i : Int) * 24 + k) = ahS X i k) (kS (fun s => ∃ M : KM, s = (((i + 1 : Nat) : Int), M) ∧ kFr wfDe_lookAhead σ M ∧ ∀ (w : Nat) (k : Int), w < i + 1 → 0 ≤ k → k < 24 → M 41 ((w : Int) * 24 + k) = ahS X w k) (fun z => ahOK X z.2 ∧ z.2 9 1 = 1))) := by
        intro v hv9 ev
        unfold fDe_lookAhead_J82
        refine kT_rd (by omega) ?_
        rw [e34]
        refine kT_callE (P_plus (by omega) M) (kT_wr (by omega) (kT_let (kT_inl ⟨_, rfl, hf.put rfl, fun w k a0 b0 b1 => ?_, fun k b0 b1 => ?_⟩)))
        · rw [ks_i (by omega)]; exact h w k a0 b0 b1
        · by_cases e : k = j
          · rw [e, ks_s, plus_add (by omega) hv9, ev]
          · rw [ks_i (by omega)]; exact hk k b0 (by omega)
      show kT (fDe_lookAhead_B20 i j M) _
      unfold fDe_lookAhead_B20
      refine kT_ltt (by omega) (by omega) (kT_let (kT_rd (by omega) ?_))
      rw [e35]
      cases i with
      | zero =>
        refine kT_eqt hk0 (by omega) (kT_ltf (by omega) (by omega) (fin 0 (by omega) ?_))
        rw [(addS_0 (by omega)).2, ahS]
        rfl
      | succ i =>
        have eA : ahS X (i + 1) j = addS (xo X ((i + 1 : Nat) : Int) j) (if xk X ((i + 1 : Nat) : Int) = 1 then ahS X i j else mnS (fun o => addS (ahS X i o) (xs X o j)) 24) := by rw [ahS]; rfl
        have rA := fun o o0 o1 => ahS_r hv i o o0 o1
        refine kT_eq (by omega) (by omega) (fun c => ?_) (fun c => ?_)
        · rw [if_neg (by omega)] at eA
          refine kT_ltt (by omega) (by omega) (kT_callE (P_cheapestMove_41 hv hsM (g := ahS X i) (by omega) (by omega) (fun o o0 o1 => by have := rA o o0 o1; omega) (fun o o0 o1 => ?_)) (fin _ ?_ eA.symm))
          · have := h i o (by omega) o0 o1
            rw [show (((i + 1 : Nat) : Int) - 1) * 24 + o = (i : Int) * 24 + o by omega]
            exact this
          · have := mv_r hv (g := ahS X i) (B := 1209900 * ((i : Int) + 1)) (k := j) (by omega) (fun o o0 o1 => rA o o0 o1) 24 (by omega)
            omega
        · rw [if_pos (by omega)] at eA
          have q := h i j (by omega) (by omega) (by omega)
          have := rA j (by omega) (by omega)
          refine kT_rd (by omega) ?_
          rw [show ((i + 1 : Nat) : Int) * 24 + j - 24 = (i : Int) * 24 + j by omega, q]
          exact fin _ (by omega) eA.symm
    · rintro s ⟨M, rfl, hf, h, hk⟩
      show kT (fDe_lookAhead_B20 i 24 M) _
      unfold fDe_lookAhead_B20 fDe_lookAhead_J107
      refine kT_ltf (by omega) (by omega) (kT_exit (kT_let (kT_inl ⟨M, rfl, hf, fun w k a0 b0 b1 => ?_⟩)))
      by_cases e : w = i
      · rw [e]; exact hk k b0 (by omega)
      · exact h w k (by omega) b0 b1
  · rintro s ⟨M, rfl, hf, h⟩
    have m8 : M 8 = σ 8 := hf.cell rfl
    show kT (fDe_lookAhead_B10 (xn X : Nat) M) _
    unfold fDe_lookAhead_B10 fDe_lookAhead_J113
    rw [m8, hx.1]
    refine kT_ltf (by omega) (by omega) (kT_exit (kT_wfz (by omega) (kT_ri ?_)))
    dsimp only
    exact ⟨fun w k a0 b0 b1 => h w k a0 b0 b1, ks_s _ _ _ _⟩
theorem XP_k0 (b : KB) : xk (XP b) 0 = 0 := by
  show kpS b 0 = 0
  unfold kpS
  rw [if_neg (by omega)]
theorem frC.re {b : KB} {σ : KM} (h : CI b σ) (hF : frC b σ) {τ : KM} (hf : kFr [(9, some 1), (9, some 4), (41, none), (42, none), (43, none), (44, none)] σ τ) (h91 : τ 9 1 = 0 ∨ (τ 9 1 = 1 ∧ ahOK (XP b) τ)) (h94 : τ 9 4 = 0 ∨ (τ 9 4 = 1 ∧ mvOK (XP b) τ)) : CI b τ ∧ frC b τ := by
  have e13 : τ 8 13 = σ 8 13 := hf.slot rfl
  have e14 : τ 8 14 = σ 8 14 := hf.slot rfl
  have e15 : τ 8 15 = σ 8 15 := hf.slot rfl
  have e56 : τ 5 6 = σ 5 6 := hf.slot rfl
  have e63 : τ 6 3 = σ 6 3 := hf.slot rfl
  have e74 : τ 7 4 = σ 7 4 := hf.slot rfl
  obtain ⟨c1, c2, c3, c4, c5⟩ := h
  have F : frC b τ := ⟨by rw [e13]; exact hF.1, hF.2.1.fr hf rfl, by rw [e56, e63, e74]; exact hF.2.2.1, by rw [e14, e15]; exact hF.2.2.2.1, h91, h94⟩
  refine ⟨⟨c1.fr hf rfl, ?_, ?_, ?_, Or.inl F⟩, F⟩
  · rcases c2 with h | h
    · exact Or.inl ⟨by rw [e56]; exact h.1, h.2.fr hf rfl⟩
    · exact Or.inr (by rw [e56]; exact h)
  · rcases c3 with h | h
    · exact Or.inl ⟨by rw [e63]; exact h.1, h.2.1.fr hf rfl, by rw [e56]; exact h.2.2⟩
    · exact Or.inr (by rw [e63]; exact h)
  · rcases c4 with h | h
    · exact Or.inl ⟨by rw [e74]; exact h.1, h.2.fr hf rfl⟩
    · exact Or.inr (by rw [e74]; exact h)
theorem frC.w {b : KB} {σ : KM} (h : CI b σ) (hF : frC b σ) : wOK b σ := by
  rcases h.2.1 with g | g
  · exact g.2
  · have := hF.2.2.1.1
    omega
theorem C_lookAhead {b : KB} {σ : KM} (hb : kB b) (h : CI b σ) (hF : frC b σ) : kT (fDe_lookAhead σ) (fun z => CI b z.2 ∧ frC b z.2 ∧ ahOK (XP b) z.2) := by
  rcases hF.2.2.2.2.1 with c | ⟨c, ha⟩
  · refine (kT.fr (P_lookAhead (XP_v hb) hF.2.1.1 hF.2.1.2.1 (XP_k0 b) c) (rfDe_lookAhead σ)).mono (fun z hz => ?_)
    obtain ⟨⟨z1, z2⟩, z3⟩ := hz
    have e94 : z.2 9 4 = σ 9 4 := z3.slot rfl
    have c43 : z.2 43 = σ 43 := z3.cell rfl
    have q := frC.re h hF (z3.mono rfl) (Or.inr ⟨z2, z1⟩) (by rw [e94]; unfold mvOK; rw [c43]; exact hF.2.2.2.2.2)
    exact ⟨q.1, q.2, z1⟩
  · unfold fDe_lookAhead
    rw [c]
    exact kT_eqf (by omega) (by omega) (by omega) (kT_ri ⟨h, hF, ha⟩)
