/-! ===== the least cost, the ties, THE PATH and its SEGMENTS ===== -/
def lsS (X : KX) : Int := if xn X = 0 then 0 else mnS (bhS X (xn X - 1)) 24
def tdS (X : KX) : Int := if xn X = 0 then 1 else tfS (bhS X (xn X - 1)) (tiS X (xn X - 1)) 24
def fkS (g : Int → Int) (v : Int) : Nat → Int
  | 0 => -1
  | i + 1 => if fkS g v i = -1 then (if g i = v then (i : Int) else -1) else fkS g v i
theorem fkS_n {g : Int → Int} {v : Int} {i : Nat} (h : fkS g v i = -1) (c : g i ≠ v) : fkS g v (i + 1) = -1 := by rw [fkS, if_pos h, if_neg c]
theorem fkS_y {g : Int → Int} {v : Int} {i : Nat} (h : fkS g v i = -1) (c : g i = v) : fkS g v (i + 1) = i := by rw [fkS, if_pos h, if_pos c]
theorem fkS_k {g : Int → Int} {v : Int} {i : Nat} (h : fkS g v i ≠ -1) : ∀ j : Nat, fkS g v (i + j) = fkS g v i
  | 0 => rfl
  | j + 1 => by
    have := fkS_k h j
    show fkS g v ((i + j) + 1) = _
    rw [fkS, if_neg (by rw [this]; exact h)]
    exact this
theorem fkS_24 {g : Int → Int} {v : Int} {i : Nat} (hi : i < 24) (h : fkS g v i = -1) (c : g i = v) : fkS g v 24 = i := by
  have e1 := fkS_y h c
  have e2 := fkS_k (g := g) (v := v) (i := i + 1) (by rw [e1]; omega) (24 - (i + 1))
  rw [show i + 1 + (24 - (i + 1)) = 24 by omega, e1] at e2
  exact e2
theorem fkS_r (g : Int → Int) (v : Int) : ∀ i : Nat, (fkS g v i = -1 ∧ ∀ j : Int, 0 ≤ j → j < i → g j ≠ v) ∨ ((0 ≤ fkS g v i ∧ fkS g v i < i) ∧ g (fkS g v i) = v ∧ ∀ j : Int, 0 ≤ j → j < fkS g v i → g j ≠ v)
  | 0 => Or.inl ⟨rfl, fun j a c => by omega⟩
  | i + 1 => by
    rcases fkS_r g v i with ⟨h1, h2⟩ | ⟨h1, h2, h3⟩
    · by_cases c : g i = v
      · rw [fkS_y h1 c]
        exact Or.inr ⟨by omega, c, h2⟩
      · rw [fkS_n h1 c]
        refine Or.inl ⟨rfl, fun j a d => ?_⟩
        by_cases e : j = i
        · rw [e]; exact c
        · exact h2 j a (by omega)
    · have e : fkS g v (i + 1) = fkS g v i := by rw [fkS, if_neg (by omega)]
      rw [e]
      exact Or.inr ⟨by omega, h2, h3⟩
theorem fkS_ex {g : Int → Int} {v : Int} (h : ∃ j : Int, (0 ≤ j ∧ j < 24) ∧ g j = v) : (0 ≤ fkS g v 24 ∧ fkS g v 24 < 24) ∧ g (fkS g v 24) = v ∧ ∀ j : Int, 0 ≤ j → j < fkS g v 24 → g j ≠ v := by
  obtain ⟨j, hj, e⟩ := h
  rcases fkS_r g v 24 with ⟨h1, h2⟩ | h
  · exact absurd e (h2 j hj.1 (by omega))
  · exact h
def paS (X : KX) : Nat → Int
  | 0 => fkS (bhS X (xn X - 1)) (lsS X) 24
  | w + 1 => if xk X ((w : Int) + 1) = 1 then paS X w else fkS (fun k => addS (xs X (paS X w) k) (bhS X (xn X - 1 - (w + 1)) k)) (bhS X (xn X - 1 - w) (paS X w) - xo X w (paS X w)) 24
/-- what is left behind a window -/
theorem bh_rest {X : KX} {w : Nat} (hw : w + 1 < xn X) {k : Int} (h : bhS X (xn X - 1 - w) k < 1000000000) : xo X w k < 1000000000 ∧ bhS X (xn X - 1 - w) k - xo X w k = (if xk X ((w : Int) + 1) = 1 then bhS X (xn X - 1 - (w + 1)) k else mnS (fun o => addS (xs X k o) (bhS X (xn X - 1 - (w + 1)) o)) 24) ∧ bhS X (xn X - 1 - w) k - xo X w k < 1000000000 := by
  have e : xn X - 1 - w = (xn X - 1 - (w + 1)) + 1 := by omega
  rw [e, bhS, show (xn X : Int) - 1 - (((xn X - 1 - (w + 1) : Nat) : Int) + 1) = w by omega, show (xn X : Int) - 1 - ((xn X - 1 - (w + 1) : Nat) : Int) = (w : Int) + 1 by omega] at h ⊢
  obtain ⟨h1, h2, h3⟩ := addS_lt h
  rw [h3]
  exact ⟨h1, by omega, by omega⟩
theorem paS_r {X : KX} (hv : xV X) (hl : lsS X < 1000000000) : ∀ w : Nat, w < xn X → (0 ≤ paS X w ∧ paS X w < 24) ∧ bhS X (xn X - 1 - w) (paS X w) < 1000000000
  | 0, hw => by
    have e : lsS X = mnS (bhS X (xn X - 1)) 24 := by unfold lsS; rw [if_neg (by omega)]
    rcases mnS_at (bhS X (xn X - 1)) 24 with h | ⟨k, hk, h⟩
    · omega
    · obtain ⟨h1, h2, _⟩ := fkS_ex (g := bhS X (xn X - 1)) (v := lsS X) ⟨k, by omega, by omega⟩
      rw [paS]
      refine ⟨h1, ?_⟩
      rw [Nat.sub_zero, h2]
      exact hl
  | w + 1, hw => by
    obtain ⟨h1, h2⟩ := paS_r hv hl w (by omega)
    obtain ⟨r1, r2, r3⟩ := bh_rest hw h2
    rw [paS]
    by_cases c : xk X ((w : Int) + 1) = 1
    · rw [if_pos c] at r2
      rw [if_pos c]
      exact ⟨h1, by omega⟩
    · rw [if_neg c] at r2 ⊢
      rcases mnS_at (fun o => addS (xs X (paS X w) o) (bhS X (xn X - 1 - (w + 1)) o)) 24 with h | ⟨k, hk, h⟩
      · omega
      · obtain ⟨q1, q2, _⟩ := fkS_ex (g := fun k => addS (xs X (paS X w) k) (bhS X (xn X - 1 - (w + 1)) k)) (v := bhS X (xn X - 1 - w) (paS X w) - xo X w (paS X w)) ⟨k, by omega, by rw [r2]; exact h⟩
        refine ⟨q1, ?_⟩
        rw [← q2] at r3
        exact (addS_lt r3).2.1
abbrev stW (pa : Nat → Int) (w : Nat) : Prop := w = 0 ∨ pa w ≠ pa (w - 1)
def sgS (pa : Nat → Int) : Nat → Int
  | 0 => 0
  | w + 1 => if stW pa w then sgS pa w + 1 else sgS pa w
theorem sgS_t {pa : Nat → Int} {w : Nat} (h : stW pa w) : sgS pa (w + 1) = sgS pa w + 1 := by rw [sgS, if_pos h]
theorem sgS_f {pa : Nat → Int} {w : Nat} (h : ¬ stW pa w) : sgS pa (w + 1) = sgS pa w := by rw [sgS, if_neg h]
theorem sgS_r (pa : Nat → Int) : ∀ w : Nat, 0 ≤ sgS pa w ∧ sgS pa w ≤ w
  | 0 => by simp [sgS]
  | w + 1 => by
    have := sgS_r pa w
    by_cases c : stW pa w
    · rw [sgS_t c]; omega
    · rw [sgS_f c]; omega
theorem sgS_m (pa : Nat → Int) (w : Nat) : ∀ j : Nat, sgS pa w ≤ sgS pa (w + j)
  | 0 => Int.le_refl _
  | j + 1 => by
    have := sgS_m pa w j
    show _ ≤ sgS pa ((w + j) + 1)
    by_cases c : stW pa (w + j)
    · rw [sgS_t c]; omega
    · rw [sgS_f c]; omega
theorem sgS_lt {pa : Nat → Int} {w v : Nat} (h : stW pa w) (hv : w < v) : sgS pa w < sgS pa v := by
  have := sgS_m pa (w + 1) (v - (w + 1))
  rw [show w + 1 + (v - (w + 1)) = v by omega, sgS_t h] at this
  omega
/-! the class -/
def alC (X : KX) (σ : KM) : Prop := ∀ (w : Nat) (k : Int), w < xn X → 0 ≤ k → k < 24 → σ 37 ((w : Int) * 24 + k) = bhS X (xn X - 1 - w) k ∧ (bhS X (xn X - 1 - w) k < 1000000000 → σ 38 ((w : Int) * 24 + k) = tiS X (xn X - 1 - w) k) ∧ 0 ≤ σ 38 ((w : Int) * 24 + k) ∧ σ 38 ((w : Int) * 24 + k) ≤ 1000000
theorem lsS_r {X : KX} (hv : xV X) : lsS X = 1000000000 ∨ (0 ≤ lsS X ∧ lsS X ≤ 60000000) := by
  have hn := hv.1
  unfold lsS
  split
  · omega
  · rcases mnS_at (bhS X (xn X - 1)) 24 with h | ⟨k, hk, h⟩
    · exact Or.inl h
    · rw [← h]
      have := bhS_r hv (xn X - 1) k hk.1 (by omega)
      omega
theorem P_findLeast {X : KX} (hv : xV X) {σ : KM} (hx : xC X σ) (ha : alC X σ) : kT (fFi_findLeast σ) (fun z => z.2 8 8 = lsS X ∧ (lsS X < 1000000000 → z.2 8 9 = tdS X) ∧ z.2 8 7 = if lsS X < 1000000000 then 1 else 0) := by
  have hn := hv.1
  have e81 := hx.1
  have fin : ∀ (M : KM), M 8 8 = lsS X → (lsS X < 1000000000 → M 8 9 = tdS X) → kT (fFi_findLeast_J123 M) (fun z => z.2 8 8 = lsS X ∧ (lsS X < 1000000000 → z.2 8 9 = tdS X) ∧ z.2 8 7 = if lsS X < 1000000000 then 1 else 0) := by
    intro M h1 h2
    have := lsS_r hv
    unfold fFi_findLeast_J123 fFi_findLeast_J138
    rw [h1]
    refine kT_lt (by omega) (by omega) (fun c => ?_) (fun c => ?_)
    · refine kT_wfz (by omega) (kT_ri ?_)
      dsimp only
      rw [ks_i (by decide), ks_i (by decide), ks_s, if_pos c]
      exact ⟨h1, h2, rfl⟩
    · refine kT_wfz (by omega) (kT_ri ?_)
      dsimp only
      rw [ks_i (by decide), ks_i (by decide), ks_s, if_neg (by omega)]
      exact ⟨h1, h2, rfl⟩
  unfold fFi_findLeast fFi_findLeast_J14 fFi_findLeast_J30
  rw [e81]
  refine kT_eq (by omega) (by omega) (fun c => ?_) (fun c => ?_)
  · refine kT_wf ?_
    rw [ks_i (by decide), e81]
    refine kT_eqt c (by omega) (kT_wf ?_)
    unfold fFi_findLeast_L35
    refine kT_for (fun i s => s = ((0 : Int), ks (ks σ 8 8 0) 8 9 1)) 0 (fun i s hi => by omega) ?_ 0 (by omega) kF _ rfl (kF_lt (by omega))
    rintro s rfl
    show kT (fFi_findLeast_B35 0 (ks (ks σ 8 8 0) 8 9 1)) _
    unfold fFi_findLeast_B35
    refine kT_ltt (by omega) (by omega) ?_
    rw [ks_i (by decide), ks_i (by decide), e81]
    refine kT_ltf (by omega) (by omega) (kT_exit (fin _ ?_ ?_))
    · rw [ks_i (by decide), ks_s]; unfold lsS; rw [if_pos (by omega)]
    · rw [ks_s]; unfold tdS; rw [if_pos (by omega)]; exact fun _ => rfl
  · have eL : lsS X = mnS (bhS X (xn X - 1)) 24 := by unfold lsS; rw [if_neg (by omega)]
    have eT : tdS X = tfS (bhS X (xn X - 1)) (tiS X (xn X - 1)) 24 := by unfold tdS; rw [if_neg (by omega)]
    refine kT_wf ?_
    rw [ks_i (by decide), e81]
    refine kT_eqf c (by omega) (by omega) (kT_wf ?_)
    unfold fFi_findLeast_L35
    have hr : ∀ j : Nat, j ≤ 24 → mnS (bhS X (xn X - 1)) j = 1000000000 ∨ (0 ≤ mnS (bhS X (xn X - 1)) j ∧ mnS (bhS X (xn X - 1)) j ≤ 60000000) := by
      intro j hj
      rcases mnS_at (bhS X (xn X - 1)) j with h | ⟨k, hk, h⟩
      · exact Or.inl h
      · rw [← h]
        have := bhS_r hv (xn X - 1) k hk.1 (by omega)
        omega
    have ha0 : ∀ k, 0 ≤ k → k < 24 → σ 37 k = bhS X (xn X - 1) k ∧ (bhS X (xn X - 1) k < 1000000000 → σ 38 k = tiS X (xn X - 1) k) ∧ 0 ≤ σ 38 k ∧ σ 38 k ≤ 1000000 := by
      intro k a d
      have := ha 0 k (by omega) a d
      rw [show (((0 : Nat) : Int) * 24 + k) = k by omega, Nat.sub_zero] at this
      exact this
    refine kT_for (fun j s => ∃ M : KM, s = ((j : Int), M) ∧ M 8 1 = xn X ∧ M 37 = σ 37 ∧ M 38 = σ 38 ∧ M 8 8 = mnS (bhS X (xn X - 1)) j ∧ (mnS (bhS X (xn X - 1)) j < 1000000000 → M 8 9 = tfS (bhS X (xn X - 1)) (tiS X (xn X - 1)) j) ∧ 0 ≤ M 8 9 ∧ M 8 9 ≤ 1000000) 24 ?_ ?_ 0 (by omega) kF _ ?_ (kF_lt (by omega))
    · rintro j s hj ⟨M, rfl, m1, m37, m38, m88, m89, n0, n1⟩
      have q := ha0 j (by omega) (by omega)
      have rm := hr j (by omega)
      have rb := bhS_r hv (xn X - 1) j (by omega) (by omega)
      show kT (fFi_findLeast_B35 j M) _
      unfold fFi_findLeast_B35 fFi_findLeast_J117
      rw [m1, m88]
      refine kT_ltt (by omega) (by omega) (kT_ltt (by omega) (by omega) (kT_rd (by omega) ?_))
      rw [m37, q.1]
      refine kT_lt (by omega) (by omega) (fun d => ?_) (fun d => ?_)
      · refine kT_rd (by omega) (kT_wf (kT_rd (by omega) (kT_wf (kT_let (kT_inl ⟨_, rfl, ?_, ?_, ?_, ?_, ?_, ?_⟩)))))
        · rw [ks_i (by decide), ks_i (by decide)]; exact m1
        · exact m37
        · exact m38
        · rw [ks_i (by decide), ks_s, m37, q.1, mnS_t d]
        · intro _
          rw [ks_s, ks_c (by decide), m38, tfS_t d]
          exact q.2.1 (by omega)
        · rw [ks_s, ks_c (by decide), m38]
          exact q.2.2
      · refine kT_rd (by omega) ?_
        rw [m37, q.1]
        refine kT_eq (by omega) (by omega) (fun d2 => ?_) (fun d2 => ?_)
        · refine kT_rd (by omega) ?_
          rw [m38]
          refine kT_mn (by omega) (by omega) (kT_wf (kT_let (kT_inl ⟨_, rfl, ?_, ?_, ?_, ?_, ?_, ?_⟩)))
          · rw [ks_i (by decide)]; exact m1
          · exact m37
          · exact m38
          · rw [ks_i (by decide), m88, mnS_f d]
          · intro hlt
            rw [mnS_f d] at hlt
            rw [ks_s, tfS_e d2 (by omega), m89 hlt, q.2.1 (by omega)]
            by_cases c9 : tfS (bhS X (xn X - 1)) (tiS X (xn X - 1)) j + tiS X (xn X - 1) j < 1000000
            · rw [if_pos c9, if_neg (by omega)]
            · rw [if_neg c9]
              split <;> omega
          · rw [ks_s]
            split <;> omega
        · refine kT_let (kT_inl ⟨_, rfl, m1, m37, m38, by rw [m88, mnS_f d], ?_, n0, n1⟩)
          intro hlt
          rw [mnS_f d] at hlt
          rw [tfS_f (by omega)]
          exact m89 hlt
    · rintro s ⟨M, rfl, m1, m37, m38, m88, m89, n0, n1⟩
      show kT (fFi_findLeast_B35 24 M) _
      unfold fFi_findLeast_B35
      refine kT_ltf (by omega) (by omega) (kT_exit (fin M ?_ ?_))
      · rw [eL]; exact m88
      · rw [eL, eT]; exact m89
    · refine ⟨_, rfl, ?_, rfl, rfl, ?_, fun h => by simp [mnS] at h, ?_⟩
      · rw [ks_i (by decide), ks_i (by decide)]; exact e81
      · rw [ks_i (by decide), ks_s]; rfl
      · rw [ks_s]; omega
theorem P_firstKey {X : KX} (hv : xV X) {σ : KM} (hn0 : 0 < xn X) (ha : alC X σ) (hl : lsS X < 1000000000) (h8 : σ 8 8 = lsS X) : fFi_firstKey σ = some (paS X 0, σ) := by
  refine kP ?_ (rfFi_firstKey σ)
  have hn := hv.1
  have hp := paS_r hv hl 0 hn0
  have lr := lsS_r hv
  unfold fFi_firstKey fFi_firstKey_L2
  rw [show paS X 0 = fkS (bhS X (xn X - 1)) (lsS X) 24 from rfl] at hp ⊢
  refine kT_for (fun i s => s = ((i : Int), σ) ∧ fkS (bhS X (xn X - 1)) (lsS X) i = -1) 24 ?_ ?_ 0 (by omega) kF _ ⟨rfl, rfl⟩ (kF_lt (by omega))
  · rintro i s hi ⟨rfl, hf⟩
    have q := ha 0 i hn0 (by omega) (by omega)
    rw [show (((0 : Nat) : Int) * 24 + i) = i by omega, Nat.sub_zero] at q
    have rb := bhS_r hv (xn X - 1) i (by omega) (by omega)
    show kT (fFi_firstKey_B2 i σ) _
    unfold fFi_firstKey_B2 fFi_firstKey_J21
    refine kT_ltt (by omega) (by omega) (kT_rd (by omega) ?_)
    rw [q.1, h8]
    refine kT_eq (by omega) (by omega) (fun c => ?_) (fun c => ?_)
    · exact kT_exit (kT_ri (fkS_24 hi hf c).symm)
    · exact kT_let (kT_inl ⟨rfl, fkS_n hf c⟩)
  · rintro s ⟨rfl, hf⟩
    omega
theorem P_nextKey {X : KX} (hv : xV X) {σ : KM} (hx : xC X σ) (h36 : stC X σ) (ha : alC X σ) (hl : lsS X < 1000000000) {w : Nat} (hw : w + 1 < xn X) (h39 : σ 39 w = paS X w) : fFi_nextKey ((w : Int) + 1) σ = some (paS X (w + 1), σ) := by
  refine kP ?_ (rfFi_nextKey ((w : Int) + 1) σ)
  have hn := hv.1
  obtain ⟨hp, hb⟩ := paS_r hv hl w (by omega)
  obtain ⟨hp1, hb1⟩ := paS_r hv hl (w + 1) hw
  obtain ⟨r1, r2, r3⟩ := bh_rest hw hb
  have e35 := hx.2.2 ((w : Int) + 1) (by omega) (by omega)
  have k35 := hv.2.2.1 ((w : Int) + 1)
  have rbw := bhS_r hv (xn X - 1 - w) (paS X w) hp.1 hp.2
  have row := hv.2.1 w (paS X w) hp.1 hp.2
  unfold fFi_nextKey
  refine kT_rd (by omega) (kT_rd (by omega) ?_)
  rw [show (w : Int) + 1 - 1 = w by omega, h39, e35]
  refine kT_eq (by omega) (by omega) (fun c => ?_) (fun c => ?_)
  · rw [paS, if_neg (by omega)] at hp1 ⊢
    refine kT_let (kT_rd (by omega) (kT_rd (by omega) (kT_let ?_)))
    rw [(ha w _ (by omega) hp.1 hp.2).1, hx.2.1 w _ (by omega) (by omega) hp.1 hp.2]
    rw [if_neg (by omega)] at r2
    generalize hv9 : bhS X (xn X - 1 - w) (paS X w) - xo X w (paS X w) = v at *
    have hv0 : 0 ≤ v := by
      rw [r2]
      rcases mnS_at (fun o => addS (xs X (paS X w) o) (bhS X (xn X - 1 - (w + 1)) o)) 24 with e | ⟨o, ho, e⟩
      · omega
      · rw [← e]
        have h3 := bhS_r hv (xn X - 1 - (w + 1)) o ho.1 (by omega)
        have h4 := hv.2.2.2.1 (paS X w) o hp.1 hp.2 ho.1 (by omega)
        unfold addS
        split <;> omega
    generalize hP : paS X w = p0 at *
    unfold fFi_nextKey_L47
    refine kT_for (fun i s => s = ((i : Int), σ) ∧ fkS (fun k => addS (xs X p0 k) (bhS X (xn X - 1 - (w + 1)) k)) v i = -1) 24 ?_ ?_ 0 (by omega) kF _ ⟨rfl, rfl⟩ (kF_lt (by omega))
    · rintro i s hi ⟨rfl, hf⟩
      have q := ha (w + 1) i hw (by omega) (by omega)
      have rb := bhS_r hv (xn X - 1 - (w + 1)) i (by omega) (by omega)
      have rs := hv.2.2.2.1 p0 i hp.1 hp.2 (by omega) (by omega)
      show kT (fFi_nextKey_B47 ((w : Int) + 1) p0 v i σ) _
      unfold fFi_nextKey_B47 fFi_nextKey_J84
      refine kT_ltt (by omega) (by omega) (kT_rd (by omega) (kT_rd (by omega) ?_))
      rw [show ((w : Int) + 1) * 24 + i = ((w + 1 : Nat) : Int) * 24 + i by omega, q.1, h36 p0 i hp.1 hp.2 (by omega) (by omega)]
      have pv : (bhS X (xn X - 1 - (w + 1)) i = 1000000000 ∧ addS (xs X p0 i) (bhS X (xn X - 1 - (w + 1)) i) = 1000000000) ∨ (bhS X (xn X - 1 - (w + 1)) i < 1000000000 ∧ addS (xs X p0 i) (bhS X (xn X - 1 - (w + 1)) i) = bhS X (xn X - 1 - (w + 1)) i + xs X p0 i) := by
        unfold addS
        by_cases cc : bhS X (xn X - 1 - (w + 1)) i < 1000000000
        · rw [if_pos ⟨by omega, cc⟩]; omega
        · rw [if_neg (by omega)]; omega
      refine kT_eq (by omega) (by omega) (fun c2 => ?_) (fun c2 => ?_)
      · exact kT_exit (kT_ri (fkS_24 hi hf (by omega)).symm)
      · exact kT_let (kT_inl ⟨rfl, fkS_n hf (by omega)⟩)
    · rintro s ⟨rfl, hf⟩
      omega
  · refine kT_ri ?_
    rw [paS, if_pos (by omega)]
theorem P_follow {X : KX} (hv : xV X) {σ : KM} (hx : xC X σ) (h36 : stC X σ) (ha : alC X σ) (hl : lsS X < 1000000000) (h8 : σ 8 8 = lsS X) : kT (fFi_follow σ) (fun z => ∀ w : Nat, w < xn X → z.2 39 w = paS X w) := by
  have hn := hv.1
  unfold fFi_follow fFi_follow_L2
  refine kT_for (fun i s => ∃ M : KM, s = ((i : Int), M) ∧ kFr wfFi_follow σ M ∧ ∀ w : Nat, w < i → M 39 w = paS X w) (xn X) ?_ ?_ 0 (by omega) kF _ ⟨σ, rfl, kFr.rf, fun w h => by omega⟩ (kF_lt (by omega))
  · rintro i s hi ⟨M, rfl, hf, h⟩
    have m8 : M 8 = σ 8 := hf.cell rfl
    have m34 : M 34 = σ 34 := hf.cell rfl
    have m35 : M 35 = σ 35 := hf.cell rfl
    have m36 : M 36 = σ 36 := hf.cell rfl
    have m37 : M 37 = σ 37 := hf.cell rfl
    have m38 : M 38 = σ 38 := hf.cell rfl
    have hxM : xC X M := by unfold xC; rw [m8, m34, m35]; exact hx
    have hsM : stC X M := by unfold stC; rw [m36]; exact h36
    have haM : alC X M := by unfold alC; rw [m37, m38]; exact ha
    have step : ∀ v, v = paS X i → kT (fFi_follow_J31 i v i M) (kS (fun s => ∃ M : KM, s = (((i + 1 : Nat) : Int), M) ∧ kFr wfFi_follow σ M ∧ ∀ w : Nat, w < i + 1 → M 39 w = paS X w) (fun z => ∀ w : Nat, w < xn X → z.2 39 w = paS X w)) := by
      rintro v rfl
      unfold fFi_follow_J31
      refine kT_wr (by omega) (kT_let (kT_inl ⟨_, rfl, hf.put rfl, fun w hw => ?_⟩))
      by_cases e : w = i
      · rw [e, ks_s]
      · rw [ks_i (by omega)]; exact h w (by omega)
    show kT (fFi_follow_B2 i M) _
    unfold fFi_follow_B2
    rw [m8, hx.1]
    refine kT_ltt (by omega) (by omega) (kT_eq (by omega) (by omega) (fun c => ?_) (fun c => ?_))
    · have i0 : i = 0 := by omega
      subst i0
      exact kT_callE (P_firstKey hv (by omega) haM hl (by rw [m8]; exact h8)) (step _ rfl)
    · obtain ⟨j, rfl⟩ : ∃ j, i = j + 1 := ⟨i - 1, by omega⟩
      exact kT_callE (P_nextKey hv hxM hsM haM hl hi (h j (by omega))) (step _ rfl)
  · rintro s ⟨M, rfl, hf, h⟩
    have m8 : M 8 = σ 8 := hf.cell rfl
    show kT (fFi_follow_B2 (xn X : Nat) M) _
    unfold fFi_follow_B2 fFi_follow_J38
    rw [m8, hx.1]
    exact kT_ltf (by omega) (by omega) (kT_exit (kT_ri h))
theorem P_splitSegments {pa : Nat → Int} {n : Nat} (hn : n ≤ 48) {σ : KM} (h1 : σ 8 1 = n) (h7 : σ 8 7 = 0 ∨ (σ 8 7 = 1 ∧ ∀ w : Nat, w < n → σ 39 w = pa w ∧ 0 ≤ pa w ∧ pa w < 24)) : kT (fFi_splitSegments σ) (fun z => (σ 8 7 = 0 → z.2 8 12 = 0) ∧ (σ 8 7 = 1 → z.2 8 12 = sgS pa n ∧ ∀ w : Nat, w < n → stW pa w → z.2 40 (sgS pa w) = w)) := by
  unfold fFi_splitSegments fFi_splitSegments_L7
  refine kT_wf ?_
  rcases h7 with h7 | ⟨h7, h39⟩
  · refine kT_for (fun i s => s = ((0 : Int), ks σ 8 12 0)) 0 (fun i s hi => by omega) ?_ 0 (by omega) kF _ rfl (kF_lt (by omega))
    rintro s rfl
    show kT (fFi_splitSegments_B7 0 (ks σ 8 12 0)) _
    unfold fFi_splitSegments_B7 fFi_splitSegments_J69
    rw [ks_i (by decide), ks_i (by decide), h1, h7]
    have e : kT (kRetI 0 (ks σ 8 12 0)) (fun z => (σ 8 7 = 0 → z.2 8 12 = 0) ∧ (σ 8 7 = 1 → z.2 8 12 = sgS pa n ∧ ∀ w : Nat, w < n → stW pa w → z.2 40 (sgS pa w) = w)) := by
      refine kT_ri ?_
      dsimp only
      rw [ks_s]
      exact ⟨fun _ => rfl, fun h => by omega⟩
    rw [h7] at e
    refine kT_lt (by omega) (by omega) (fun _ => ?_) (fun _ => ?_)
    · exact kT_eqt rfl (by omega) (kT_exit e)
    · exact kT_exit e
  · refine kT_for (fun i s => ∃ M : KM, s = ((i : Int), M) ∧ M 8 1 = n ∧ M 8 7 = 1 ∧ M 39 = σ 39 ∧ M 8 12 = sgS pa i ∧ ∀ w : Nat, w < i → stW pa w → M 40 (sgS pa w) = w) n ?_ ?_ 0 (by omega) kF _ ?_ (kF_lt (by omega))
    · rintro i s hi ⟨M, rfl, m1, m7, m39, m12, hq⟩
      have sr := sgS_r pa i
      have put : stW pa i → kT (fFi_splitSegments_J43 i M) (kS (fun s => ∃ M : KM, s = (((i + 1 : Nat) : Int), M) ∧ M 8 1 = n ∧ M 8 7 = 1 ∧ M 39 = σ 39 ∧ M 8 12 = sgS pa (i + 1) ∧ ∀ w : Nat, w < i + 1 → stW pa w → M 40 (sgS pa w) = w) (fun z => (σ 8 7 = 0 → z.2 8 12 = 0) ∧ (σ 8 7 = 1 → z.2 8 12 = sgS pa n ∧ ∀ w : Nat, w < n → stW pa w → z.2 40 (sgS pa w) = w))) := by
        intro hs
        unfold fFi_splitSegments_J43 fFi_splitSegments_J63
        rw [m12]
        refine kT_wr (by omega) (kT_wf (kT_let (kT_inl ⟨_, rfl, ?_, ?_, m39, ?_, fun w hw hw2 => ?_⟩)))
        · rw [ks_i (by decide), ks_c (by decide)]; exact m1
        · rw [ks_i (by decide), ks_c (by decide)]; exact m7
        · rw [ks_s, ks_c (by decide), m12, sgS_t hs]
        · rw [ks_c (by decide)]
          by_cases e : w = i
          · rw [e, ks_s]
          · have := sgS_lt hw2 (show w < i by omega)
            rw [ks_i (by omega)]
            exact hq w (by omega) hw2
      show kT (fFi_splitSegments_B7 i M) _
      unfold fFi_splitSegments_B7
      rw [m1, m7]
      refine kT_ltt (by omega) (by omega) (kT_eqf (by omega) (by omega) (by omega) (kT_eq (by omega) (by omega) (fun c => ?_) (fun c => ?_)))
      · exact put (Or.inl (by omega))
      · have p1 := h39 i hi
        have p2 := h39 (i - 1) (by omega)
        rw [show ((i - 1 : Nat) : Int) = (i : Int) - 1 by omega] at p2
        refine kT_rd (by omega) (kT_rd (by omega) ?_)
        rw [m39, p1.1, p2.1]
        refine kT_eq (by omega) (by omega) (fun c2 => ?_) (fun c2 => ?_)
        · have ns : ¬ stW pa i := by
            intro h
            rcases h with h | h
            · omega
            · exact h c2
          unfold fFi_splitSegments_J63
          refine kT_let (kT_inl ⟨M, rfl, m1, m7, m39, by rw [sgS_f ns]; exact m12, fun w hw hw2 => ?_⟩)
          by_cases e : w = i
          · rw [e] at hw2; exact absurd hw2 ns
          · exact hq w (by omega) hw2
        · exact put (Or.inr c2)
    · rintro s ⟨M, rfl, m1, m7, m39, m12, hq⟩
      show kT (fFi_splitSegments_B7 (n : Nat) M) _
      unfold fFi_splitSegments_B7 fFi_splitSegments_J69
      rw [m1]
      exact kT_ltf (by omega) (by omega) (kT_exit (kT_ri ⟨fun h => by omega, fun _ => ⟨m12, hq⟩⟩))
    · refine ⟨_, rfl, ?_, ?_, rfl, ?_, fun w hw => by omega⟩
      · rw [ks_i (by decide)]; exact h1
      · rw [ks_i (by decide)]; exact h7
      · rw [ks_s]; rfl
