/-! ===== ahead and behind together ===== -/
theorem addS_m {x a c : Int} (h : a ≤ c) (hr : addS x a ≤ 1000000000) : addS x a ≤ addS x c := by
  unfold addS at hr ⊢
  split
  · next e =>
    rw [if_pos e] at hr
    split <;> omega
  · rw [if_neg (by omega)]
    exact Int.le_refl _
/-- one step of the costs behind -/
theorem bh_step {X : KX} (hv : xV X) {w : Nat} (hw : w + 1 < xn X) {o k : Int} (ho : 0 ≤ o ∧ o < 24) (hk : 0 ≤ k ∧ k < 24) : bhS X (xn X - 1 - w) o ≤ addS (xo X w o) (addS (mvS X ((w : Int) + 1) o k) (bhS X (xn X - 1 - (w + 1)) k)) := by
  have hn := hv.1
  have hp := ppS_v hv (i := xn X - 1 - (w + 1)) (by omega) (k := o) ho
  have e : xn X - 1 - w = (xn X - 1 - (w + 1)) + 1 := by omega
  have hl := mnS_lo (ppS X (xn X - 1 - (w + 1)) o) 24 k hk.1 (by omega)
  have e2 : ppS X (xn X - 1 - (w + 1)) o k = addS (mvS X ((w : Int) + 1) o k) (bhS X (xn X - 1 - (w + 1)) k) := by
    unfold ppS
    rw [show (xn X : Int) - 1 - ((xn X - 1 - (w + 1) : Nat) : Int) = (w : Int) + 1 by omega]
  have rb := bhS_r hv (xn X - 1 - w) o ho.1 ho.2
  have rb1 : bhS X (xn X - 1 - w) o ≤ 1000000000 := by omega
  rw [e, bhS, show (xn X : Int) - 1 - (((xn X - 1 - (w + 1) : Nat) : Int) + 1) = w by omega, ← hp.1] at rb1 ⊢
  rw [e2] at hl
  have h1 := hv.2.1 w o ho.1 ho.2
  exact addS_m hl rb1
/-- one step of the costs ahead -/
theorem ah_step {X : KX} (hv : xV X) {w : Nat} (hw : w + 1 < xn X) {k : Int} (hk : 0 ≤ k ∧ k < 24) (h : ahS X (w + 1) k < 1000000000) : ∃ o, (0 ≤ o ∧ o < 24) ∧ ahS X w o < 1000000000 ∧ mvS X ((w : Int) + 1) o k < 1000000000 ∧ xo X ((w : Int) + 1) k < 1000000000 ∧ ahS X (w + 1) k = xo X ((w : Int) + 1) k + (ahS X w o + mvS X ((w : Int) + 1) o k) := by
  rw [ahS, ← ah_mv hv hw hk] at h ⊢
  obtain ⟨h1, h2, h3⟩ := addS_lt h
  rcases mnS_at (fun o => addS (ahS X w o) (mvS X ((w : Int) + 1) o k)) 24 with e | ⟨o, ho, e⟩
  · omega
  · rw [← e] at h2 h3
    obtain ⟨g1, g2, g3⟩ := addS_lt h2
    exact ⟨o, by omega, g1, g2, h1, by rw [← e]; omega⟩
theorem ah_le {X : KX} (hv : xV X) {w : Nat} (hw : w + 1 < xn X) {o k : Int} (ho : 0 ≤ o ∧ o < 24) (hk : 0 ≤ k ∧ k < 24) : ahS X (w + 1) k ≤ addS (xo X ((w : Int) + 1) k) (addS (ahS X w o) (mvS X ((w : Int) + 1) o k)) := by
  have hn := hv.1
  have rb := ahS_r hv (w + 1) k hk.1 hk.2
  have rb1 : ahS X (w + 1) k ≤ 1000000000 := by omega
  rw [ahS, ← ah_mv hv hw hk] at rb1 ⊢
  have hl := mnS_lo (fun o => addS (ahS X w o) (mvS X ((w : Int) + 1) o k)) 24 o ho.1 (by omega)
  exact addS_m hl rb1
/-- going through a later window costs no less than through the window ahead of it -/
theorem th_step {X : KX} (hv : xV X) {w : Nat} (hw : w + 1 < xn X) {k : Int} (hk : 0 ≤ k ∧ k < 24) (h : thS X (w + 1) k < 1000000000) : ∃ o, (0 ≤ o ∧ o < 24) ∧ ahS X w o < 1000000000 ∧ thS X w o ≤ thS X (w + 1) k ∧ thS X (w + 1) k = ahS X w o + addS (mvS X ((w : Int) + 1) o k) (bhS X (xn X - 1 - (w + 1)) k) ∧ addS (mvS X ((w : Int) + 1) o k) (bhS X (xn X - 1 - (w + 1)) k) < 1000000000 := by
  have hn := hv.1
  have ec : ((w + 1 : Nat) : Int) = (w : Int) + 1 := by omega
  unfold thS at h ⊢
  by_cases c : ahS X (w + 1) k < 1000000000 ∧ bhS X (xn X - 1 - (w + 1)) k < 1000000000
  · rw [if_pos c]
    obtain ⟨o, ho, a1, a2, a3, a4⟩ := ah_step hv hw hk c.1
    have b1 := bh_step hv hw ho hk
    have rb := bhS_r hv (xn X - 1 - (w + 1)) k hk.1 hk.2
    have rv := mvS_r hv ((w : Int) + 1) ho hk
    have ro := hv.2.1 w o ho.1 ho.2
    have rb2 := bhS_r hv (xn X - 1 - w) o ho.1 ho.2
    have bo := bh_own hv (w := w) (by omega) ho
    have es : addS (mvS X ((w : Int) + 1) o k) (bhS X (xn X - 1 - (w + 1)) k) = mvS X ((w : Int) + 1) o k + bhS X (xn X - 1 - (w + 1)) k := by unfold addS; rw [if_pos ⟨a2, c.2⟩]
    have ra := ahS_r hv w o ho.1 ho.2
    have fo : xo X w o < 1000000000 := by
      cases w with
      | zero => rw [ahS] at a1; exact a1
      | succ w => rw [ahS] at a1; exact (addS_lt a1).1
    rw [es] at b1
    have b2 : bhS X (xn X - 1 - w) o ≤ xo X w o + (mvS X ((w : Int) + 1) o k + bhS X (xn X - 1 - (w + 1)) k) := by
      unfold addS at b1
      rw [if_pos ⟨fo, by omega⟩] at b1
      exact b1
    refine ⟨o, ho, a1, ?_, ?_, by rw [es]; omega⟩
    · rw [if_pos ⟨a1, by omega⟩, a4, ec]
      omega
    · rw [es, a4, ec]
      omega
  · rw [if_neg c] at h
    omega
theorem th_ls {X : KX} (hv : xV X) : ∀ (w : Nat), w < xn X → ∀ k, 0 ≤ k → k < 24 → lsS X ≤ thS X w k
  | 0, hw, k, a, c => by
    have e : lsS X = mnS (bhS X (xn X - 1)) 24 := by unfold lsS; rw [if_neg (by omega)]
    have h1 := mnS_lo (bhS X (xn X - 1)) 24 k a (by omega)
    have h2 := mnS_le (bhS X (xn X - 1)) 24
    unfold thS
    rw [Nat.sub_zero]
    split
    · rw [ahS]
      show lsS X ≤ xo X 0 k + bhS X (xn X - 1) k - xo X 0 k
      omega
    · omega
  | w + 1, hw, k, a, c => by
    have lr := lsS_r hv
    by_cases h : thS X (w + 1) k < 1000000000
    · obtain ⟨o, ho, _, h1, _⟩ := th_step hv hw ⟨a, c⟩ h
      have := th_ls hv w (by omega) o ho.1 ho.2
      omega
    · omega
/-- the path's own choice -/
theorem pa_ch {X : KX} (hv : xV X) (hl : lsS X < 1000000000) {w : Nat} (hw : w + 1 < xn X) : addS (mvS X ((w : Int) + 1) (paS X w) (paS X (w + 1))) (bhS X (xn X - 1 - (w + 1)) (paS X (w + 1))) = bhS X (xn X - 1 - w) (paS X w) - xo X w (paS X w) := by
  have hn := hv.1
  have e := pa_next hv hl hw
  obtain ⟨hp, hb⟩ := paS_r hv hl w (by omega)
  obtain ⟨hp1, hb1⟩ := paS_r hv hl (w + 1) hw
  rcases fkS_r (fun k => addS (mvS X ((w : Int) + 1) (paS X w) k) (bhS X (xn X - 1 - (w + 1)) k)) (bhS X (xn X - 1 - w) (paS X w) - xo X w (paS X w)) 24 with h | h
  · rw [e] at h
    omega
  · rw [e] at h
    exact h.2.1
def pfS (X : KX) : Nat → Int
  | 0 => 0
  | w + 1 => pfS X w + (xo X w (paS X w) + (if w = 0 then 0 else mvS X w (paS X (w - 1)) (paS X w)))
theorem pf_ls {X : KX} (hv : xV X) (hl : lsS X < 1000000000) : ∀ w : Nat, w < xn X → pfS X (w + 1) + (bhS X (xn X - 1 - w) (paS X w) - xo X w (paS X w)) = lsS X
  | 0, hw => by
    have e : lsS X = mnS (bhS X (xn X - 1)) 24 := by unfold lsS; rw [if_neg (by omega)]
    obtain ⟨hp, hb⟩ := paS_r hv hl 0 hw
    have e2 : bhS X (xn X - 1) (paS X 0) = lsS X := by
      rcases fkS_r (bhS X (xn X - 1)) (lsS X) 24 with h | h
      · have : paS X 0 = fkS (bhS X (xn X - 1)) (lsS X) 24 := rfl
        omega
      · exact h.2.1
    rw [pfS, pfS, if_pos rfl, Nat.sub_zero, e2]
    omega
  | w + 1, hw => by
    have ih := pf_ls hv hl w (by omega)
    have ch := pa_ch hv hl hw
    obtain ⟨hp, hb⟩ := paS_r hv hl w (by omega)
    obtain ⟨r1, r2, r3⟩ := bh_rest hw hb
    rw [← ch] at ih r3
    obtain ⟨g1, g2, g3⟩ := addS_lt r3
    rw [g3] at ih
    rw [pfS, if_neg (by omega), show w + 1 - 1 = w by omega]
    have ec : ((w + 1 : Nat) : Int) = (w : Int) + 1 := by omega
    rw [ec]
    omega
