/-! ===== second ===== -/
theorem ah_pf {X : KX} (hv : xV X) (hl : lsS X < 1000000000) : ∀ w : Nat, w < xn X → ahS X w (paS X w) = pfS X (w + 1)
  | 0, hw => by
    rw [pfS, pfS, if_pos rfl, ahS]
    show xo X 0 (paS X 0) = 0 + (xo X 0 (paS X 0) + 0)
    omega
  | w + 1, hw => by
    have hn := hv.1
    have ih := ah_pf hv hl w (by omega)
    obtain ⟨hp, hb⟩ := paS_r hv hl w (by omega)
    obtain ⟨hp1, hb1⟩ := paS_r hv hl (w + 1) hw
    have ch := pa_ch hv hl hw
    obtain ⟨_, _, r3⟩ := bh_rest hw hb
    rw [← ch] at r3
    obtain ⟨g1, g2, g3⟩ := addS_lt r3
    have p1 := pf_ls hv hl (w + 1) hw
    have p0 := pf_ls hv hl w (by omega)
    have t := th_ls hv (w + 1) hw (paS X (w + 1)) hp1.1 hp1.2
    have up := ah_le hv hw hp hp1
    have ra := ahS_r hv w (paS X w) hp.1 hp.2
    have ra1 := ahS_r hv (w + 1) (paS X (w + 1)) hp1.1 hp1.2
    have rb := bh_own hv hw hp1
    have ro := hv.2.1 ((w + 1 : Nat) : Int) (paS X (w + 1)) hp1.1 hp1.2
    have lr := lsS_r hv
    have ec : ((w + 1 : Nat) : Int) = (w : Int) + 1 := by omega
    have fa : ahS X w (paS X w) < 1000000000 := by
      rw [ih]
      have := bh_own hv (w := w) (by omega) hp
      omega
    rw [ec] at p1 ro rb
    have rv := mvS_r hv ((w : Int) + 1) hp hp1
    have eu : addS (xo X ((w : Int) + 1) (paS X (w + 1))) (addS (ahS X w (paS X w)) (mvS X ((w : Int) + 1) (paS X w) (paS X (w + 1)))) = xo X ((w : Int) + 1) (paS X (w + 1)) + (ahS X w (paS X w) + mvS X ((w : Int) + 1) (paS X w) (paS X (w + 1))) := by
      have e1 : addS (ahS X w (paS X w)) (mvS X ((w : Int) + 1) (paS X w) (paS X (w + 1))) = ahS X w (paS X w) + mvS X ((w : Int) + 1) (paS X w) (paS X (w + 1)) := by unfold addS; rw [if_pos ⟨fa, g1⟩]
      rw [e1]
      unfold addS
      rw [if_pos ⟨by omega, by omega⟩]
    rw [eu] at up
    unfold thS at t
    rw [if_pos ⟨by omega, hb1⟩, ec] at t
    have ep : pfS X (w + 1 + 1) = pfS X (w + 1) + (xo X ((w : Int) + 1) (paS X (w + 1)) + mvS X ((w : Int) + 1) (paS X w) (paS X (w + 1))) := by
      rw [pfS, if_neg (by omega), show w + 1 - 1 = w by omega, ec]
    rw [ep] at p1 ⊢
    omega
def deS (X : KX) (w : Nat) (k : Int) : Int := addS (addS (pfS X w) (if w = 0 then 0 else mvS X w (paS X (w - 1)) k)) (bhS X (xn X - 1 - w) k)
def awS (X : KX) (g : Int → Int) (w : Nat) : Nat → Int
  | 0 => 1000000000
  | k + 1 => if (k : Int) ≠ paS X w ∧ g k < awS X g w k then g k else awS X g w k
theorem awS_le (X : KX) (g : Int → Int) (w : Nat) : ∀ k : Nat, awS X g w k ≤ 1000000000
  | 0 => Int.le_refl _
  | k + 1 => by
    have := awS_le X g w k
    rw [awS]
    split <;> omega
theorem awS_lo (X : KX) (g : Int → Int) (w : Nat) : ∀ (j : Nat) (k : Int), 0 ≤ k → k < j → k ≠ paS X w → awS X g w j ≤ g k
  | 0, k, a, c, _ => by omega
  | j + 1, k, a, c, n => by
    rw [awS]
    by_cases e : k = j
    · subst e
      split
      · exact Int.le_refl _
      · next h =>
        have : ¬ g j < awS X g w j := fun hh => h ⟨n, hh⟩
        omega
    · have := awS_lo X g w j k a (by omega) n
      split
      · next h => have := h.2; omega
      · exact this
theorem awS_at (X : KX) (g : Int → Int) (w : Nat) : ∀ j : Nat, awS X g w j = 1000000000 ∨ ∃ k : Int, (0 ≤ k ∧ k < j) ∧ k ≠ paS X w ∧ g k = awS X g w j
  | 0 => Or.inl rfl
  | j + 1 => by
    rw [awS]
    split
    · next h => exact Or.inr ⟨j, by omega, h.1, rfl⟩
    · rcases awS_at X g w j with e | ⟨k, hk, n, e⟩
      · exact Or.inl e
      · exact Or.inr ⟨k, by omega, n, e⟩
def scS (a : Nat → Int) : Nat → Int × Int
  | 0 => (1000000000, -1)
  | w + 1 => if a w < (scS a w).1 then (a w, (w : Int)) else scS a w
theorem scS_le (a : Nat → Int) : ∀ w : Nat, (scS a w).1 ≤ 1000000000
  | 0 => Int.le_refl _
  | w + 1 => by
    have := scS_le a w
    rw [scS]
    split
    · dsimp only; omega
    · exact this
theorem scS_s (a : Nat → Int) (w : Nat) : (scS a (w + 1)).1 ≤ (scS a w).1 ∧ (scS a (w + 1)).1 ≤ a w ∧ ((scS a (w + 1)).1 = a w ∨ (scS a (w + 1)).1 = (scS a w).1) := by
  rw [scS]
  split
  · dsimp only; omega
  · omega
def asS (X : KX) (w : Nat) : Int := awS X (thS X w) w 24
def dvS (X : KX) (w : Nat) : Int := awS X (deS X w) w 24
theorem pf_r {X : KX} (hv : xV X) (hl : lsS X < 1000000000) {w : Nat} (hw : w < xn X) : 0 ≤ pfS X w ∧ pfS X w ≤ 60000000 := by
  have hn := hv.1
  cases w with
  | zero => rw [pfS]; omega
  | succ w =>
    obtain ⟨hp, hb⟩ := paS_r hv hl w (by omega)
    have e := ah_pf hv hl w (by omega)
    have p := pf_ls hv hl w (by omega)
    have ra := ahS_r hv w (paS X w) hp.1 hp.2
    have bo := bh_own hv (w := w) (by omega) hp
    have lr := lsS_r hv
    omega
/-- through a key beside the path, and leaving the path just there -/
theorem th_de {X : KX} (hv : xV X) (hl : lsS X < 1000000000) {w : Nat} (hw : w < xn X) {k : Int} (hk : 0 ≤ k ∧ k < 24) : thS X w k ≤ deS X w k := by
  have hn := hv.1
  have pr := pf_r hv hl hw
  have rb := bhS_r hv (xn X - 1 - w) k hk.1 hk.2
  have bo := bh_own hv hw hk
  have tr := thS_r hv hw hk
  have ro := hv.2.1 w k hk.1 hk.2
  cases w with
  | zero =>
    unfold deS thS
    rw [if_pos rfl, Nat.sub_zero] at *
    rw [show pfS X 0 = 0 from rfl, ahS]
    have e0 : addS 0 0 = 0 := rfl
    rw [e0, (addS_0 (by omega)).1]
    by_cases c : xo X 0 k < 1000000000 ∧ bhS X (xn X - 1) k < 1000000000
    · rw [if_pos c]
      show xo X 0 k + bhS X (xn X - 1) k - xo X 0 k ≤ _
      omega
    · rw [if_neg c]
      have bo2 : xo X 0 k ≤ bhS X (xn X - 1) k := bo
      omega
  | succ w =>
    obtain ⟨hp, hb⟩ := paS_r hv hl w (by omega)
    have e := ah_pf hv hl w (by omega)
    have up := ah_le hv hw hp hk
    rw [e] at up
    have rv := mvS_r hv ((w : Int) + 1) hp hk
    have ec : ((w + 1 : Nat) : Int) = (w : Int) + 1 := by omega
    have ra1 := ahS_r hv (w + 1) k hk.1 hk.2
    unfold deS
    rw [if_neg (by omega), show w + 1 - 1 = w by omega, ec]
    rw [ec] at ro bo
    by_cases c : mvS X ((w : Int) + 1) (paS X w) k < 1000000000 ∧ bhS X (xn X - 1 - (w + 1)) k < 1000000000
    · have e1 : addS (pfS X (w + 1)) (mvS X ((w : Int) + 1) (paS X w) k) = pfS X (w + 1) + mvS X ((w : Int) + 1) (paS X w) k := by unfold addS; rw [if_pos ⟨by omega, c.1⟩]
      have e2 : addS (pfS X (w + 1) + mvS X ((w : Int) + 1) (paS X w) k) (bhS X (xn X - 1 - (w + 1)) k) = pfS X (w + 1) + mvS X ((w : Int) + 1) (paS X w) k + bhS X (xn X - 1 - (w + 1)) k := by unfold addS; rw [if_pos ⟨by omega, c.2⟩]
      rw [e1] at up ⊢
      rw [e2]
      have fo : xo X ((w : Int) + 1) k < 1000000000 := by omega
      have e3 : addS (xo X ((w : Int) + 1) k) (pfS X (w + 1) + mvS X ((w : Int) + 1) (paS X w) k) = xo X ((w : Int) + 1) k + (pfS X (w + 1) + mvS X ((w : Int) + 1) (paS X w) k) := by unfold addS; rw [if_pos ⟨fo, by omega⟩]
      rw [e3] at up
      unfold thS
      rw [if_pos ⟨by omega, c.2⟩, ec]
      omega
    · have e2 : addS (addS (pfS X (w + 1)) (mvS X ((w : Int) + 1) (paS X w) k)) (bhS X (xn X - 1 - (w + 1)) k) = 1000000000 := by
        by_cases c1 : mvS X ((w : Int) + 1) (paS X w) k < 1000000000
        · unfold addS
          rw [if_neg (fun h => c ⟨c1, h.2⟩)]
        · have e1 : addS (pfS X (w + 1)) (mvS X ((w : Int) + 1) (paS X w) k) = 1000000000 := by unfold addS; rw [if_neg (fun h => c1 h.2)]
          rw [e1]
          unfold addS
          rw [if_neg (by omega)]
      rw [e2]
      omega
theorem th_sc {X : KX} (hv : xV X) (hl : lsS X < 1000000000) : ∀ w : Nat, w < xn X → ∀ k, 0 ≤ k → k < 24 → k ≠ paS X w → (scS (dvS X) (w + 1)).1 ≤ thS X w k
  | 0, hw, k, a, c, n => by
    have s := scS_s (dvS X) 0
    have lo := awS_lo X (deS X 0) 0 24 k a (by omega) n
    have e : dvS X 0 = awS X (deS X 0) 0 24 := rfl
    have le := scS_le (dvS X) 1
    have hn := hv.1
    have rb := bhS_r hv (xn X - 1) k a c
    have bo := bh_own hv hw ⟨a, c⟩
    have ed : deS X 0 k = bhS X (xn X - 1) k := by
      unfold deS
      rw [if_pos rfl, show pfS X 0 = 0 from rfl, show addS 0 0 = 0 from rfl, Nat.sub_zero]
      exact (addS_0 (by omega)).1
    unfold thS
    rw [Nat.sub_zero, ahS]
    by_cases c2 : xo X 0 k < 1000000000 ∧ bhS X (xn X - 1) k < 1000000000
    · rw [if_pos c2]
      show _ ≤ xo X 0 k + bhS X (xn X - 1) k - xo X 0 k
      omega
    · rw [if_neg c2]
      exact le
  | w + 1, hw, k, a, c, n => by
    have hn := hv.1
    have s := scS_s (dvS X) (w + 1)
    have le := scS_le (dvS X) (w + 1 + 1)
    by_cases h : thS X (w + 1) k < 1000000000
    · obtain ⟨o, ho, h0, h1, h2, h3⟩ := th_step hv hw ⟨a, c⟩ h
      by_cases e : o = paS X w
      · have lo := awS_lo X (deS X (w + 1)) (w + 1) 24 k a (by omega) n
        have ed : dvS X (w + 1) = awS X (deS X (w + 1)) (w + 1) 24 := rfl
        have ep := ah_pf hv hl w (by omega)
        have pr := pf_r hv hl hw
        obtain ⟨g1, g2, g3⟩ := addS_lt h3
        rw [e] at h0 h2 g1 g3
        rw [ep] at h2
        have rb := bhS_r hv (xn X - 1 - (w + 1)) k a c
        obtain ⟨hp, _⟩ := paS_r hv hl w (by omega)
        have rv := mvS_r hv ((w : Int) + 1) hp ⟨a, c⟩
        have edd : deS X (w + 1) k = pfS X (w + 1) + mvS X ((w : Int) + 1) (paS X w) k + bhS X (xn X - 1 - (w + 1)) k := by
          unfold deS
          rw [if_neg (by omega), show w + 1 - 1 = w by omega, show ((w + 1 : Nat) : Int) = (w : Int) + 1 by omega]
          have e1 : addS (pfS X (w + 1)) (mvS X ((w : Int) + 1) (paS X w) k) = pfS X (w + 1) + mvS X ((w : Int) + 1) (paS X w) k := by unfold addS; rw [if_pos ⟨by omega, g1⟩]
          rw [e1]
          unfold addS
          rw [if_pos ⟨by omega, g2⟩]
        omega
      · have ih := th_sc hv hl w (by omega) o ho.1 ho.2 e
        omega
    · omega
theorem sc_ad {X : KX} (hv : xV X) (hl : lsS X < 1000000000) : ∀ w : Nat, w ≤ xn X → scS (asS X) w = scS (dvS X) w
  | 0, _ => by rw [scS, scS]
  | w + 1, hw => by
    have ih := sc_ad hv hl w (by omega)
    have s := scS_s (dvS X) w
    have l1 : asS X w ≤ dvS X w := by
      rcases awS_at X (deS X w) w 24 with e | ⟨k, hk, n, e⟩
      · have := awS_le X (thS X w) w 24
        have e9 : dvS X w = awS X (deS X w) w 24 := rfl
        have e8 : asS X w = awS X (thS X w) w 24 := rfl
        omega
      · have h1 := awS_lo X (thS X w) w 24 k hk.1 hk.2 n
        have h2 := th_de hv hl (w := w) (by omega) (k := k) (by omega)
        have e9 : dvS X w = awS X (deS X w) w 24 := rfl
        have e8 : asS X w = awS X (thS X w) w 24 := rfl
        omega
    have l2 : (scS (dvS X) (w + 1)).1 ≤ asS X w := by
      rcases awS_at X (thS X w) w 24 with e | ⟨k, hk, n, e⟩
      · have := scS_le (dvS X) (w + 1)
        have e8 : asS X w = awS X (thS X w) w 24 := rfl
        omega
      · have := th_sc hv hl w (by omega) k hk.1 (by omega) n
        have e8 : asS X w = awS X (thS X w) w 24 := rfl
        omega
    rw [scS] at l2 s
    rw [scS, scS, ih]
    by_cases c : dvS X w < (scS (dvS X) w).1
    · rw [if_pos c] at l2
      dsimp only at l2
      rw [if_pos c, if_pos (by omega), show asS X w = dvS X w by omega]
    · rw [if_neg c] at l2
      rw [if_neg c, if_neg (by omega)]
