/-! ===== within, pure: exactly so many moves and at most so many ===== -/
theorem roW_r {X : KX} (hv : xV X) {a : Int} {g : Int → Int} {B : Int} (ha : fnB B a) (hg : ∀ o, 0 ≤ o → o < 24 → fnB B (g o)) (w : Int) {k : Int} (hk : 0 ≤ k ∧ k < 24) (j : Nat) (hj : j ≤ 24) : fnB (B + 1200000) (mnA a (roW X g w k) j) := by
  rcases mnA_at a (roW X g w k) j with e | ⟨o, ho, e⟩
  · rw [e]; exact fnB_mo ha (by omega)
  · rw [← e]
    unfold roW
    split
    · exact Or.inl rfl
    · exact fnB_add (hg o ho.1 (by omega)) (mvS_r hv w ⟨ho.1, by omega⟩ hk)
theorem rdS_r {X : KX} (hv : xV X) : ∀ (w m : Nat) (k : Int), 0 ≤ k → k < 24 → fnB (1209900 * ((w : Int) + 1)) (rdS X w m k)
  | 0, 0, k, a, c => by
    have := hv.2.1 0 k a c
    rw [rdS]
    unfold fnB
    omega
  | 0, m + 1, k, a, c => Or.inl (by rw [rdS])
  | w + 1, 0, k, a, c => by
    have h1 : fnB 9900 (xo X ((w : Int) + 1) k) := hv.2.1 ((w : Int) + 1) k a c
    rw [rdS]
    exact fnB_mo (fnB_add (rdS_r hv w 0 k a c) h1) (by omega)
  | w + 1, m + 1, k, a, c => by
    have h1 : fnB 9900 (xo X ((w : Int) + 1) k) := hv.2.1 ((w : Int) + 1) k a c
    rw [rdS]
    exact fnB_mo (fnB_add (roW_r hv (rdS_r hv w (m + 1) k a c) (fun o o0 o1 => rdS_r hv w m o o0 o1) ((w : Int) + 1) ⟨a, c⟩ 24 (Nat.le_refl _)) h1) (by omega)
theorem fnB_le {B v : Int} (h : fnB B v) (hB : B ≤ 1000000000) : 0 ≤ v ∧ v ≤ 1000000000 := by
  unfold fnB at h
  omega
theorem cm_le {X : KX} (hv : xV X) {w : Nat} (hw : w < xn X) (m : Nat) {k : Int} (hk : 0 ≤ k ∧ k < 24) : 0 ≤ cmS X w m k ∧ cmS X w m k ≤ 1000000000 := by
  have hn := hv.1
  exact fnB_le (cmS_r hv w m k hk.1 hk.2) (by omega)
theorem rd_le {X : KX} (hv : xV X) {w : Nat} (hw : w < xn X) (m : Nat) {k : Int} (hk : 0 ≤ k ∧ k < 24) : 0 ≤ rdS X w m k ∧ rdS X w m k ≤ 1000000000 := by
  have hn := hv.1
  exact fnB_le (rdS_r hv w m k hk.1 hk.2) (by omega)
theorem cm_rd {X : KX} (hv : xV X) : ∀ (w m : Nat) (k : Int), w < xn X → 0 ≤ k → k < 24 → cmS X w m k ≤ rdS X w m k
  | 0, 0, k, _, a, c => by rw [cmS, rdS]; exact Int.le_refl _
  | 0, m + 1, k, hw, a, c => by
    have := cm_le hv hw (m + 1) ⟨a, c⟩
    rw [rdS]
    exact this.2
  | w + 1, 0, k, hw, a, c => by
    have h := (cm_le hv hw 0 ⟨a, c⟩).2
    rw [cmS] at h ⊢
    rw [rdS, addS_c (rdS X w 0 k)]
    exact addS_le (Int.le_refl _) (cm_rd hv w 0 k (by omega) a c) h
  | w + 1, m + 1, k, hw, a, c => by
    have h := (cm_le hv hw (m + 1) ⟨a, c⟩).2
    have r1 := cm_le hv (show w < xn X by omega) (m + 1) ⟨a, c⟩
    rw [cmS] at h ⊢
    rw [rdS, addS_c (mnA _ _ 24)]
    refine addS_le (Int.le_refl _) ?_ h
    have i1 := cm_rd hv w (m + 1) k (by omega) a c
    have ml := mnS_le (fun o => addS (cmS X w m o) (xs X o k)) 24
    have top : (if xk X ((w : Int) + 1) = 1 then cmS X w (m + 1) k else if mnS (fun o => addS (cmS X w m o) (xs X o k)) 24 < cmS X w (m + 1) k then mnS (fun o => addS (cmS X w m o) (xs X o k)) 24 else cmS X w (m + 1) k) ≤ cmS X w (m + 1) k := by
      split
      · exact Int.le_refl _
      · split
        · omega
        · exact Int.le_refl _
    rcases mnA_at (rdS X w (m + 1) k) (roW X (rdS X w m) ((w : Int) + 1) k) 24 with e | ⟨o, ho, e⟩
    · rw [e]
      exact Int.le_trans top i1
    · rw [← e]
      unfold roW
      by_cases ck : o = k
      · rw [if_pos ck]
        exact Int.le_trans top r1.2
      · rw [if_neg ck]
        by_cases cx : xk X ((w : Int) + 1) = 1
        · have : mvS X ((w : Int) + 1) o k = 1000000000 := by unfold mvS; rw [if_pos ⟨cx, ck⟩]
          rw [this]
          have e9 : addS (rdS X w m o) 1000000000 = 1000000000 := by unfold addS; rw [if_neg (by omega)]
          rw [e9]
          exact Int.le_trans top r1.2
        · have : mvS X ((w : Int) + 1) o k = xs X o k := by unfold mvS; rw [if_neg (fun h => cx h.1)]
          rw [this, if_neg cx]
          have h1 := mnS_lo (fun o => addS (cmS X w m o) (xs X o k)) 24 o ho.1 ho.2
          have q := fnB_add (C := 1200000) (cmS_r hv w m o ho.1 (by omega)) (Or.inr (hv.2.2.2.1 o k ho.1 (by omega) a c))
          have hn := hv.1
          have h2 : addS (cmS X w m o) (xs X o k) ≤ addS (rdS X w m o) (xs X o k) := addS_le (cm_rd hv w m o (by omega) ho.1 (by omega)) (Int.le_refl _) (fnB_le q (by omega)).2
          have h3 : mnS (fun o => addS (cmS X w m o) (xs X o k)) 24 ≤ addS (rdS X w m o) (xs X o k) := Int.le_trans h1 h2
          split <;> omega
theorem rd_stay {X : KX} (hv : xV X) {w : Nat} (hw : w + 1 < xn X) (m : Nat) {k v : Int} (hk : 0 ≤ k ∧ k < 24) (h : rdS X w m k ≤ v) : rdS X (w + 1) m k ≤ addS (xo X ((w : Int) + 1) k) v := by
  have hn := hv.1
  have r1 := (rd_le hv hw m hk).2
  have h1 : rdS X (w + 1) m k ≤ addS (rdS X w m k) (xo X ((w : Int) + 1) k) := by
    cases m with
    | zero => rw [rdS]; exact Int.le_refl _
    | succ m =>
      rw [rdS] at r1 ⊢
      exact addS_le (mnA_lo _ _ 24).1 (Int.le_refl _) r1
  refine Int.le_trans h1 ?_
  rw [addS_c]
  exact addS_le (Int.le_refl _) h (fnB_le (fnB_add (B := 9900) (hv.2.1 ((w : Int) + 1) k hk.1 hk.2) (rdS_r hv w m k hk.1 hk.2)) (by omega)).2
theorem rd_move {X : KX} (hv : xV X) {w : Nat} (hw : w + 1 < xn X) (m : Nat) {o k v : Int} (hk : 0 ≤ k ∧ k < 24) (ho : 0 ≤ o ∧ o < 24) (hne : o ≠ k) (h : rdS X w m o ≤ v) : rdS X (w + 1) (m + 1) k ≤ addS (xo X ((w : Int) + 1) k) (addS v (mvS X ((w : Int) + 1) o k)) := by
  have hn := hv.1
  have r1 := (rd_le hv hw (m + 1) hk).2
  rw [rdS] at r1 ⊢
  rw [addS_c (xo X ((w : Int) + 1) k)]
  refine addS_le ?_ (Int.le_refl _) r1
  have h1 := (mnA_lo (rdS X w (m + 1) k) (roW X (rdS X w m) ((w : Int) + 1) k) 24).2 o ho.1 (by omega)
  have e : roW X (rdS X w m) ((w : Int) + 1) k o = addS (rdS X w m o) (mvS X ((w : Int) + 1) o k) := by unfold roW; rw [if_neg hne]
  rw [e] at h1
  exact Int.le_trans h1 (addS_le h (Int.le_refl _) (fnB_le (fnB_add (rdS_r hv w m o ho.1 ho.2) (mvS_r hv ((w : Int) + 1) ho hk)) (by omega)).2)
theorem rd_cm {X : KX} (hv : xV X) : ∀ (w m : Nat) (k : Int), w < xn X → 0 ≤ k → k < 24 → cmS X w m k < 1000000000 → ∃ m', m' ≤ m ∧ rdS X w m' k ≤ cmS X w m k
  | 0, m, k, _, a, c, h => ⟨0, by omega, by rw [rdS, cmS]; exact Int.le_refl _⟩
  | w + 1, 0, k, hw, a, c, h => by
    rw [cmS] at h ⊢
    obtain ⟨m', q1, q2⟩ := rd_cm hv w 0 k (by omega) a c (addS_lt h).2.1
    exact ⟨m', q1, rd_stay hv hw m' ⟨a, c⟩ q2⟩
  | w + 1, m + 1, k, hw, a, c, h => by
    rw [cmS] at h ⊢
    have h2 := (addS_lt h).2.1
    by_cases cx : xk X ((w : Int) + 1) = 1
    · rw [if_pos cx] at h2 ⊢
      obtain ⟨m', q1, q2⟩ := rd_cm hv w (m + 1) k (by omega) a c h2
      exact ⟨m', q1, rd_stay hv hw m' ⟨a, c⟩ q2⟩
    · rw [if_neg cx] at h2 ⊢
      by_cases cm : mnS (fun o => addS (cmS X w m o) (xs X o k)) 24 < cmS X w (m + 1) k
      · rw [if_pos cm] at h2 ⊢
        rcases mnS_at (fun o => addS (cmS X w m o) (xs X o k)) 24 with e | ⟨o, ho, e⟩
        · omega
        · rw [← e] at h2 ⊢
          obtain ⟨g1, g2, g3⟩ := addS_lt h2
          obtain ⟨m', q1, q2⟩ := rd_cm hv w m o (by omega) ho.1 (by omega) g1
          by_cases ck : o = k
          · subst ck
            have e0 : addS (cmS X w m o) (xs X o o) = cmS X w m o := by rw [g3, hv.2.2.2.2 o a c, Int.add_zero]
            rw [e0]
            exact ⟨m', by omega, rd_stay hv hw m' ⟨a, c⟩ q2⟩
          · have em : mvS X ((w : Int) + 1) o k = xs X o k := by unfold mvS; rw [if_neg (fun h => cx h.1)]
            have := rd_move hv hw m' ⟨a, c⟩ ⟨ho.1, by omega⟩ ck q2
            rw [em] at this
            exact ⟨m' + 1, by omega, this⟩
      · rw [if_neg cm] at h2 ⊢
        obtain ⟨m', q1, q2⟩ := rd_cm hv w (m + 1) k (by omega) a c h2
        exact ⟨m', q1, rd_stay hv hw m' ⟨a, c⟩ q2⟩
def rfS (X : KX) (w : Nat) (c : Int) : Int := rdS X w (c / 24).toNat (c % 24)
theorem rfS_e (X : KX) (w m : Nat) {k : Int} (hk : 0 ≤ k ∧ k < 24) : rfS X w (24 * (m : Int) + k) = rdS X w m k := by
  unfold rfS
  rw [show (24 * (m : Int) + k) / 24 = m by omega, show (24 * (m : Int) + k) % 24 = k by omega, Int.toNat_natCast]
theorem rf_cm {X : KX} (hv : xV X) {w : Nat} (hw : w < xn X) (n : Nat) : mnS (rfS X w) (24 * (n + 1)) = mnS (cmS X w n) 24 := by
  refine Int.le_antisymm ?_ ?_
  · rcases mnS_at (cmS X w n) 24 with e | ⟨k, hk, e⟩
    · rw [e]; exact mnS_le _ _
    · rw [← e]
      by_cases c : cmS X w n k < 1000000000
      · obtain ⟨m', q1, q2⟩ := rd_cm hv w n k hw hk.1 (by omega) c
        have := mnS_lo (rfS X w) (24 * (n + 1)) (24 * (m' : Int) + k) (by omega) (by omega)
        rw [rfS_e X w m' ⟨hk.1, by omega⟩] at this
        omega
      · have := mnS_le (rfS X w) (24 * (n + 1))
        omega
  · rcases mnS_at (rfS X w) (24 * (n + 1)) with e | ⟨c, hc, e⟩
    · rw [e]; exact mnS_le _ _
    · rw [← e]
      have h1 := mnS_lo (cmS X w n) 24 (c % 24) (by omega) (by omega)
      have h2 := cm_an2 hv hw (k := c % 24) (by omega) (c / 24).toNat (n - (c / 24).toNat)
      have h3 := cm_rd hv w (c / 24).toNat (c % 24) hw (by omega) (by omega)
      rw [show (c / 24).toNat + (n - (c / 24).toNat) = n by omega] at h2
      unfold rfS
      omega
/-! with as many moves as THE PATH has -/
theorem cm_ah {X : KX} (hv : xV X) : ∀ (w m : Nat) (k : Int), w < xn X → 0 ≤ k → k < 24 → ahS X w k ≤ cmS X w m k
  | 0, m, k, _, _, _ => by rw [ahS, cmS]; exact Int.le_refl _
  | w + 1, m, k, hw, a, c => by
    have hn := hv.1
    have r := ahS_r hv (w + 1) k a c
    have r1 : ahS X (w + 1) k ≤ 1000000000 := by omega
    have rw0 := ahS_r hv w k a c
    have st : (if xk X ((w : Int) + 1) = 1 then ahS X w k else mnS (fun o => addS (ahS X w o) (xs X o k)) 24) ≤ ahS X w k := by
      split
      · exact Int.le_refl _
      · have h1 := mnS_lo (fun o => addS (ahS X w o) (xs X o k)) 24 k a (by omega)
        have h2 : addS (ahS X w k) (xs X k k) = ahS X w k := by rw [hv.2.2.2.2 k a c]; exact (addS_0 (by omega)).2
        rw [← h2]
        rw [h2]
        have h3 : mnS (fun o => addS (ahS X w o) (xs X o k)) 24 ≤ addS (ahS X w k) (xs X k k) := h1
        omega
    rw [ahS] at r1 ⊢
    cases m with
    | zero =>
      rw [cmS]
      exact addS_le (Int.le_refl _) (Int.le_trans st (cm_ah hv w 0 k (by omega) a c)) r1
    | succ m =>
      rw [cmS]
      refine addS_le (Int.le_refl _) ?_ r1
      have i1 := Int.le_trans st (cm_ah hv w (m + 1) k (by omega) a c)
      by_cases cx : xk X ((w : Int) + 1) = 1
      · rw [if_pos cx] at i1
        rw [if_pos cx, if_pos cx]; exact i1
      · rw [if_neg cx] at i1
        rw [if_neg cx, if_neg cx]
        have hm : mnS (fun o => addS (ahS X w o) (xs X o k)) 24 ≤ mnS (fun o => addS (cmS X w m o) (xs X o k)) 24 := by
          rcases mnS_at (fun o => addS (cmS X w m o) (xs X o k)) 24 with e | ⟨o, ho, e⟩
          · rw [e]; exact mnS_le _ 24
          · rw [← e]
            refine Int.le_trans (mnS_lo _ 24 o ho.1 ho.2) ?_
            have q := fnB_add (C := 1200000) (ahS_r hv w o ho.1 (by omega)) (Or.inr (hv.2.2.2.1 o k ho.1 (by omega) a c))
            exact addS_le (cm_ah hv w m o (by omega) ho.1 (by omega)) (Int.le_refl _) (fnB_le q (by omega)).2
        split <;> omega
theorem cm_stay {X : KX} (hv : xV X) {w : Nat} (hw : w + 1 < xn X) (m : Nat) {k : Int} (hk : 0 ≤ k ∧ k < 24) : cmS X (w + 1) m k ≤ addS (xo X ((w : Int) + 1) k) (cmS X w m k) := by
  have r1 := (cm_le hv hw m hk).2
  cases m with
  | zero => rw [cmS]; exact Int.le_refl _
  | succ m =>
    rw [cmS] at r1 ⊢
    refine addS_le (Int.le_refl _) ?_ r1
    split
    · exact Int.le_refl _
    · split
      · omega
      · exact Int.le_refl _
theorem cm_move {X : KX} (hv : xV X) {w : Nat} (hw : w + 1 < xn X) (m : Nat) {o k : Int} (hk : 0 ≤ k ∧ k < 24) (ho : 0 ≤ o ∧ o < 24) (cx : xk X ((w : Int) + 1) ≠ 1) : cmS X (w + 1) (m + 1) k ≤ addS (xo X ((w : Int) + 1) k) (addS (cmS X w m o) (xs X o k)) := by
  have r1 := (cm_le hv hw (m + 1) hk).2
  rw [cmS] at r1 ⊢
  refine addS_le (Int.le_refl _) ?_ r1
  rw [if_neg cx]
  have h1 : mnS (fun o => addS (cmS X w m o) (xs X o k)) 24 ≤ addS (cmS X w m o) (xs X o k) := mnS_lo (fun o => addS (cmS X w m o) (xs X o k)) 24 o ho.1 (by omega)
  split <;> omega
theorem pf_s {X : KX} (hv : xV X) (hl : lsS X < 1000000000) {w : Nat} (hw : w + 1 < xn X) : pfS X (w + 2) = pfS X (w + 1) + (xo X ((w : Int) + 1) (paS X (w + 1)) + mvS X ((w : Int) + 1) (paS X w) (paS X (w + 1))) ∧ mvS X ((w : Int) + 1) (paS X w) (paS X (w + 1)) < 1000000000 ∧ xo X ((w : Int) + 1) (paS X (w + 1)) < 1000000000 := by
  obtain ⟨hp, hb⟩ := paS_r hv hl w (by omega)
  obtain ⟨hp1, hb1⟩ := paS_r hv hl (w + 1) hw
  obtain ⟨r1, r2, r3⟩ := bh_rest hw hb
  rw [← pa_ch hv hl hw] at r3
  have o1 := bh_own hv hw hp1
  have ec : ((w + 1 : Nat) : Int) = (w : Int) + 1 := by omega
  rw [ec] at o1
  refine ⟨?_, (addS_lt r3).1, by omega⟩
  rw [pfS, if_neg (by omega), show w + 1 - 1 = w by omega, ec]
theorem cm_pf {X : KX} (hv : xV X) (hl : lsS X < 1000000000) : ∀ (w m : Nat), w < xn X → sgS (paS X) (w + 1) ≤ (m : Int) + 1 → cmS X w m (paS X w) ≤ pfS X (w + 1)
  | 0, m, hw, hm => by
    rw [cmS, pfS, pfS, if_pos rfl]
    have : ((0 : Nat) : Int) = 0 := rfl
    rw [this]
    omega
  | w + 1, m, hw, hm => by
    obtain ⟨hp, hb⟩ := paS_r hv hl w (by omega)
    obtain ⟨hp1, hb1⟩ := paS_r hv hl (w + 1) hw
    obtain ⟨e1, e2, e3⟩ := pf_s hv hl hw
    have pr : 0 ≤ pfS X (w + 1) ∧ pfS X (w + 1) ≤ 60000000 := pf_r hv hl hw
    by_cases c : paS X (w + 1) = paS X w
    · have ns : ¬ stW (paS X) (w + 1) := by
        intro h
        rcases h with h | h
        · omega
        · exact h c
      rw [sgS_f ns] at hm
      have ih := cm_pf hv hl w m (by omega) hm
      have h1 := cm_stay hv hw m hp1
      rw [c] at h1 e1 e3 ⊢
      have m0 : mvS X ((w : Int) + 1) (paS X w) (paS X w) = 0 := by
        unfold mvS
        rw [if_neg (fun h => h.2 rfl), hv.2.2.2.2 _ hp.1 hp.2]
      rw [m0] at e1
      have h2 : addS (xo X ((w : Int) + 1) (paS X w)) (cmS X w m (paS X w)) = xo X ((w : Int) + 1) (paS X w) + cmS X w m (paS X w) := by
        unfold addS
        rw [if_pos ⟨e3, by omega⟩]
      rw [h2] at h1
      rw [e1]
      omega
    · have ys : stW (paS X) (w + 1) := Or.inr c
      have cx : xk X ((w : Int) + 1) ≠ 1 := by
        intro h
        rw [paS, if_pos h] at c
        exact c rfl
      rw [sgS_t ys] at hm
      have s1 : 1 ≤ sgS (paS X) (w + 1) := by
        have a1 := sgS_t (pa := paS X) (w := 0) (Or.inl rfl)
        have a2 := sgS_m (paS X) 1 w
        have a3 := sgS_r (paS X) 0
        rw [show 1 + w = w + 1 by omega] at a2
        have a1' : sgS (paS X) 1 = sgS (paS X) 0 + 1 := a1
        omega
      obtain ⟨m', rfl⟩ : ∃ m', m = m' + 1 := ⟨m - 1, by omega⟩
      have ih := cm_pf hv hl w m' (by omega) (by omega)
      have h1 := cm_move hv hw m' hp1 hp cx
      have em : mvS X ((w : Int) + 1) (paS X w) (paS X (w + 1)) = xs X (paS X w) (paS X (w + 1)) := by unfold mvS; rw [if_neg (fun h => cx h.1)]
      rw [em] at e1 e2
      have rs := hv.2.2.2.1 _ _ hp.1 hp.2 hp1.1 hp1.2
      have h2 : addS (cmS X w m' (paS X w)) (xs X (paS X w) (paS X (w + 1))) = cmS X w m' (paS X w) + xs X (paS X w) (paS X (w + 1)) := by
        unfold addS
        rw [if_pos ⟨by omega, e2⟩]
      have h3 : addS (xo X ((w : Int) + 1) (paS X (w + 1))) (cmS X w m' (paS X w) + xs X (paS X w) (paS X (w + 1))) = xo X ((w : Int) + 1) (paS X (w + 1)) + (cmS X w m' (paS X w) + xs X (paS X w) (paS X (w + 1))) := by
        unfold addS
        rw [if_pos ⟨e3, by omega⟩]
      rw [h2, h3] at h1
      rw [e1]
      omega
theorem ah_own {X : KX} {w : Nat} {k : Int} (h : ahS X w k < 1000000000) : xo X w k < 1000000000 := by
  cases w with
  | zero => rw [ahS] at h; exact h
  | succ w => rw [ahS] at h; exact (addS_lt h).1
theorem ls_cm {X : KX} (hv : xV X) (hl : lsS X < 1000000000) (h0 : 0 < xn X) {n : Nat} (hn : sgS (paS X) (xn X) ≤ (n : Int) + 1) : mnS (cmS X (xn X - 1) n) 24 = lsS X := by
  have hN := hv.1
  refine Int.le_antisymm ?_ ?_
  · obtain ⟨hp, hb⟩ := paS_r hv hl (xn X - 1) (by omega)
    have h1 := mnS_lo (cmS X (xn X - 1) n) 24 (paS X (xn X - 1)) hp.1 (by omega)
    have h2 := cm_pf hv hl (xn X - 1) n (by omega) (by rw [show xn X - 1 + 1 = xn X by omega]; exact hn)
    have h3 := pf_ls hv hl (xn X - 1) (by omega)
    rw [show xn X - 1 - (xn X - 1) = 0 by omega, bhS, show (xn X : Int) - 1 = ((xn X - 1 : Nat) : Int) by omega] at h3
    omega
  · rcases mnS_at (cmS X (xn X - 1) n) 24 with e | ⟨k, hk, e⟩
    · omega
    · rw [← e]
      have h1 := cm_ah hv (xn X - 1) n k (by omega) hk.1 (by omega)
      have h2 := th_ls hv (xn X - 1) (by omega) k hk.1 (by omega)
      by_cases c : ahS X (xn X - 1) k < 1000000000
      · have o1 := ah_own c
        have eb : bhS X (xn X - 1 - (xn X - 1)) k = xo X ((xn X - 1 : Nat) : Int) k := by
          rw [show xn X - 1 - (xn X - 1) = 0 by omega, bhS, show (xn X : Int) - 1 = ((xn X - 1 : Nat) : Int) by omega]
        have et : thS X (xn X - 1) k = ahS X (xn X - 1) k := by
          unfold thS
          rw [eb, if_pos ⟨c, o1⟩]
          omega
        omega
      · omega
