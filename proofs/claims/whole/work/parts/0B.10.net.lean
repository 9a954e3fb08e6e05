/-! ===== THE NET: the least ranks, 64 times the sum and the steps ===== -/
def stE (pr : Int → Int) (e : Int) : Int := 64 * pr e + 1
def prOK (pr : Int → Int) : Prop := ∀ e, 0 ≤ pr e ∧ pr e ≤ 999
def ivE (e : Int) : Int := if e = 0 then 1 else if e = 1 then 0 else e
theorem nb_iv {k e : Int} (hk : 0 ≤ k ∧ k < 24) (he : 0 ≤ e ∧ e < 4) : nbS (nbS k e) (ivE e) = k := by
  rcases (show e = 0 ∨ e = 1 ∨ e = 2 ∨ e = 3 by omega) with rfl | rfl | rfl | rfl
  all_goals (rcases (show k = 0 ∨ k = 1 ∨ k = 2 ∨ k = 3 ∨ k = 4 ∨ k = 5 ∨ k = 6 ∨ k = 7 ∨ k = 8 ∨ k = 9 ∨ k = 10 ∨ k = 11 ∨ k = 12 ∨ k = 13 ∨ k = 14 ∨ k = 15 ∨ k = 16 ∨ k = 17 ∨ k = 18 ∨ k = 19 ∨ k = 20 ∨ k = 21 ∨ k = 22 ∨ k = 23 by omega) with rfl | rfl | rfl | rfl | rfl | rfl | rfl | rfl | rfl | rfl | rfl | rfl | rfl | rfl | rfl | rfl | rfl | rfl | rfl | rfl | rfl | rfl | rfl | rfl <;> rfl)
def BS (pr : Int → Int) (t : Int) : Nat → Int → Int
  | 0, k => if k = t then 0 else 1000000000
  | r + 1, k => min (BS pr t r k) (min (min (stE pr 0 + BS pr t r (nbS k 0)) (stE pr 1 + BS pr t r (nbS k 1))) (min (stE pr 2 + BS pr t r (nbS k 2)) (stE pr 3 + BS pr t r (nbS k 3))))
theorem BS_le (pr : Int → Int) (t : Int) (r : Nat) (k : Int) : BS pr t (r + 1) k ≤ BS pr t r k := by
  rw [BS]; exact Int.min_le_left _ _
theorem BS_le2 (pr : Int → Int) (t : Int) (r : Nat) (k : Int) {e : Int} (he : 0 ≤ e ∧ e < 4) : BS pr t (r + 1) k ≤ stE pr e + BS pr t r (nbS k e) := by
  rw [BS]
  refine Int.le_trans (Int.min_le_right _ _) ?_
  rcases (show e = 0 ∨ e = 1 ∨ e = 2 ∨ e = 3 by omega) with rfl | rfl | rfl | rfl
  · exact Int.le_trans (Int.min_le_left _ _) (Int.min_le_left _ _)
  · exact Int.le_trans (Int.min_le_left _ _) (Int.min_le_right _ _)
  · exact Int.le_trans (Int.min_le_right _ _) (Int.min_le_left _ _)
  · exact Int.le_trans (Int.min_le_right _ _) (Int.min_le_right _ _)
theorem BS_ge {pr : Int → Int} {t : Int} {r : Nat} {k v : Int} (h0 : v ≤ BS pr t r k) (h1 : ∀ e, 0 ≤ e → e < 4 → v ≤ stE pr e + BS pr t r (nbS k e)) : v ≤ BS pr t (r + 1) k := by
  rw [BS]
  exact Int.le_min.mpr ⟨h0, Int.le_min.mpr ⟨Int.le_min.mpr ⟨h1 0 (by omega) (by omega), h1 1 (by omega) (by omega)⟩, Int.le_min.mpr ⟨h1 2 (by omega) (by omega), h1 3 (by omega) (by omega)⟩⟩⟩
theorem BS_anti (pr : Int → Int) (t : Int) (k : Int) (r : Nat) : ∀ j : Nat, BS pr t (r + j) k ≤ BS pr t r k
  | 0 => Int.le_refl _
  | j + 1 => Int.le_trans (BS_le pr t (r + j) k) (BS_anti pr t k r j)
theorem BS_r {pr : Int → Int} (hp : prOK pr) (t : Int) : ∀ (r : Nat) (k : Int), 0 ≤ BS pr t r k ∧ BS pr t r k ≤ 1000000000
  | 0, k => by rw [BS]; split <;> omega
  | r + 1, k => by
    refine ⟨BS_ge (BS_r hp t r k).1 (fun e a c => ?_), Int.le_trans (BS_le pr t r k) (BS_r hp t r k).2⟩
    have := (BS_r hp t r (nbS k e)).1
    have := (hp e).1
    unfold stE
    omega
theorem BS_t {pr : Int → Int} (hp : prOK pr) (t : Int) (r : Nat) : BS pr t r t = 0 := by
  have h1 := (BS_r hp t r t).1
  have h2 := BS_anti pr t t 0 r
  rw [Nat.zero_add, BS, if_pos rfl] at h2
  omega
/-! how many keys lie below -/
def cnS (d : Int → Int) (v : Int) : Nat → Int
  | 0 => 0
  | i + 1 => cnS d v i + (if d i < v then 1 else 0)
theorem cnS_r (d : Int → Int) (v : Int) : ∀ i : Nat, 0 ≤ cnS d v i ∧ cnS d v i ≤ i
  | 0 => by simp [cnS]
  | i + 1 => by
    have := cnS_r d v i
    unfold cnS
    split <;> omega
theorem cnS_lt (d : Int → Int) (v : Int) {y : Int} (hy : ¬ d y < v) (h0 : 0 ≤ y) : ∀ i : Nat, y < i → cnS d v i + 1 ≤ i
  | 0, h => by omega
  | i + 1, h => by
    have h1 := cnS_r d v i
    unfold cnS
    by_cases c : y < i
    · have := cnS_lt d v hy h0 i c
      split <;> omega
    · have e : y = i := by omega
      rw [← e, if_neg hy]
      omega
theorem cnS_mo {d d' : Int → Int} {v v' : Int} (h : ∀ x, 0 ≤ x → x < 24 → d x < v → d' x < v') : ∀ i : Nat, i ≤ 24 → cnS d v i ≤ cnS d' v' i
  | 0, _ => Int.le_refl _
  | i + 1, hi => by
    have h1 := cnS_mo h i (by omega)
    have h2 := h i (by omega) (by omega)
    unfold cnS
    by_cases c : d i < v
    · rw [if_pos c, if_pos (h2 c)]; omega
    · rw [if_neg c]; split <;> omega
theorem cnS_st {d d' : Int → Int} {v v' y : Int} (h : ∀ x, 0 ≤ x → x < 24 → d x < v → d' x < v') (h0 : 0 ≤ y) (h1 : ¬ d y < v) (h2 : d' y < v') : ∀ i : Nat, i ≤ 24 → y < i → cnS d v i + 1 ≤ cnS d' v' i
  | 0, _, hy => by omega
  | i + 1, hi, hy => by
    have m := cnS_mo h i (by omega)
    have h3 := h i (by omega) (by omega)
    unfold cnS
    by_cases c : y < i
    · have := cnS_st h h0 h1 h2 i (by omega) c
      by_cases c2 : d i < v
      · rw [if_pos c2, if_pos (h3 c2)]; omega
      · rw [if_neg c2]; split <;> omega
    · have e : y = i := by omega
      rw [← e, if_neg h1, if_pos h2]
      omega
def nV (pr : Int → Int) (t : Int) (d : Int → Int) : Prop := d t = 0 ∧ ∀ k, 0 ≤ k → k < 24 → (0 ≤ d k ∧ d k ≤ 1000000000) ∧ (d k = 1000000000 ∨ (d k % 64 ≤ cnS d (d k) 24 ∧ d k / 64 ≤ 999 * cnS d (d k) 24)) ∧ BS pr t (d k % 64).toNat k ≤ d k
theorem nV_r {pr : Int → Int} {t : Int} {d : Int → Int} (h : nV pr t d) {k : Int} (hk : 0 ≤ k ∧ k < 24) : 0 ≤ d k ∧ d k ≤ 1000000000 ∧ (d k = 1000000000 ∨ d k / 64 ≤ 22977) ∧ d k % 64 ≤ 23 := by
  obtain ⟨h1, h2, h3⟩ := h.2 k hk.1 hk.2
  have := cnS_lt d (d k) (y := k) (by omega) hk.1 24 (by omega)
  have := cnS_r d (d k) 24
  omega
def upK (d : Int → Int) (k v : Int) : Int → Int := fun x => if x = k then v else d x
theorem nV_up {pr : Int → Int} (hp : prOK pr) {t : Int} {d : Int → Int} (h : nV pr t d) {k o e : Int} (hk : 0 ≤ k ∧ k < 24) (he : 0 ≤ e ∧ e < 4) (ho : 0 ≤ o ∧ o < 24) (hn : nbS k e = o) (hv : d o + stE pr e < d k) : nV pr t (upK d k (d o + stE pr e)) := by
  have ro := nV_r h ho
  have rk := nV_r h hk
  have hpe := hp e
  have hs : stE pr e = 64 * pr e + 1 := rfl
  have hok : o ≠ k := fun c => by rw [c] at hv; omega
  have htk : t ≠ k := fun c => by rw [← c, h.1] at hv; omega
  have ek : upK d k (d o + stE pr e) k = d o + stE pr e := by simp [upK]
  have eo : ∀ x, x ≠ k → upK d k (d o + stE pr e) x = d x := fun x hx => by simp [upK, hx]
  generalize hD : upK d k (d o + stE pr e) = d' at ek eo ⊢
  refine ⟨by rw [eo t htk]; exact h.1, fun j a c => ?_⟩
  by_cases hj : j = k
  · subst hj
    rw [ek]
    have hc : cnS d (d o) 24 + 1 ≤ cnS d' (d o + stE pr e) 24 := by
      refine cnS_st (y := o) (fun x x0 x1 hx => ?_) ho.1 (by omega) (by rw [eo o hok]; omega) 24 (by omega) (by omega)
      rw [eo x (fun c => by rw [c] at hx; omega)]
      omega
    obtain ⟨o1, o2, o3⟩ := h.2 o ho.1 ho.2
    refine ⟨by omega, Or.inr (by omega), ?_⟩
    have e1 : ((d o + stE pr e) % 64).toNat = (d o % 64).toNat + 1 := by omega
    rw [e1]
    have := BS_le2 pr t (d o % 64).toNat j he
    rw [hn] at this
    omega
  · rw [eo j hj]
    obtain ⟨o1, o2, o3⟩ := h.2 j a c
    have hc : cnS d (d j) 24 ≤ cnS d' (d j) 24 := by
      refine cnS_mo (fun x x0 x1 hx => ?_) 24 (by omega)
      by_cases hx2 : x = k
      · subst hx2; rw [ek]; omega
      · rw [eo x hx2]; exact hx
    exact ⟨o1, by omega, o3⟩
/-- all lies at the least -/
theorem nV_low {pr : Int → Int} {t : Int} {d : Int → Int} (h : nV pr t d) {k : Int} (hk : 0 ≤ k ∧ k < 24) : BS pr t 23 k ≤ d k := by
  have r := nV_r h hk
  have h3 := (h.2 k hk.1 hk.2).2.2
  have h4 := BS_anti pr t k (d k % 64).toNat (23 - (d k % 64).toNat)
  rw [show (d k % 64).toNat + (23 - (d k % 64).toNat) = 23 by omega] at h4
  omega
theorem fix_up {pr : Int → Int} {t : Int} {d : Int → Int} (h : nV pr t d) (hf : ∀ k e, 0 ≤ k → k < 24 → 0 ≤ e → e < 4 → d k ≤ stE pr e + d (nbS k e)) : ∀ (r : Nat) (k : Int), 0 ≤ k → k < 24 → d k ≤ BS pr t r k
  | 0, k, a, c => by
    rw [BS]
    split
    · next e => rw [e, h.1]; exact Int.le_refl _
    · exact (nV_r h ⟨a, c⟩).2.1
  | r + 1, k, a, c => by
    refine BS_ge (fix_up h hf r k a c) (fun e e0 e1 => ?_)
    have n := nbS_r (e := e) ⟨a, c⟩
    have h1 := fix_up h hf r (nbS k e) n.1 n.2
    have h2 := hf k e a c e0 e1
    omega
/-- after a pass: what came of d0 -/
def psE (pr : Int → Int) (t : Int) (d0 d : Int → Int) (fl : Int) : Prop := nV pr t d ∧ (∀ k, 0 ≤ k → k < 24 → d k ≤ d0 k) ∧ (fl = 0 ∨ fl = 1) ∧ (fl = 0 → ∀ k, 0 ≤ k → k < 24 → d k = d0 k) ∧ (fl = 1 → ∃ k, 0 ≤ k ∧ k < 24 ∧ d k < d0 k)
theorem psE.up {pr : Int → Int} (hp : prOK pr) {t : Int} {d0 d : Int → Int} {fl : Int} (h : psE pr t d0 d fl) {k o e : Int} (hk : 0 ≤ k ∧ k < 24) (he : 0 ≤ e ∧ e < 4) (ho : 0 ≤ o ∧ o < 24) (hn : nbS k e = o) (hv : d o + stE pr e < d k) : psE pr t d0 (upK d k (d o + stE pr e)) 1 := by
  obtain ⟨h1, h2, h3, h4, h5⟩ := h
  refine ⟨nV_up hp h1 hk he ho hn hv, fun j a c => ?_, by omega, fun c => by omega, fun _ => ⟨k, hk.1, hk.2, ?_⟩⟩
  · have := h2 j a c
    unfold upK
    split
    · next e => subst e; omega
    · exact this
  · have := h2 k hk.1 hk.2
    have e : upK d k (d o + stE pr e) k = d o + stE pr e := by simp [upK]
    omega
/-- the loop of passes: at the i-th, or at rest -/
def rnE (pr : Int → Int) (t : Int) (i : Nat) (d : Int → Int) (fl : Int) : Prop := nV pr t d ∧ ((fl = 0 ∧ ∀ k e, 0 ≤ k → k < 24 → 0 ≤ e → e < 4 → d k ≤ stE pr e + d (nbS k e)) ∨ (fl = 1 ∧ i ≤ 23 ∧ ∀ k, 0 ≤ k → k < 24 → d k ≤ BS pr t i k))
theorem rnE.next {pr : Int → Int} {t : Int} {i : Nat} {d0 d : Int → Int} {fl : Int} (h0 : rnE pr t i d0 1) (h : psE pr t d0 d fl) (ha : ∀ k e, 0 ≤ k → k < 24 → 0 ≤ e → e < 4 → d k ≤ stE pr e + d0 (nbS k e)) : rnE pr t (i + 1) d fl := by
  obtain ⟨h1, h2, h3, h4, h5⟩ := h
  obtain ⟨g1, g2⟩ := h0
  rcases g2 with ⟨g2, _⟩ | ⟨_, g2, g3⟩
  · omega
  · refine ⟨h1, ?_⟩
    rcases h3 with c | c
    · refine Or.inl ⟨c, fun k e a b e0 e1 => ?_⟩
      have n := nbS_r (e := e) ⟨a, b⟩
      rw [h4 c (nbS k e) n.1 n.2]
      exact ha k e a b e0 e1
    · refine Or.inr ⟨c, ?_, fun k a b => ?_⟩
      · obtain ⟨k, a, b, hlt⟩ := h5 c
        have l1 := nV_low h1 ⟨a, b⟩
        have l2 := g3 k a b
        by_cases c23 : i = 23
        · subst c23; omega
        · omega
      · refine BS_ge (Int.le_trans (h2 k a b) (g3 k a b)) (fun e e0 e1 => ?_)
        have n := nbS_r (e := e) ⟨a, b⟩
        have := g3 (nbS k e) n.1 n.2
        have := ha k e a b e0 e1
        omega
theorem rnE.done {pr : Int → Int} {t : Int} {i : Nat} {d : Int → Int} (h : rnE pr t i d 0) : (∀ k, 0 ≤ k → k < 24 → d k = BS pr t 23 k ∧ d k % 64 ≤ 23) ∧ (∀ k e, 0 ≤ k → k < 24 → 0 ≤ e → e < 4 → d k ≤ stE pr e + d (nbS k e)) := by
  obtain ⟨h1, h2⟩ := h
  rcases h2 with ⟨_, h2⟩ | ⟨c, _⟩
  · refine ⟨fun k a c => ?_, h2⟩
    have := nV_low h1 ⟨a, c⟩
    have := fix_up h1 h2 23 k a c
    have := nV_r h1 ⟨a, c⟩
    omega
  · omega
def d0S (t : Int) : Int → Int := fun k => if k = t then 0 else 1000000000
theorem rnE.init (pr : Int → Int) {t : Int} : rnE pr t 0 (d0S t) 1 := by
  refine ⟨⟨by simp [d0S], fun k a c => ?_⟩, Or.inr ⟨rfl, by omega, fun k a c => Int.le_refl _⟩⟩
  have e : BS pr t 0 k = d0S t k := rfl
  by_cases hk : k = t
  · have e1 : d0S t k = 0 := by simp [d0S, hk]
    have := cnS_r (d0S t) 0 24
    rw [e1]
    refine ⟨by omega, Or.inr (by omega), ?_⟩
    rw [show ((0 : Int) % 64).toNat = 0 by decide, e, e1]
    omega
  · have e1 : d0S t k = 1000000000 := by simp [d0S, hk]
    rw [e1]
    refine ⟨by omega, Or.inl rfl, ?_⟩
    rw [show ((1000000000 : Int) % 64).toNat = 0 by decide, e, e1]
    omega
