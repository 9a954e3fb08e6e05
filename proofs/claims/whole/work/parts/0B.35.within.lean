/-! ===== within, pure: at most so many moves ===== -/
def mnA (a : Int) (h : Int → Int) : Nat → Int
  | 0 => a
  | j + 1 => if h j < mnA a h j then h j else mnA a h j
theorem mnA_lo (a : Int) (h : Int → Int) : ∀ (j : Nat), mnA a h j ≤ a ∧ ∀ k : Int, 0 ≤ k → k < j → mnA a h j ≤ h k
  | 0 => ⟨Int.le_refl _, fun k x y => by omega⟩
  | j + 1 => by
    obtain ⟨h1, h2⟩ := mnA_lo a h j
    rw [mnA]
    refine ⟨by split <;> omega, fun k x y => ?_⟩
    by_cases e : k = j
    · rw [e]; split <;> omega
    · have := h2 k x (by omega)
      split <;> omega
theorem mnA_at (a : Int) (h : Int → Int) : ∀ j : Nat, mnA a h j = a ∨ ∃ k : Int, (0 ≤ k ∧ k < j) ∧ h k = mnA a h j
  | 0 => Or.inl rfl
  | j + 1 => by
    rw [mnA]
    split
    · exact Or.inr ⟨j, by omega, rfl⟩
    · rcases mnA_at a h j with e | ⟨k, hk, e⟩
      · exact Or.inl e
      · exact Or.inr ⟨k, by omega, e⟩
theorem mnA_t {a : Int} {h : Int → Int} {j : Nat} (c : h j < mnA a h j) : mnA a h (j + 1) = h j := by rw [mnA, if_pos c]
theorem mnA_f {a : Int} {h : Int → Int} {j : Nat} (c : mnA a h j ≤ h j) : mnA a h (j + 1) = mnA a h j := by rw [mnA, if_neg (by omega)]
def roW (X : KX) (g : Int → Int) (w : Int) (k : Int) : Int → Int := fun o => if o = k then 1000000000 else addS (g o) (mvS X w o k)
def rdS (X : KX) : Nat → Nat → Int → Int
  | 0, 0, k => xo X 0 k
  | 0, _ + 1, _ => 1000000000
  | w + 1, 0, k => addS (rdS X w 0 k) (xo X ((w : Int) + 1) k)
  | w + 1, m + 1, k => addS (mnA (rdS X w (m + 1) k) (roW X (rdS X w m) ((w : Int) + 1) k) 24) (xo X ((w : Int) + 1) k)
def fnB (B v : Int) : Prop := v = 1000000000 ∨ (0 ≤ v ∧ v ≤ B)
theorem fnB_add {B C a c : Int} (ha : fnB B a) (hc : fnB C c) : fnB (B + C) (addS a c) := by
  unfold fnB at *
  unfold addS
  split <;> omega
theorem fnB_mo {B C a : Int} (ha : fnB B a) (h : B ≤ C) : fnB C a := by
  unfold fnB at *
  omega
theorem cmS_r {X : KX} (hv : xV X) : ∀ (w m : Nat) (k : Int), 0 ≤ k → k < 24 → fnB (1209900 * ((w : Int) + 1)) (cmS X w m k)
  | 0, m, k, a, c => by
    have := hv.2.1 0 k a c
    rw [cmS]
    unfold fnB
    omega
  | w + 1, 0, k, a, c => by
    have h1 : fnB 9900 (xo X ((w : Int) + 1) k) := hv.2.1 ((w : Int) + 1) k a c
    rw [cmS]
    exact fnB_mo (fnB_add h1 (cmS_r hv w 0 k a c)) (by omega)
  | w + 1, m + 1, k, a, c => by
    have h1 : fnB 9900 (xo X ((w : Int) + 1) k) := hv.2.1 ((w : Int) + 1) k a c
    have h2 := cmS_r hv w (m + 1) k a c
    have h3 := mv_r hv (g := cmS X w m) (B := 1209900 * ((w : Int) + 1)) ⟨a, c⟩ (fun o o0 o1 => cmS_r hv w m o o0 o1) 24 (by omega)
    rw [cmS]
    refine fnB_mo (fnB_add h1 (B := 9900) (C := 1209900 * ((w : Int) + 1) + 1200000) ?_) (by omega)
    unfold fnB at *
    split
    · omega
    · split <;> omega
theorem addS_c (a c : Int) : addS a c = addS c a := by
  unfold addS
  by_cases h : a < 1000000000 ∧ c < 1000000000
  · rw [if_pos h, if_pos ⟨h.2, h.1⟩, Int.add_comm]
  · rw [if_neg h, if_neg (fun g => h ⟨g.2, g.1⟩)]
theorem addS_le {a c x y : Int} (h1 : a ≤ x) (h2 : c ≤ y) (hr : addS a c ≤ 1000000000) : addS a c ≤ addS x y := by
  unfold addS at hr ⊢
  by_cases e : a < 1000000000 ∧ c < 1000000000
  · rw [if_pos e] at hr ⊢
    split <;> omega
  · rw [if_neg e, if_neg (by omega)]
    exact Int.le_refl _
/-- no fewer moves, no higher costs -/
theorem cm_an {X : KX} (hv : xV X) : ∀ (w m : Nat) (k : Int), w < xn X → 0 ≤ k → k < 24 → cmS X w (m + 1) k ≤ cmS X w m k
  | 0, m, k, _, _, _ => by rw [cmS, cmS]; exact Int.le_refl _
  | w + 1, m, k, hw, a, c => by
    have hn := hv.1
    have r1 := cmS_r hv (w + 1) (m + 1) k a c
    have r1' : cmS X (w + 1) (m + 1) k ≤ 1000000000 := by unfold fnB at r1; omega
    have up : cmS X (w + 1) (m + 1) k ≤ addS (xo X ((w : Int) + 1) k) (cmS X w (m + 1) k) := by
      rw [cmS] at r1' ⊢
      refine addS_le (Int.le_refl _) ?_ r1'
      split
      · exact Int.le_refl _
      · split
        · omega
        · exact Int.le_refl _
    have i1 := cm_an hv w m k (by omega) a c
    cases m with
    | zero =>
      have e : cmS X (w + 1) 0 k = addS (xo X ((w : Int) + 1) k) (cmS X w 0 k) := by rw [cmS]
      rw [e]
      refine Int.le_trans up (addS_le (Int.le_refl _) i1 ?_)
      have q := fnB_add (B := 9900) (hv.2.1 ((w : Int) + 1) k a c) (cmS_r hv w (0 + 1) k a c)
      unfold fnB at q
      omega
    | succ m =>
      have e : cmS X (w + 1) (m + 1) k = addS (xo X ((w : Int) + 1) k) (if xk X ((w : Int) + 1) = 1 then cmS X w (m + 1) k else if mnS (fun o => addS (cmS X w m o) (xs X o k)) 24 < cmS X w (m + 1) k then mnS (fun o => addS (cmS X w m o) (xs X o k)) 24 else cmS X w (m + 1) k) := by rw [cmS]
      rw [e]
      rw [cmS] at r1' ⊢
      refine addS_le (Int.le_refl _) ?_ r1'
      by_cases ck : xk X ((w : Int) + 1) = 1
      · rw [if_pos ck, if_pos ck]; exact i1
      · rw [if_neg ck, if_neg ck]
        have hm : mnS (fun o => addS (cmS X w (m + 1) o) (xs X o k)) 24 ≤ mnS (fun o => addS (cmS X w m o) (xs X o k)) 24 := by
          rcases mnS_at (fun o => addS (cmS X w m o) (xs X o k)) 24 with e | ⟨o, ho, e⟩
          · rw [e]; exact mnS_le _ 24
          · rw [← e]
            refine Int.le_trans (mnS_lo _ 24 o ho.1 ho.2) ?_
            have q := fnB_add (C := 1200000) (cmS_r hv w (m + 1) o ho.1 (by omega)) (Or.inr (hv.2.2.2.1 o k ho.1 (by omega) a c))
            refine addS_le (cm_an hv w m o (by omega) ho.1 (by omega)) (Int.le_refl _) ?_
            unfold fnB at q
            omega
        split
        · split <;> omega
        · split <;> omega
theorem cm_an2 {X : KX} (hv : xV X) {w : Nat} (hw : w < xn X) {k : Int} (hk : 0 ≤ k ∧ k < 24) (m : Nat) : ∀ j : Nat, cmS X w (m + j) k ≤ cmS X w m k
  | 0 => Int.le_refl _
  | j + 1 => Int.le_trans (cm_an hv w (m + j) k hw hk.1 hk.2) (cm_an2 hv hw hk m j)
