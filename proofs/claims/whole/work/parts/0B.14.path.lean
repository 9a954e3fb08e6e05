/-! ===== THE PATH, over any costs ===== -/
abbrev KX : Type := Nat × (Int → Int → Int) × (Int → Int) × (Int → Int → Int)
def xn (X : KX) : Nat := X.1
def xo (X : KX) : Int → Int → Int := X.2.1
def xk (X : KX) : Int → Int := X.2.2.1
def xs (X : KX) : Int → Int → Int := X.2.2.2
def xV (X : KX) : Prop := xn X ≤ 48 ∧ (∀ w k, 0 ≤ k → k < 24 → xo X w k = 1000000000 ∨ (0 ≤ xo X w k ∧ xo X w k ≤ 9900)) ∧ (∀ w, xk X w = 0 ∨ xk X w = 1) ∧ (∀ k o, 0 ≤ k → k < 24 → 0 ≤ o → o < 24 → 0 ≤ xs X k o ∧ xs X k o ≤ 1200000) ∧ (∀ k, 0 ≤ k → k < 24 → xs X k k = 0)
def mnS (h : Int → Int) : Nat → Int
  | 0 => 1000000000
  | j + 1 => if h j < mnS h j then h j else mnS h j
def tfS (p t : Int → Int) : Nat → Int
  | 0 => 0
  | j + 1 => if p j < mnS p j then t j else if p j = mnS p j ∧ p j < 1000000000 then (if 1000000 < tfS p t j + t j then 1000000 else tfS p t j + t j) else tfS p t j
theorem mnS_t {h : Int → Int} {j : Nat} (c : h j < mnS h j) : mnS h (j + 1) = h j := by rw [mnS, if_pos c]
theorem mnS_f {h : Int → Int} {j : Nat} (c : mnS h j ≤ h j) : mnS h (j + 1) = mnS h j := by rw [mnS, if_neg (by omega)]
theorem tfS_t {p t : Int → Int} {j : Nat} (c : p j < mnS p j) : tfS p t (j + 1) = t j := by rw [tfS, if_pos c]
theorem tfS_e {p t : Int → Int} {j : Nat} (c : p j = mnS p j) (c2 : p j < 1000000000) : tfS p t (j + 1) = if 1000000 < tfS p t j + t j then 1000000 else tfS p t j + t j := by rw [tfS, if_neg (by omega), if_pos ⟨c, c2⟩]
theorem tfS_f {p t : Int → Int} {j : Nat} (c : mnS p j < p j ∨ (mnS p j ≤ p j ∧ 1000000000 ≤ p j)) : tfS p t (j + 1) = tfS p t j := by rw [tfS, if_neg (by omega), if_neg (by omega)]
theorem mnS_le (h : Int → Int) : ∀ j : Nat, mnS h j ≤ 1000000000
  | 0 => Int.le_refl _
  | j + 1 => by
    have := mnS_le h j
    rw [mnS]
    split <;> omega
theorem mnS_lo (h : Int → Int) : ∀ (j : Nat) (k : Int), 0 ≤ k → k < j → mnS h j ≤ h k
  | 0, k, a, c => by omega
  | j + 1, k, a, c => by
    by_cases e : k = j
    · rw [mnS, e]; split <;> omega
    · have := mnS_lo h j k a (by omega)
      rw [mnS]
      split <;> omega
theorem mnS_at (h : Int → Int) : ∀ j : Nat, mnS h j = 1000000000 ∨ ∃ k : Int, (0 ≤ k ∧ k < j) ∧ h k = mnS h j
  | 0 => Or.inl rfl
  | j + 1 => by
    rw [mnS]
    split
    · exact Or.inr ⟨j, by omega, rfl⟩
    · rcases mnS_at h j with e | ⟨k, hk, e⟩
      · exact Or.inl e
      · exact Or.inr ⟨k, by omega, e⟩
theorem mnS_c {h g : Int → Int} : ∀ j : Nat, (∀ k : Int, 0 ≤ k → k < j → h k = g k) → mnS h j = mnS g j
  | 0, _ => rfl
  | j + 1, e => by rw [mnS, mnS, mnS_c j (fun k a c => e k a (by omega)), e j (by omega) (by omega)]
theorem tfS_c {p q t u : Int → Int} : ∀ j : Nat, (∀ k : Int, 0 ≤ k → k < j → p k = q k) → (∀ k : Int, 0 ≤ k → k < j → p k < 1000000000 → t k = u k) → tfS p t j = tfS q u j
  | 0, _, _ => rfl
  | j + 1, e, f => by
    have ih := tfS_c j (fun k a c => e k a (by omega)) (fun k a c => f k a (by omega))
    have m := mnS_c j (fun k a c => e k a (by omega))
    have ej := e j (by omega) (by omega)
    have fj := f j (by omega) (by omega)
    have ml := mnS_le q j
    rw [tfS, tfS, ih, m, ej]
    by_cases c : q j < 1000000000
    · rw [fj (by omega)]
    · rw [if_neg (by omega), if_neg (by omega), if_neg (by omega), if_neg (by omega)]
theorem tfS_r {p t : Int → Int} (ht : ∀ k : Int, 0 ≤ k → k < 24 → p k < 1000000000 → 1 ≤ t k ∧ t k ≤ 1000000) : ∀ j : Nat, j ≤ 24 → (0 ≤ tfS p t j ∧ tfS p t j ≤ 1000000) ∧ (mnS p j < 1000000000 → 1 ≤ tfS p t j)
  | 0, _ => ⟨by simp [tfS], fun h => by simp [mnS] at h⟩
  | j + 1, hj => by
    have ih := tfS_r ht j (by omega)
    have tj := ht j (by omega) (by omega)
    have ml := mnS_le p j
    by_cases c : p j < mnS p j
    · rw [tfS_t c, mnS_t c]; omega
    · rw [mnS_f (by omega)]
      by_cases c2 : p j = mnS p j ∧ p j < 1000000000
      · rw [tfS_e c2.1 c2.2]; split <;> omega
      · rw [tfS_f (by omega)]; exact ih
def bhS (X : KX) : Nat → Int → Int
  | 0, k => xo X ((xn X : Int) - 1) k
  | i + 1, k => addS (xo X ((xn X : Int) - 1 - ((i : Int) + 1)) k) (if xk X ((xn X : Int) - 1 - i) = 1 then bhS X i k else mnS (fun o => addS (xs X k o) (bhS X i o)) 24)
def tiS (X : KX) : Nat → Int → Int
  | 0, _ => 1
  | i + 1, k => if xk X ((xn X : Int) - 1 - i) = 1 then tiS X i k else tfS (fun o => addS (xs X k o) (bhS X i o)) (tiS X i) 24
theorem bhS_r {X : KX} (hv : xV X) : ∀ (i : Nat) (k : Int), 0 ≤ k → k < 24 → bhS X i k = 1000000000 ∨ (0 ≤ bhS X i k ∧ bhS X i k ≤ 1209900 * ((i : Int) + 1))
  | 0, k, a, c => by
    have := hv.2.1 ((xn X : Int) - 1) k a c
    rw [bhS]
    omega
  | i + 1, k, a, c => by
    have h1 := hv.2.1 ((xn X : Int) - 1 - ((i : Int) + 1)) k a c
    rw [bhS]
    have h2 : (if xk X ((xn X : Int) - 1 - i) = 1 then bhS X i k else mnS (fun o => addS (xs X k o) (bhS X i o)) 24) = 1000000000 ∨ (0 ≤ (if xk X ((xn X : Int) - 1 - i) = 1 then bhS X i k else mnS (fun o => addS (xs X k o) (bhS X i o)) 24) ∧ (if xk X ((xn X : Int) - 1 - i) = 1 then bhS X i k else mnS (fun o => addS (xs X k o) (bhS X i o)) 24) ≤ 1209900 * ((i : Int) + 1) + 1200000) := by
      split
      · have := bhS_r hv i k a c
        omega
      · rcases mnS_at (fun o => addS (xs X k o) (bhS X i o)) 24 with e | ⟨o, ho, e⟩
        · exact Or.inl e
        · rw [← e]
          have h3 := bhS_r hv i o ho.1 (by omega)
          have h4 := hv.2.2.2.1 k o a c ho.1 (by omega)
          unfold addS
          split <;> omega
    generalize (if xk X ((xn X : Int) - 1 - i) = 1 then bhS X i k else mnS (fun o => addS (xs X k o) (bhS X i o)) 24) = v at h2 ⊢
    unfold addS
    split <;> omega
theorem addS_lt {a c : Int} (h : addS a c < 1000000000) : a < 1000000000 ∧ c < 1000000000 ∧ addS a c = a + c := by
  unfold addS at h ⊢
  split at h
  · next e => exact ⟨e.1, e.2, by rw [if_pos e]⟩
  · omega
theorem tiS_r {X : KX} (hv : xV X) : ∀ (i : Nat) (k : Int), 0 ≤ k → k < 24 → bhS X i k < 1000000000 → 1 ≤ tiS X i k ∧ tiS X i k ≤ 1000000
  | 0, k, a, c, _ => by rw [tiS]; omega
  | i + 1, k, a, c, h => by
    rw [bhS] at h
    have h2 := (addS_lt h).2.1
    rw [tiS]
    split at h2
    · next e => rw [if_pos e]; exact tiS_r hv i k a c h2
    · next e =>
      rw [if_neg e]
      have := tfS_r (p := fun o => addS (xs X k o) (bhS X i o)) (t := tiS X i) (fun o o0 o1 ho => tiS_r hv i o o0 o1 (addS_lt ho).2.1) 24 (by omega)
      omega
/-! the class -/
def xC (X : KX) (σ : KM) : Prop := σ 8 1 = xn X ∧ (∀ w k, 0 ≤ w → w < (xn X : Int) → 0 ≤ k → k < 24 → σ 34 (w * 24 + k) = xo X w k) ∧ (∀ w, 0 ≤ w → w < (xn X : Int) → σ 35 w = xk X w)
def rwOK (X : KX) (i : Nat) (σ : KM) : Prop := ∀ k, 0 ≤ k → k < 24 → σ 37 (((xn X : Int) - 1 - i) * 24 + k) = bhS X i k ∧ (bhS X i k < 1000000000 → σ 38 (((xn X : Int) - 1 - i) * 24 + k) = tiS X i k) ∧ 0 ≤ σ 38 (((xn X : Int) - 1 - i) * 24 + k) ∧ σ 38 (((xn X : Int) - 1 - i) * 24 + k) ≤ 1000000
def stC (X : KX) (σ : KM) : Prop := ∀ k o, 0 ≤ k → k < 24 → 0 ≤ o → o < 24 → σ 36 (k * 24 + o) = xs X k o
theorem plus_add {a c : Int} (ha : a = 1000000000 ∨ (0 ≤ a ∧ a ≤ 400000000)) (hc : c = 1000000000 ∨ (0 ≤ c ∧ c ≤ 400000000)) : plusS a c = addS a c := by
  unfold plusS addS
  split <;> split <;> omega
theorem P_lookBehind {X : KX} (hv : xV X) {σ : KM} (hx : xC X σ) (h36 : stC X σ) {i : Nat} (hi : i < xn X) {k : Int} (hk : 0 ≤ k ∧ k < 24) (hp : ∀ i', i = i' + 1 → rwOK X i' σ) : kT (fFi_lookBehind ((xn X : Int) - 1 - i) k σ) (fun z => (z.2 37 (((xn X : Int) - 1 - i) * 24 + k) = bhS X i k ∧ (bhS X i k < 1000000000 → z.2 38 (((xn X : Int) - 1 - i) * 24 + k) = tiS X i k) ∧ 0 ≤ z.2 38 (((xn X : Int) - 1 - i) * 24 + k) ∧ z.2 38 (((xn X : Int) - 1 - i) * 24 + k) ≤ 1000000) ∧ ∀ j, j ≠ ((xn X : Int) - 1 - i) * 24 + k → z.2 37 j = σ 37 j ∧ z.2 38 j = σ 38 j) := by
  have hn := hv.1
  have ho := hv.2.1 ((xn X : Int) - 1 - i) k hk.1 hk.2
  have e34 := hx.2.1 ((xn X : Int) - 1 - i) k (by omega) (by omega) hk.1 hk.2
  have e81 := hx.1
  generalize hw : (xn X : Int) - 1 - i = w at *
  unfold fFi_lookBehind fFi_lookBehind_J47
  refine kT_let (kT_rd (by omega) (kT_wr (by omega) (kT_wr (by omega) (kT_rd (by omega) ?_))))
  rw [e34, ks_c (show (34 : Nat) ≠ 38 by decide), ks_c (show (34 : Nat) ≠ 37 by decide), e34]
  generalize hM : ks (ks σ 37 (w * 24 + k) (xo X w k)) 38 (w * 24 + k) 1 = M
  have m37 : M 37 (w * 24 + k) = xo X w k := by rw [← hM, ks_c (by decide), ks_s]
  have m38 : M 38 (w * 24 + k) = 1 := by rw [← hM, ks_s]
  have mo : ∀ j, j ≠ w * 24 + k → M 37 j = σ 37 j ∧ M 38 j = σ 38 j := fun j hj => by
    rw [← hM, ks_c (by decide), ks_i hj, ks_i hj, ks_c (by decide)]
    exact ⟨rfl, rfl⟩
  have m8 : M 8 = σ 8 := by rw [← hM]; rfl
  have m34 : M 34 = σ 34 := by rw [← hM]; rfl
  have m35 : M 35 = σ 35 := by rw [← hM]; rfl
  have m36 : M 36 = σ 36 := by rw [← hM]; rfl
  have inf : xo X w k = 1000000000 → bhS X i k = 1000000000 := fun h => by
    cases i with
    | zero => rw [bhS, show (xn X : Int) - 1 = w by omega, h]
    | succ i => rw [bhS, show (xn X : Int) - 1 - ((i : Int) + 1) = w by omega, h]; unfold addS; rw [if_neg (by omega)]
  refine kT_lt (by omega) (by omega) (fun c => ?_) (fun c => ?_)
  · rw [m8, e81]
    refine kT_eq (by omega) (by omega) (fun c2 => ?_) (fun c2 => ?_)
    · have i0 : i = 0 := by omega
      subst i0
      have eb : bhS X 0 k = xo X w k := by rw [bhS, show (xn X : Int) - 1 = w by omega]
      refine kT_ri ⟨⟨by dsimp only; rw [m37, eb], fun _ => by dsimp only; rw [m38]; rfl, by dsimp only; omega, by dsimp only; omega⟩, mo⟩
    · obtain ⟨i', rfl⟩ : ∃ i', i = i' + 1 := ⟨i - 1, by omega⟩
      have hq := hp i' rfl
      have hw1 : (xn X : Int) - 1 - i' = w + 1 := by omega
      have e35 := hx.2.2 (w + 1) (by omega) (by omega)
      have k35 := hv.2.2.1 (w + 1)
      have hbS : bhS X (i' + 1) k = addS (xo X w k) (if xk X (w + 1) = 1 then bhS X i' k else mnS (fun o => addS (xs X k o) (bhS X i' o)) 24) := by
        rw [bhS, hw1, show (xn X : Int) - 1 - ((i' : Int) + 1) = w by omega]
      have htS : tiS X (i' + 1) k = if xk X (w + 1) = 1 then tiS X i' k else tfS (fun o => addS (xs X k o) (bhS X i' o)) (tiS X i') 24 := by
        rw [tiS, hw1]
      unfold rwOK at hq
      rw [hw1] at hq
      have rB := fun o o0 o1 => bhS_r hv i' o o0 o1
      refine kT_rd (by omega) ?_
      rw [m35, e35]
      refine kT_eq (by omega) (by omega) (fun c3 => ?_) (fun c3 => ?_)
      · rw [if_neg (by omega)] at hbS htS
        refine kT_let ?_
        unfold fFi_lookBehind_L117
        generalize hP : (fun o => addS (xs X k o) (bhS X i' o)) = p at hbS htS
        have pe : ∀ o, p o = addS (xs X k o) (bhS X i' o) := fun o => by rw [← hP]
        have mr : ∀ j : Nat, j ≤ 24 → mnS p j = 1000000000 ∨ (0 ≤ mnS p j ∧ mnS p j ≤ 60000000) := by
          intro j hj
          rcases mnS_at p j with e | ⟨o, ho, e⟩
          · exact Or.inl e
          · rw [← e, pe]
            have h3 := rB o ho.1 (by omega)
            have h4 := hv.2.2.2.1 k o hk.1 hk.2 ho.1 (by omega)
            unfold addS
            split <;> omega
        refine kT_for (fun j s => ∃ nu : Int, s = (mnS p j, nu, (j : Int), M) ∧ (mnS p j < 1000000000 → nu = tfS p (tiS X i') j) ∧ 0 ≤ nu ∧ nu ≤ 1000000) 24 ?_ ?_ 0 (by omega) kF _ ⟨0, rfl, fun h => by simp [mnS] at h, by omega, by omega⟩ (kF_lt (by omega))
        · rintro j s hj ⟨nu, rfl, hnu, n0, n1⟩
          show kT (fFi_lookBehind_B117 k (w * 24 + k) ((w + 1) * 24) (mnS p j) nu j M) _
          unfold fFi_lookBehind_B117 fFi_lookBehind_J202
          have q := hq j (by omega) (by omega)
          have rb := rB j (by omega) (by omega)
          have rs := hv.2.2.2.1 k j hk.1 hk.2 (by omega) (by omega)
          have rm := mr j (by omega)
          have ml := mnS_le p j
          have pj := pe j
          have mj := mo ((w + 1) * 24 + j) (by omega)
          refine kT_ltt (by omega) (by omega) (kT_rd (by omega) (kT_rd (by omega) (kT_let ?_)))
          rw [mj.1, q.1, m36, h36 k j hk.1 hk.2 (by omega) (by omega)]
          have pv : (bhS X i' j = 1000000000 ∧ p j = 1000000000) ∨ (bhS X i' j < 1000000000 ∧ p j = bhS X i' j + xs X k j) := by
            rw [pj]
            unfold addS
            by_cases cc : bhS X i' j < 1000000000
            · rw [if_pos ⟨by omega, cc⟩]; omega
            · rw [if_neg (by omega)]; omega
          refine kT_lt (by omega) (by omega) (fun d => ?_) (fun d => ?_)
          · refine kT_rd (by omega) (kT_let (kT_inl ⟨σ 38 ((w + 1) * 24 + j), ?_, fun _ => ?_, q.2.2.1, q.2.2.2⟩))
            · rw [mnS_t (by omega), mj.2, show p j = bhS X i' j + xs X k j by omega]
              rfl
            · rw [tfS_t (by omega)]; exact q.2.1 (by omega)
          · refine kT_eq (by omega) (by omega) (fun d2 => ?_) (fun d2 => ?_)
            · refine kT_rd (by omega) ?_
              rw [mj.2]
              refine kT_mn (by omega) (by omega) (kT_let (kT_inl ⟨if nu + σ 38 ((w + 1) * 24 + j) < 1000000 then nu + σ 38 ((w + 1) * 24 + j) else 1000000, ?_, fun hlt => ?_, ?_, ?_⟩))
              · rw [mnS_f (by omega)]
                rfl
              · rw [mnS_f (by omega)] at hlt
                rw [tfS_e (by omega) (by omega), hnu hlt, q.2.1 (by omega)]
                by_cases c9 : tfS p (tiS X i') j + tiS X i' j < 1000000
                · rw [if_pos c9, if_neg (by omega)]
                · rw [if_neg c9]
                  split <;> omega
              · split <;> omega
              · split <;> omega
            · refine kT_let (kT_inl ⟨nu, ?_, fun hlt => ?_, n0, n1⟩)
              · rw [mnS_f (by omega)]
                rfl
              · rw [mnS_f (by omega)] at hlt
                rw [tfS_f (by omega)]; exact hnu hlt
        · rintro s ⟨nu, rfl, hnu, n0, n1⟩
          show kT (fFi_lookBehind_B117 k (w * 24 + k) ((w + 1) * 24) (mnS p 24) nu 24 M) _
          unfold fFi_lookBehind_B117 fFi_lookBehind_J208
          have rm := mr 24 (by omega)
          refine kT_ltf (by omega) (by omega) (kT_exit (kT_rd (by omega) ?_))
          rw [m34, e34]
          refine kT_callE (P_plus (by omega) M) (kT_wr (by omega) (kT_wr (by omega) (kT_ri ?_)))
          rw [plus_add (by omega) (by omega)]
          dsimp only
          rw [ks_c (by decide), ks_s, ks_s, hbS, htS]
          refine ⟨⟨rfl, fun h => hnu (addS_lt h).2.1, n0, n1⟩, fun j hj => ?_⟩
          rw [ks_c (by decide), ks_i hj, ks_i hj, ks_c (by decide)]
          exact mo j hj
      · have c4 : xk X (w + 1) = 1 := by omega
        rw [if_pos c4] at hbS htS
        have q := hq k hk.1 hk.2
        have rb := rB k hk.1 hk.2
        have mj := mo ((w + 1) * 24 + k) (by omega)
        refine kT_rd (by omega) (kT_rd (by omega) ?_)
        rw [m34, e34, show w * 24 + k + 24 = (w + 1) * 24 + k by omega, mj.1, q.1]
        refine kT_callE (P_plus (by omega) M) (kT_wr (by omega) (kT_rd (by omega) (kT_wr (by omega) (kT_ri ?_))))
        rw [plus_add (by omega) (by omega)]
        dsimp only
        rw [ks_c (show (37 : Nat) ≠ 38 by decide), ks_s, ks_s, ks_c (show (38 : Nat) ≠ 37 by decide), mj.2, hbS, htS]
        refine ⟨⟨rfl, fun h => q.2.1 (addS_lt h).2.1, q.2.2.1, q.2.2.2⟩, fun j hj => ?_⟩
        rw [ks_c (by decide), ks_i hj, ks_i hj, ks_c (by decide)]
        exact mo j hj
  · have eo : xo X w k = 1000000000 := by omega
    have eb := inf eo
    refine kT_ri ⟨⟨by dsimp only; rw [m37, eb, eo], fun h => by omega, by dsimp only; omega, by dsimp only; omega⟩, mo⟩
