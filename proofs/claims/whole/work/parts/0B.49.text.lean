/-! ===== how a text is read ===== -/
def zru (P : Int → Bool) (tp : Int → Int) : Nat → Nat → Nat
  | 0, a => a
  | f + 1, a => if P (tp a) = true then zru P tp f (a + 1) else a
theorem zru_r (P : Int → Bool) (tp : Int → Int) : ∀ f a : Nat, a ≤ zru P tp f a ∧ zru P tp f a ≤ a + f ∧ (zru P tp f a < a + f → P (tp (zru P tp f a)) = false) ∧ ∀ i : Nat, a ≤ i → i < zru P tp f a → P (tp i) = true
  | 0, a => by rw [zru]; exact ⟨Nat.le_refl _, Nat.le_refl _, fun h => by omega, fun i h1 h2 => by omega⟩
  | f + 1, a => by
    rw [zru]
    by_cases c : P (tp a) = true
    · rw [if_pos c]
      obtain ⟨h1, h2, h3, h4⟩ := zru_r P tp f (a + 1)
      refine ⟨by omega, by omega, fun h => h3 (by omega), fun i i1 i2 => ?_⟩
      by_cases e : i = a
      · rw [e]; exact c
      · exact h4 i (by omega) i2
    · rw [if_neg c]
      exact ⟨Nat.le_refl _, by omega, fun _ => by simpa using c, fun i h1 h2 => by omega⟩
def zBl : Int → Bool := fun v => decide (v = 32)
def zDg : Int → Bool := fun v => decide (48 ≤ v ∧ v ≤ 57)
def zsk (tp : Int → Int) (n a : Nat) : Nat := zru zBl tp (n - a) a
def zde (tp : Int → Int) (n a : Nat) : Nat := zru zDg tp (n - a) a
def zch (tp : Int → Int) (n a : Nat) : Int := if zsk tp n a < n then tp (zsk tp n a) else -1
theorem zru_y {P : Int → Bool} {tp : Int → Int} {n a : Nat} (h : a < n) (c : P (tp a) = true) : zru P tp (n - a) a = zru P tp (n - (a + 1)) (a + 1) := by
  rw [show n - a = (n - (a + 1)) + 1 by omega, zru, if_pos c]
theorem zru_n {P : Int → Bool} {tp : Int → Int} {n a : Nat} (c : n ≤ a ∨ P (tp a) = false) : zru P tp (n - a) a = a := by
  rcases Nat.lt_or_ge a n with h | h
  · rcases c with c | c
    · omega
    · rw [show n - a = (n - (a + 1)) + 1 by omega, zru, if_neg (by rw [c]; simp)]
  · rw [show n - a = 0 by omega, zru]
theorem zsk_r {tp : Int → Int} {n a : Nat} (h : a ≤ n) : a ≤ zsk tp n a ∧ zsk tp n a ≤ n := by
  have := zru_r zBl tp (n - a) a
  unfold zsk
  omega
theorem zde_r {tp : Int → Int} {n a : Nat} (h : a ≤ n) : a ≤ zde tp n a ∧ zde tp n a ≤ n := by
  have := zru_r zDg tp (n - a) a
  unfold zde
  omega
theorem zsk_sk {tp : Int → Int} {n a : Nat} (h : a ≤ n) : zsk tp n (zsk tp n a) = zsk tp n a := by
  obtain ⟨h1, h2, h3, _⟩ := zru_r zBl tp (n - a) a
  refine zru_n ?_
  rcases Nat.lt_or_ge (zsk tp n a) n with c | c
  · exact Or.inr (h3 (by unfold zsk at c; omega))
  · exact Or.inl c
theorem zch_sk {tp : Int → Int} {n a : Nat} (h : a ≤ n) : zch tp n (zsk tp n a) = zch tp n a := by
  unfold zch
  rw [zsk_sk h]
def zT (n : Nat) (tp : Int → Int) : Prop := n ≤ 700 ∧ ∀ i : Int, 0 ≤ i → i < n → 0 ≤ tp i ∧ tp i < 256
theorem zch_r {tp : Int → Int} {n a : Nat} (hT : zT n tp) : -1 ≤ zch tp n a ∧ zch tp n a < 256 ∧ (0 ≤ zch tp n a → zsk tp n a < n ∧ tp (zsk tp n a) = zch tp n a) := by
  unfold zch
  by_cases c : zsk tp n a < n
  · rw [if_pos c]
    have := hT.2 (zsk tp n a) (by omega) (by omega)
    exact ⟨by omega, by omega, fun _ => ⟨c, rfl⟩⟩
  · rw [if_neg c]
    exact ⟨by omega, by omega, fun h => by omega⟩
abbrev zL (x : Int) : Prop := 97 ≤ x ∧ x ≤ 103
abbrev zD (x : Int) : Prop := 48 ≤ x ∧ x ≤ 57
def zst (x : Int) : Int := if x = 97 then 9 else if x = 98 then 11 else if x = 99 then 0 else if x = 100 then 2 else if x = 101 then 4 else if x = 102 then 5 else 7
theorem zst_r (x : Int) : 0 ≤ zst x ∧ zst x ≤ 11 := by
  unfold zst
  repeat' split
  all_goals omega
def zNm (nm : Int → Int) (p : Int) : Nat → Bool
  | 0 => false
  | i + 1 => zNm nm p i || decide (nm i = p)
theorem zNm_t {nm : Int → Int} {p : Int} : ∀ (n : Nat) (i : Nat), i < n → nm i = p → zNm nm p n = true
  | n + 1, i, hi, e => by
    rw [zNm]
    by_cases c : i = n
    · rw [← c, decide_eq_true e, Bool.or_true]
    · rw [zNm_t n i (by omega) e, Bool.true_or]
def zy (tp : Int → Int) (n a : Nat) : Int := zch tp n (zsk tp n a + 1)
def za2 (tp : Int → Int) (n a : Nat) : Nat := if zy tp n a = 35 ∨ zy tp n a = 33 then zsk tp n (zsk tp n a + 1) + 1 else zsk tp n (zsk tp n a + 1)
def zac (tp : Int → Int) (n a : Nat) : Int := if zy tp n a = 35 then 1 else if zy tp n a = 33 then -1 else 0
def zpi (tp : Int → Int) (n a : Nat) : Int := zst (zch tp n a) + zac tp n a + 12 * (zch tp n (za2 tp n a) - 48 + 1)
abbrev zE : Type := Int × Int
def zName (tp : Int → Int) (n a c m : Nat) (nm : Int → Int) : zE ⊕ (Nat × Int) :=
  if ¬ zL (zch tp n a) then .inl (1, (zsk tp n a : Int)) else
  if 6 ≤ c ∨ 100 ≤ m + c then .inl (3, (zsk tp n a : Int)) else
  if ¬ zD (zch tp n (za2 tp n a)) then .inl (1, (zsk tp n (za2 tp n a) : Int)) else
  if (zpi tp n a < 0 ∨ 127 < zpi tp n a) ∨ zNm nm (zpi tp n a) c = true then .inl (3, (zsk tp n a : Int)) else .inr (zsk tp n (za2 tp n a) + 1, zpi tp n a)
def zval (tp : Int → Int) (s e : Nat) : Int := if e = s + 1 then tp s - 48 else 10 * (tp s - 48) + tp ((s : Int) + 1) - 48
def zs1 (tp : Int → Int) (n a : Nat) : Nat := zsk tp n (zsk tp n a + 1)
def zLen (tp : Int → Int) (n a : Nat) (tk : Int) : zE ⊕ (Nat × Int) :=
  if zch tp n a ≠ 58 then .inl (1, (zsk tp n a : Int)) else
  if ¬ zD (zch tp n (zsk tp n a + 1)) then .inl (1, (zs1 tp n a : Int)) else
  if zs1 tp n a + 2 < zde tp n (zs1 tp n a) then .inl (2, (zs1 tp n a : Int)) else
  if zval tp (zs1 tp n a) (zde tp n (zs1 tp n a)) < 1 ∨ 64 < zval tp (zs1 tp n a) (zde tp n (zs1 tp n a)) then .inl (2, (zs1 tp n a : Int)) else
  if 512 < tk + zval tp (zs1 tp n a) (zde tp n (zs1 tp n a)) then .inl (4, (zs1 tp n a : Int)) else
  .inr (zde tp n (zs1 tp n a), zval tp (zs1 tp n a) (zde tp n (zs1 tp n a)))
def zup (nm : Int → Int) (c : Nat) (p : Int) : Int → Int := fun i => if i = c then p else nm i
def zChord (tp : Int → Int) (n m : Nat) : Nat → Nat → Nat → (Int → Int) → zE ⊕ (Nat × Nat × (Int → Int))
  | 0, _, _, _ => .inl (0, 0)
  | f + 1, a, c, nm => if zch tp n a = 41 ∧ 0 < c then .inr (zsk tp n a + 1, c, nm) else match zName tp n a c m nm with
    | .inl e => .inl e
    | .inr q => zChord tp n m f q.1 (c + 1) (zup nm c q.2)
def z0 : Int → Int := fun _ => 0
abbrev zP : Type := Nat × Int × Nat × (Int → Int) × Int
def zTail (tp : Int → Int) (n a : Nat) (tk : Int) (c : Nat) (nm : Int → Int) : zE ⊕ zP := match zLen tp n a tk with
  | .inl e => .inl e
  | .inr q => .inr (q.1, tk + q.2, c, nm, q.2)
def zPart (tp : Int → Int) (n a : Nat) (tk : Int) (m : Nat) : zE ⊕ zP :=
  if zch tp n a = 124 then .inr (zsk tp n a + 1, tk, 0, z0, 0) else
  if zch tp n a = 45 then zTail tp n (zsk tp n a + 1) tk 0 z0 else
  if zch tp n a = 40 then (match zChord tp n m 7 (zsk tp n a + 1) 0 z0 with
    | .inl e => .inl e
    | .inr q => zTail tp n q.1 tk q.2.1 q.2.2) else
  match zName tp n a 0 m z0 with
    | .inl e => .inl e
    | .inr q => zTail tp n q.1 tk 1 (zup z0 0 q.2)
/-- notes as they were read -/
def zext (R : NL) (tk : Int) (c : Nat) (nm : Int → Int) (v : Int) : NL := (R.1 + c, (fun i => if i < R.1 then R.2.1 i else tk), (fun i => if i < R.1 then R.2.2.1 i else v), fun i => if i < R.1 then R.2.2.2 i else nm (i - R.1))
def zLoad (tp : Int → Int) (n : Nat) : Nat → Nat → Int → NL → zE ⊕ NL
  | 0, _, _, _ => .inl (0, 0)
  | f + 1, a, tk, R => if zch tp n a = -1 then .inr R else match zPart tp n a tk R.1 with
    | .inl e => .inl e
    | .inr q => zLoad tp n f q.1 q.2.1 (zext R tk q.2.2.1 q.2.2.2.1 q.2.2.2.2)
/-! what holds of a good name, a good length, a good part -/
theorem zName_ok {tp : Int → Int} {n a c m : Nat} {nm : Int → Int} (hT : zT n tp) (ha : a ≤ n) {q : Nat × Int} (h : zName tp n a c m nm = .inr q) : (a < q.1 ∧ q.1 ≤ n) ∧ (0 ≤ q.2 ∧ q.2 ≤ 127) ∧ c < 6 ∧ m + c < 100 := by
  unfold zName at h
  by_cases c1 : ¬ zL (zch tp n a)
  · rw [if_pos c1] at h; cases h
  rw [if_neg c1] at h
  by_cases c2 : 6 ≤ c ∨ 100 ≤ m + c
  · rw [if_pos c2] at h; cases h
  rw [if_neg c2] at h
  by_cases c3 : ¬ zD (zch tp n (za2 tp n a))
  · rw [if_pos c3] at h; cases h
  rw [if_neg c3] at h
  by_cases c4 : (zpi tp n a < 0 ∨ 127 < zpi tp n a) ∨ zNm nm (zpi tp n a) c = true
  · rw [if_pos c4] at h; cases h
  rw [if_neg c4] at h
  have e : q = (zsk tp n (za2 tp n a) + 1, zpi tp n a) := by cases h; rfl
  have r1 := zsk_r (tp := tp) ha
  have k1 := (zch_r (a := a) hT).2.2 (by omega)
  have r2 := zsk_r (tp := tp) (n := n) (a := zsk tp n a + 1) (by omega)
  have k2 := (zch_r (a := za2 tp n a) hT).2.2 (by omega)
  have ky := zch_r (a := zsk tp n a + 1) hT
  have r3 : zsk tp n (zsk tp n a + 1) ≤ za2 tp n a ∧ za2 tp n a ≤ n := by
    unfold za2
    split
    · next g =>
      have := ky.2.2 (by unfold zy at g; omega)
      omega
    · omega
  have r4 := zsk_r (tp := tp) (n := n) (a := za2 tp n a) r3.2
  rw [e]
  refine ⟨⟨by dsimp only; omega, by dsimp only; omega⟩, ⟨by dsimp only; omega, by dsimp only; omega⟩, by omega, by omega⟩
theorem za2_r {tp : Int → Int} {n a : Nat} (hT : zT n tp) (h : zsk tp n a + 1 ≤ n) : zsk tp n (zsk tp n a + 1) ≤ za2 tp n a ∧ za2 tp n a ≤ n := by
  have ky := zch_r (a := zsk tp n a + 1) hT
  have r2 := zsk_r (tp := tp) (n := n) (a := zsk tp n a + 1) h
  unfold za2
  split
  · next g =>
    have := ky.2.2 (by unfold zy at g; omega)
    omega
  · omega
theorem zLen_ok {tp : Int → Int} {n a : Nat} {tk : Int} (hT : zT n tp) (ha : a ≤ n) {q : Nat × Int} (h : zLen tp n a tk = .inr q) : (a < q.1 ∧ q.1 ≤ n) ∧ (1 ≤ q.2 ∧ q.2 ≤ 64) ∧ tk + q.2 ≤ 512 := by
  unfold zLen at h
  by_cases c1 : zch tp n a ≠ 58
  · rw [if_pos c1] at h; cases h
  rw [if_neg c1] at h
  by_cases c2 : ¬ zD (zch tp n (zsk tp n a + 1))
  · rw [if_pos c2] at h; cases h
  rw [if_neg c2] at h
  by_cases c3 : zs1 tp n a + 2 < zde tp n (zs1 tp n a)
  · rw [if_pos c3] at h; cases h
  rw [if_neg c3] at h
  by_cases c4 : zval tp (zs1 tp n a) (zde tp n (zs1 tp n a)) < 1 ∨ 64 < zval tp (zs1 tp n a) (zde tp n (zs1 tp n a))
  · rw [if_pos c4] at h; cases h
  rw [if_neg c4] at h
  by_cases c5 : 512 < tk + zval tp (zs1 tp n a) (zde tp n (zs1 tp n a))
  · rw [if_pos c5] at h; cases h
  rw [if_neg c5] at h
  have e : q = (zde tp n (zs1 tp n a), zval tp (zs1 tp n a) (zde tp n (zs1 tp n a))) := by cases h; rfl
  have r1 := zsk_r (tp := tp) ha
  have k1 := (zch_r (a := a) hT).2.2 (by omega)
  have r2 := zsk_r (tp := tp) (n := n) (a := zsk tp n a + 1) (by omega)
  have r3 := zde_r (tp := tp) (n := n) (a := zs1 tp n a) r2.2
  have r2' : zsk tp n a + 1 ≤ zs1 tp n a := r2.1
  rw [e]
  exact ⟨⟨by dsimp only; omega, by dsimp only; omega⟩, ⟨by dsimp only; omega, by dsimp only; omega⟩, by dsimp only; omega⟩
theorem zChord_ok {tp : Int → Int} {n m : Nat} (hT : zT n tp) : ∀ (f a c : Nat) (nm : Int → Int), a ≤ n → m + c ≤ 100 → c ≤ 6 → (∀ i : Int, 0 ≤ i → i < c → 0 ≤ nm i ∧ nm i ≤ 127) → ∀ q, zChord tp n m f a c nm = .inr q → (a < q.1 ∧ q.1 ≤ n) ∧ (m + q.2.1 ≤ 100 ∧ q.2.1 ≤ 6) ∧ ∀ i : Int, 0 ≤ i → i < q.2.1 → 0 ≤ q.2.2 i ∧ q.2.2 i ≤ 127
  | 0, a, c, nm, _, _, _, _, q, h => by rw [zChord] at h; cases h
  | f + 1, a, c, nm, ha, hm, hc, hn, q, h => by
    rw [zChord] at h
    by_cases c1 : zch tp n a = 41 ∧ 0 < c
    · rw [if_pos c1] at h
      have e : q = (zsk tp n a + 1, c, nm) := by cases h; rfl
      have r1 := zsk_r (tp := tp) ha
      have k1 := (zch_r (a := a) hT).2.2 (by omega)
      rw [e]
      exact ⟨⟨by dsimp only; omega, by dsimp only; omega⟩, ⟨hm, hc⟩, hn⟩
    · rw [if_neg c1] at h
      cases hz : zName tp n a c m nm with
      | inl e => rw [hz] at h; cases h
      | inr p =>
        rw [hz] at h
        obtain ⟨p1, p2, p3, p4⟩ := zName_ok hT ha hz
        have ih := zChord_ok hT f p.1 (c + 1) (zup nm c p.2) p1.2 (by omega) (by omega) (fun i i0 i1 => by
          unfold zup
          split
          · exact p2
          · exact hn i i0 (by omega)) q h
        exact ⟨⟨by omega, ih.1.2⟩, ih.2⟩
theorem zTail_ok {tp : Int → Int} {n a : Nat} {tk : Int} {c : Nat} {nm : Int → Int} (hT : zT n tp) (ha : a ≤ n) {q : zP} (h : zTail tp n a tk c nm = .inr q) : (a < q.1 ∧ q.1 ≤ n) ∧ q.2.1 = tk + q.2.2.2.2 ∧ q.2.2.1 = c ∧ q.2.2.2.1 = nm ∧ (1 ≤ q.2.2.2.2 ∧ q.2.2.2.2 ≤ 64) ∧ tk + q.2.2.2.2 ≤ 512 := by
  unfold zTail at h
  cases hz : zLen tp n a tk with
  | inl e => rw [hz] at h; cases h
  | inr p =>
    rw [hz] at h
    have e : q = (p.1, tk + p.2, c, nm, p.2) := by cases h; rfl
    obtain ⟨p1, p2, p3⟩ := zLen_ok hT ha hz
    rw [e]
    exact ⟨p1, rfl, rfl, rfl, p2, p3⟩
theorem zPart_ok {tp : Int → Int} {n a : Nat} {tk : Int} {m : Nat} (hT : zT n tp) (ha : a ≤ n) (htk : 0 ≤ tk ∧ tk ≤ 512) (hm : m ≤ 100) (hne : zch tp n a ≠ -1) {q : zP} (h : zPart tp n a tk m = .inr q) : (a < q.1 ∧ q.1 ≤ n) ∧ (0 ≤ q.2.1 ∧ q.2.1 ≤ 512) ∧ m + q.2.2.1 ≤ 100 ∧ ∀ i : Int, 0 ≤ i → i < q.2.2.1 → okV tk q.2.2.2.2 (q.2.2.2.1 i) := by
  have r1 := zsk_r (tp := tp) ha
  have k0 := zch_r (a := a) hT
  have k1 := k0.2.2 (by omega)
  unfold zPart at h
  by_cases c1 : zch tp n a = 124
  · rw [if_pos c1] at h
    have e : q = (zsk tp n a + 1, tk, 0, z0, 0) := by cases h; rfl
    rw [e]
    exact ⟨⟨by dsimp only; omega, by dsimp only; omega⟩, htk, hm, fun i i0 i1 => by dsimp only at i1; omega⟩
  rw [if_neg c1] at h
  by_cases c2 : zch tp n a = 45
  · rw [if_pos c2] at h
    obtain ⟨t1, t2, t3, t4, t5, t6⟩ := zTail_ok hT (by omega) h
    exact ⟨by omega, by omega, by omega, fun i i0 i1 => by omega⟩
  rw [if_neg c2] at h
  by_cases c3 : zch tp n a = 40
  · rw [if_pos c3] at h
    cases hz : zChord tp n m 7 (zsk tp n a + 1) 0 z0 with
    | inl e => rw [hz] at h; cases h
    | inr p =>
      rw [hz] at h
      obtain ⟨p1, p2, p3⟩ := zChord_ok hT 7 (zsk tp n a + 1) 0 z0 (by omega) (by omega) (by omega) (fun i i0 i1 => by omega) p hz
      obtain ⟨t1, t2, t3, t4, t5, t6⟩ := zTail_ok hT p1.2 h
      refine ⟨by omega, by omega, by omega, fun i i0 i1 => ?_⟩
      have := p3 i i0 (by omega)
      rw [t4]
      unfold okV
      omega
  rw [if_neg c3] at h
  cases hz : zName tp n a 0 m z0 with
  | inl e => rw [hz] at h; cases h
  | inr p =>
    rw [hz] at h
    obtain ⟨p1, p2, p3, p4⟩ := zName_ok hT ha hz
    obtain ⟨t1, t2, t3, t4, t5, t6⟩ := zTail_ok hT p1.2 h
    refine ⟨by omega, by omega, by omega, fun i i0 i1 => ?_⟩
    have e0 : i = 0 := by omega
    rw [t4, e0]
    have ez : zup z0 0 p.2 0 = p.2 := rfl
    rw [ez]
    unfold okV
    omega
