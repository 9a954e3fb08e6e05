/-! ===== lasting, pure: how long the key has lasted ===== -/
def loW (X : KX) (g : Int → Int) (w : Int) (k : Int) : Int → Int := fun o => if o = k then 1000000000 else addS (addS (g o) (mvS X w o k)) (xo X w k)
def miS (a c : Int) : Int := if c < a then c else a
def lrS (X : KX) (p : Nat) : Nat → Nat → Int → Int
  | 0, 0, k => xo X 0 k
  | 0, _ + 1, _ => 1000000000
  | w + 1, 0, k => mnA (if p = 0 then addS (lrS X p w 0 k) (xo X ((w : Int) + 1) k) else 1000000000) (loW X (lrS X p w p) ((w : Int) + 1) k) 24
  | w + 1, l + 1, k => if l + 1 = p then miS (addS (lrS X p w l k) (xo X ((w : Int) + 1) k)) (addS (lrS X p w (l + 1) k) (xo X ((w : Int) + 1) k)) else addS (lrS X p w l k) (xo X ((w : Int) + 1) k)
theorem loW_r {X : KX} (hv : xV X) {a : Int} {g : Int → Int} {B : Int} (ha : fnB (B + 1209900) a) (hg : ∀ o, 0 ≤ o → o < 24 → fnB B (g o)) (w : Int) {k : Int} (hk : 0 ≤ k ∧ k < 24) (j : Nat) (hj : j ≤ 24) : fnB (B + 1209900) (mnA a (loW X g w k) j) := by
  rcases mnA_at a (loW X g w k) j with e | ⟨o, ho, e⟩
  · rw [e]; exact ha
  · rw [← e]
    unfold loW
    split
    · exact Or.inl rfl
    · exact fnB_mo (fnB_add (fnB_add (hg o ho.1 (by omega)) (mvS_r hv w ⟨ho.1, by omega⟩ hk)) (C := 9900) (hv.2.1 w k hk.1 hk.2)) (by omega)
theorem lrS_r {X : KX} (hv : xV X) (p : Nat) : ∀ (w l : Nat) (k : Int), 0 ≤ k → k < 24 → fnB (1209900 * ((w : Int) + 1)) (lrS X p w l k)
  | 0, 0, k, a, c => by
    have := hv.2.1 0 k a c
    rw [lrS]
    unfold fnB
    omega
  | 0, l + 1, k, a, c => Or.inl (by rw [lrS])
  | w + 1, 0, k, a, c => by
    have h1 : fnB 9900 (xo X ((w : Int) + 1) k) := hv.2.1 ((w : Int) + 1) k a c
    rw [lrS]
    refine fnB_mo (loW_r hv (B := 1209900 * ((w : Int) + 1)) ?_ (fun o o0 o1 => lrS_r hv p w p o o0 o1) ((w : Int) + 1) ⟨a, c⟩ 24 (Nat.le_refl _)) (by omega)
    split
    · exact fnB_mo (fnB_add (lrS_r hv p w 0 k a c) h1) (by omega)
    · exact Or.inl rfl
  | w + 1, l + 1, k, a, c => by
    have h1 : fnB 9900 (xo X ((w : Int) + 1) k) := hv.2.1 ((w : Int) + 1) k a c
    have h2 := fnB_mo (C := 1209900 * (((w + 1 : Nat) : Int) + 1)) (fnB_add (lrS_r hv p w l k a c) h1) (by omega)
    have h3 := fnB_mo (C := 1209900 * (((w + 1 : Nat) : Int) + 1)) (fnB_add (lrS_r hv p w (l + 1) k a c) h1) (by omega)
    rw [lrS]
    unfold miS
    split
    · split
      · exact h3
      · exact h2
    · exact h2
theorem lr_le {X : KX} (hv : xV X) (p : Nat) {w : Nat} (hw : w < xn X) (l : Nat) {k : Int} (hk : 0 ≤ k ∧ k < 24) : 0 ≤ lrS X p w l k ∧ lrS X p w l k ≤ 1000000000 := by
  have hn := hv.1
  exact fnB_le (lrS_r hv p w l k hk.1 hk.2) (by omega)
theorem addS_inf (v : Int) : addS 1000000000 v = 1000000000 := by
  unfold addS
  rw [if_neg (by omega)]
/-- a key can't have lasted longer than there are windows -/
theorem lr_far {X : KX} (p : Nat) : ∀ (w l : Nat) (k : Int), w < l → lrS X p w l k = 1000000000
  | 0, l + 1, k, _ => by rw [lrS]
  | w + 1, l + 1, k, h => by
    rw [lrS, lr_far p w l k (by omega), lr_far p w (l + 1) k (by omega), addS_inf]
    unfold miS
    split
    · rw [if_neg (by omega)]
    · rfl
def chnS (X : KX) (c : Int) (f : Nat) (k : Int) : Nat → Int
  | 0 => c
  | j + 1 => addS (chnS X c f k j) (xo X ((f : Int) + (j : Int) + 1) k)
theorem chnS_r {X : KX} (hv : xV X) {c : Int} {f : Nat} {k : Int} (hk : 0 ≤ k ∧ k < 24) {B : Int} (hc : fnB B c) : ∀ j : Nat, fnB (B + 9900 * j) (chnS X c f k j)
  | 0 => by rw [chnS]; exact fnB_mo hc (by omega)
  | j + 1 => by
    rw [chnS]
    exact fnB_mo (fnB_add (chnS_r hv hk hc j) (C := 9900) (hv.2.1 _ k hk.1 hk.2)) (by omega)
theorem chnS_m {X : KX} (hv : xV X) {c e : Int} {f : Nat} {k : Int} (hk : 0 ≤ k ∧ k < 24) {B : Int} (hc : fnB B c) (h : c ≤ e) : ∀ j : Nat, B + 9900 * j ≤ 1000000000 → chnS X c f k j ≤ chnS X e f k j
  | 0, _ => by rw [chnS, chnS]; exact h
  | j + 1, hB => by
    have r := fnB_le (chnS_r hv (f := f) hk hc (j + 1)) hB
    rw [chnS] at r ⊢
    rw [chnS]
    exact addS_le (chnS_m hv hk hc h j (by omega)) (Int.le_refl _) r.2
/-- rows ahead of the last are one chain from where the key began -/
theorem lr_chain {X : KX} (p : Nat) (f : Nat) (k : Int) : ∀ l : Nat, l < p → lrS X p (f + l) l k = chnS X (lrS X p f 0 k) f k l
  | 0, _ => by rw [chnS]; rfl
  | l + 1, h => by
    show lrS X p ((f + l) + 1) (l + 1) k = _
    rw [lrS, if_neg (by omega), lr_chain p f k l (by omega), chnS, show ((f + l : Nat) : Int) + 1 = (f : Int) + (l : Int) + 1 by omega]
theorem lr_stay {X : KX} (hv : xV X) (p : Nat) {w : Nat} (hw : w + 1 < xn X) {k : Int} (hk : 0 ≤ k ∧ k < 24) : lrS X p (w + 1) p k ≤ addS (lrS X p w p k) (xo X ((w : Int) + 1) k) := by
  cases p with
  | zero =>
    rw [lrS, if_pos rfl]
    exact (mnA_lo _ _ 24).1
  | succ p =>
    rw [lrS, if_pos rfl]
    unfold miS
    split <;> omega
theorem cn_lr {X : KX} (hv : xV X) (p : Nat) {f : Nat} {k : Int} (hk : 0 ≤ k ∧ k < 24) {c : Int} (h : lrS X p f p k ≤ c) : ∀ j : Nat, f + j < xn X → lrS X p (f + j) p k ≤ chnS X c f k j
  | 0, _ => by rw [chnS]; exact h
  | j + 1, hj => by
    have hn := hv.1
    have s := lr_stay hv p (w := f + j) (by omega) hk
    have q := fnB_le (fnB_add (lrS_r hv p (f + j) p k hk.1 hk.2) (C := 9900) (hv.2.1 (((f + j : Nat) : Int) + 1) k hk.1 hk.2)) (by omega)
    have s2 := addS_le (cn_lr hv p hk h j (by omega)) (Int.le_refl (xo X (((f + j : Nat) : Int) + 1) k)) q.2
    rw [chnS, show (f : Int) + (j : Int) + 1 = ((f + j : Nat) : Int) + 1 by omega]
    exact Int.le_trans s s2
/-- where the class begins a key -/
def bgS (X : KX) (p : Nat) (f : Nat) (k : Int) : Int := if f = 0 then 0 else if xk X f = 1 then 1000000000 else mnS (fun o => addS (lrS X p (f - 1) p o) (xs X o k)) 24
theorem bgS_r {X : KX} (hv : xV X) (p : Nat) {f : Nat} (hf : f < xn X) {k : Int} (hk : 0 ≤ k ∧ k < 24) : fnB 60000000 (bgS X p f k) := by
  have hn := hv.1
  unfold bgS
  split
  · exact Or.inr (by omega)
  · split
    · exact Or.inl rfl
    · have := mv_r hv (g := lrS X p (f - 1) p) (B := 1209900 * (((f - 1 : Nat) : Int) + 1)) hk (fun o o0 o1 => lrS_r hv p (f - 1) p o o0 o1) 24 (by omega)
      unfold fnB
      omega
/-- the class's beginning against the reference's -/
theorem bg_lo {X : KX} (hv : xV X) (p : Nat) {f : Nat} (hf : f + 1 < xn X) {k : Int} (hk : 0 ≤ k ∧ k < 24) : (∀ o, 0 ≤ o → o < 24 → addS (bgS X p (f + 1) k) (xo X ((f : Int) + 1) k) ≤ loW X (lrS X p f p) ((f : Int) + 1) k o) ∧ (addS (bgS X p (f + 1) k) (xo X ((f : Int) + 1) k) = 1000000000 ∨ (∃ o, (0 ≤ o ∧ o < 24) ∧ addS (bgS X p (f + 1) k) (xo X ((f : Int) + 1) k) = loW X (lrS X p f p) ((f : Int) + 1) k o) ∨ addS (bgS X p (f + 1) k) (xo X ((f : Int) + 1) k) = addS (lrS X p f p k) (xo X ((f : Int) + 1) k)) := by
  have hn := hv.1
  have rC := fnB_le (fnB_add (bgS_r hv p hf hk) (C := 9900) (hv.2.1 ((f : Int) + 1) k hk.1 hk.2)) (by omega)
  have eb : bgS X p (f + 1) k = if xk X ((f : Int) + 1) = 1 then 1000000000 else mnS (fun o => addS (lrS X p f p o) (xs X o k)) 24 := by
    unfold bgS
    rw [if_neg (by omega), show ((f + 1 : Nat) : Int) = (f : Int) + 1 by omega, show f + 1 - 1 = f by omega]
  by_cases cx : xk X ((f : Int) + 1) = 1
  · rw [if_pos cx] at eb
    rw [eb, addS_inf]
    refine ⟨fun o o0 o1 => ?_, Or.inl rfl⟩
    unfold loW
    by_cases ck : o = k
    · rw [if_pos ck]; exact Int.le_refl _
    · rw [if_neg ck]
      have : mvS X ((f : Int) + 1) o k = 1000000000 := by unfold mvS; rw [if_pos ⟨cx, ck⟩]
      rw [this, addS_c (lrS X p f p o), addS_inf, addS_inf]
      exact Int.le_refl _
  · rw [if_neg cx] at eb
    have em : ∀ o, mvS X ((f : Int) + 1) o k = xs X o k := fun o => by unfold mvS; rw [if_neg (fun h => cx h.1)]
    constructor
    · intro o o0 o1
      unfold loW
      by_cases ck : o = k
      · rw [if_pos ck]; exact rC.2
      · rw [if_neg ck, em]
        refine addS_le ?_ (Int.le_refl _) rC.2
        rw [eb]
        exact mnS_lo (fun o => addS (lrS X p f p o) (xs X o k)) 24 o o0 (by omega)
    · rcases mnS_at (fun o => addS (lrS X p f p o) (xs X o k)) 24 with e | ⟨o, ho, e⟩
      · rw [eb, e, addS_inf]; exact Or.inl rfl
      · right
        by_cases ck : o = k
        · right
          rw [eb, ← e, ck, hv.2.2.2.2 k hk.1 hk.2, (addS_0 (lr_le hv p (by omega) p hk).2).2]
        · left
          refine ⟨o, ⟨ho.1, by omega⟩, ?_⟩
          rw [eb, ← e]
          unfold loW
          rw [if_neg ck, em]
/-- what the class works out is the reference's last row -/
theorem settle_eq {X : KX} (hv : xV X) (p : Nat) {w : Nat} (hw : w < xn X) {k : Int} (hk : 0 ≤ k ∧ k < 24) : lrS X p w p k = (if w < p then (if w = 0 then 1000000000 else addS (lrS X p (w - 1) p k) (xo X w k)) else miS (if w = 0 then 1000000000 else addS (lrS X p (w - 1) p k) (xo X w k)) (chnS X (addS (bgS X p (w - p) k) (xo X ((w - p : Nat) : Int) k)) (w - p) k p)) := by
  have hn := hv.1
  by_cases cp : w < p
  · rw [if_pos cp, lr_far p w p k cp]
    by_cases c0 : w = 0
    · rw [if_pos c0]
    · rw [if_neg c0, lr_far p (w - 1) p k (by omega), addS_inf]
  rw [if_neg cp]
  obtain ⟨f, rfl⟩ : ∃ f, w = f + p := ⟨w - p, by omega⟩
  rw [show f + p - p = f by omega]
  have rx : fnB 9900 (xo X f k) := hv.2.1 f k hk.1 hk.2
  have rC := fnB_add (bgS_r hv p (f := f) (by omega) hk) rx
  cases p with
  | zero =>
    rw [chnS]
    cases f with
    | zero =>
      have eC : addS (bgS X 0 0 k) (xo X ((0 : Nat) : Int) k) = xo X 0 k := by
        unfold bgS
        rw [if_pos rfl]
        have := fnB_le rx (by omega)
        exact (addS_0 this.2).1
      rw [eC]
      show xo X 0 k = _
      unfold miS
      have : xo X 0 k ≤ 1000000000 := (fnB_le (v := xo X 0 k) (hv.2.1 0 k hk.1 hk.2) (by omega)).2
      rw [if_pos rfl]
      split <;> omega
    | succ f =>
      obtain ⟨h1, h2⟩ := bg_lo hv 0 (f := f) (by omega) hk
      have ec : ((f + 1 : Nat) : Int) = (f : Int) + 1 := by omega
      rw [show f + 1 + 0 = f + 1 from rfl, if_neg (by omega), show f + 1 - 1 = f by omega, ec, lrS, if_pos rfl]
      rw [ec] at rC
      have rS := fnB_le (fnB_add (lrS_r hv 0 f 0 k hk.1 hk.2) (C := 9900) (hv.2.1 ((f : Int) + 1) k hk.1 hk.2)) (by omega)
      have rC1 := fnB_le rC (by omega)
      generalize hC : addS (bgS X 0 (f + 1) k) (xo X ((f : Int) + 1) k) = C at *
      generalize hS : addS (lrS X 0 f 0 k) (xo X ((f : Int) + 1) k) = S at *
      obtain ⟨m1, m2⟩ := mnA_lo S (loW X (lrS X 0 f 0) ((f : Int) + 1) k) 24
      have m3 := mnA_at S (loW X (lrS X 0 f 0) ((f : Int) + 1) k) 24
      have lo : mnA S (loW X (lrS X 0 f 0) ((f : Int) + 1) k) 24 = S ∨ C ≤ mnA S (loW X (lrS X 0 f 0) ((f : Int) + 1) k) 24 := by
        rcases m3 with e | ⟨o, ho, e⟩
        · exact Or.inl e
        · right
          rw [← e]
          exact h1 o ho.1 (by omega)
      have up : mnA S (loW X (lrS X 0 f 0) ((f : Int) + 1) k) 24 ≤ C := by
        rcases h2 with e | ⟨o, ho, e⟩ | e
        · omega
        · rw [e]; exact m2 o ho.1 (by omega)
        · omega
      unfold miS
      split <;> omega
  | succ p =>
    have eT : lrS X (p + 1) (f + (p + 1)) (p + 1) k = miS (addS (lrS X (p + 1) (f + p) p k) (xo X (((f + p : Nat) : Int) + 1) k)) (addS (lrS X (p + 1) (f + p) (p + 1) k) (xo X (((f + p : Nat) : Int) + 1) k)) := by
      show lrS X (p + 1) ((f + p) + 1) (p + 1) k = _
      rw [lrS, if_pos rfl]
    rw [lr_chain (p + 1) f k p (by omega)] at eT
    have ew : ((f + (p + 1) : Nat) : Int) = ((f + p : Nat) : Int) + 1 := by omega
    rw [eT, if_neg (by omega), show f + (p + 1) - 1 = f + p by omega, ew, chnS, show (f : Int) + (p : Int) + 1 = ((f + p : Nat) : Int) + 1 by omega]
    have rB := fnB_le (fnB_add (lrS_r hv (p + 1) (f + p) (p + 1) k hk.1 hk.2) (C := 9900) (hv.2.1 (((f + p : Nat) : Int) + 1) k hk.1 hk.2)) (by omega)
    have rK := chnS_r hv (f := f) hk rC p
    have rK1 := fnB_le (fnB_add rK (C := 9900) (hv.2.1 (((f + p : Nat) : Int) + 1) k hk.1 hk.2)) (by omega)
    -- the beginning is the same, or the class goes on in the same key
    have key : (addS (bgS X (p + 1) f k) (xo X f k) = lrS X (p + 1) f 0 k) ∨ (addS (bgS X (p + 1) f k) (xo X f k) ≤ lrS X (p + 1) f 0 k ∧ lrS X (p + 1) f (p + 1) k ≤ addS (bgS X (p + 1) f k) (xo X f k)) := by
      cases f with
      | zero =>
        left
        unfold bgS
        rw [if_pos rfl]
        have := fnB_le rx (by omega)
        rw [(addS_0 this.2).1, lrS]
        rfl
      | succ f =>
        obtain ⟨h1, h2⟩ := bg_lo hv (p + 1) (f := f) (by omega) hk
        have st := lr_stay hv (p + 1) (w := f) (by omega) hk
        have ec : ((f + 1 : Nat) : Int) = (f : Int) + 1 := by omega
        have el : lrS X (p + 1) (f + 1) 0 k = mnA 1000000000 (loW X (lrS X (p + 1) f (p + 1)) ((f : Int) + 1) k) 24 := by
          rw [lrS, if_neg (by omega)]
        rw [ec] at rC ⊢
        rw [el]
        have rC1 := fnB_le rC (by omega)
        obtain ⟨m1, m2⟩ := mnA_lo 1000000000 (loW X (lrS X (p + 1) f (p + 1)) ((f : Int) + 1) k) 24
        have lo : addS (bgS X (p + 1) (f + 1) k) (xo X ((f : Int) + 1) k) ≤ mnA 1000000000 (loW X (lrS X (p + 1) f (p + 1)) ((f : Int) + 1) k) 24 := by
          rcases mnA_at 1000000000 (loW X (lrS X (p + 1) f (p + 1)) ((f : Int) + 1) k) 24 with e | ⟨o, ho, e⟩
          · rw [e]; exact rC1.2
          · rw [← e]; exact h1 o ho.1 (by omega)
        rcases h2 with e | ⟨o, ho, e⟩ | e
        · left; omega
        · left
          have := m2 o ho.1 (by omega)
          omega
        · right
          exact ⟨lo, by rw [e]; exact st⟩
    rcases key with e | ⟨e1, e2⟩
    · rw [e]
      unfold miS
      split <;> split <;> omega
    · have g1 := chnS_m hv (f := f) hk rC e1 p (by omega)
      have g2 := cn_lr hv (p + 1) hk e2 p (by omega)
      have g3 := addS_le g1 (Int.le_refl (xo X (((f + p : Nat) : Int) + 1) k)) rK1.2
      have g4 := addS_le g2 (Int.le_refl (xo X (((f + p : Nat) : Int) + 1) k)) rB.2
      unfold miS
      split <;> split <;> omega
