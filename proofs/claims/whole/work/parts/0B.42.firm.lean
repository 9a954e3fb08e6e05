/-! ===== firm, pure: once no move is left, none is left with dearer moves ===== -/
def xLe (X Y : KX) : Prop := xn Y = xn X ∧ xo Y = xo X ∧ xk Y = xk X ∧ ∀ k o, 0 ≤ k → k < 24 → 0 ≤ o → o < 24 → xs X k o ≤ xs Y k o
theorem bh_mo {X Y : KX} (hx : xV X) (hy : xV Y) (h : xLe X Y) : ∀ (i : Nat) (k : Int), i < xn X → 0 ≤ k → k < 24 → bhS X i k ≤ bhS Y i k
  | 0, k, _, _, _ => by rw [bhS, bhS, h.1, h.2.1]; exact Int.le_refl _
  | i + 1, k, hi, a, c => by
    have hn := hx.1
    have r := bhS_r hx (i + 1) k a c
    have r1 : bhS X (i + 1) k ≤ 1000000000 := by omega
    rw [bhS] at r1 ⊢
    rw [bhS, h.1, h.2.1, h.2.2.1]
    refine addS_le (Int.le_refl _) ?_ r1
    split
    · exact bh_mo hx hy h i k (by omega) a c
    · rcases mnS_at (fun o => addS (xs Y k o) (bhS Y i o)) 24 with e | ⟨o, ho, e⟩
      · rw [e]; exact mnS_le _ 24
      · rw [← e]
        refine Int.le_trans (mnS_lo _ 24 o ho.1 ho.2) ?_
        have q := fnB_add (B := 1200000) (Or.inr (hx.2.2.2.1 k o a c ho.1 (by omega))) (bhS_r hx i o ho.1 (by omega))
        exact addS_le (h.2.2.2 k o a c ho.1 (by omega)) (bh_mo hx hy h i o (by omega) ho.1 (by omega)) (fnB_le q (by omega)).2
theorem bh_fin {X Y : KX} (hx : xV X) (hy : xV Y) (h : xLe X Y) : ∀ (i : Nat) (k : Int), i < xn X → 0 ≤ k → k < 24 → bhS X i k < 1000000000 → bhS Y i k < 1000000000
  | 0, k, _, _, _, f => by rw [bhS] at f ⊢; rw [h.1, h.2.1]; exact f
  | i + 1, k, hi, a, c, f => by
    have hn := hx.1
    rw [bhS] at f ⊢
    rw [h.1, h.2.1, h.2.2.1]
    obtain ⟨f1, f2, _⟩ := addS_lt f
    have ro := hx.2.1 ((xn X : Int) - 1 - ((i : Int) + 1)) k a c
    have key : ∀ v, v < 1000000000 → fnB 100000000 v → addS (xo X ((xn X : Int) - 1 - ((i : Int) + 1)) k) v < 1000000000 := fun v hv1 hv2 => by
      unfold fnB at hv2
      unfold addS
      rw [if_pos ⟨f1, hv1⟩]
      omega
    by_cases cx : xk X ((xn X : Int) - 1 - i) = 1
    · rw [if_pos cx] at f2 ⊢
      have g := bh_fin hx hy h i k (by omega) a c f2
      refine key _ g (fnB_mo (bhS_r hy i k a c) (by omega))
    · rw [if_neg cx] at f2 ⊢
      rcases mnS_at (fun o => addS (xs X k o) (bhS X i o)) 24 with e | ⟨o, ho, e⟩
      · omega
      · rw [← e] at f2
        have g := bh_fin hx hy h i o (by omega) ho.1 (by omega) (addS_lt f2).2.1
        have rs := hy.2.2.2.1 k o a c ho.1 (by omega)
        have rb := bhS_r hy i o ho.1 (by omega)
        have e1 : addS (xs Y k o) (bhS Y i o) = xs Y k o + bhS Y i o := by unfold addS; rw [if_pos ⟨by omega, g⟩]
        have l1 : mnS (fun o => addS (xs Y k o) (bhS Y i o)) 24 ≤ addS (xs Y k o) (bhS Y i o) := mnS_lo (fun o => addS (xs Y k o) (bhS Y i o)) 24 o ho.1 ho.2
        have l2 : fnB 100000000 (mnS (fun o => addS (xs Y k o) (bhS Y i o)) 24) := by
          rcases mnS_at (fun o => addS (xs Y k o) (bhS Y i o)) 24 with e2 | ⟨o2, ho2, e2⟩
          · rw [e2]; exact Or.inl rfl
          · rw [← e2]
            exact fnB_mo (fnB_add (B := 1200000) (Or.inr (hy.2.2.2.1 k o2 a c ho2.1 (by omega))) (bhS_r hy i o2 ho2.1 (by omega))) (by omega)
        refine key _ ?_ l2
        rw [e1] at l1
        omega
theorem ls_mo {X Y : KX} (hx : xV X) (hy : xV Y) (h : xLe X Y) : lsS X ≤ lsS Y := by
  unfold lsS
  rw [h.1]
  split
  · exact Int.le_refl _
  · rcases mnS_at (bhS Y (xn X - 1)) 24 with e | ⟨o, ho, e⟩
    · rw [e]; exact mnS_le _ 24
    · rw [← e]
      exact Int.le_trans (mnS_lo _ 24 o ho.1 ho.2) (bh_mo hx hy h (xn X - 1) o (by omega) ho.1 (by omega))
theorem ls_fin {X Y : KX} (hx : xV X) (hy : xV Y) (h : xLe X Y) (f : lsS X < 1000000000) : lsS Y < 1000000000 := by
  unfold lsS at f ⊢
  rw [h.1]
  by_cases c : xn X = 0
  · rw [if_pos c]; omega
  · rw [if_neg c] at f ⊢
    rcases mnS_at (bhS X (xn X - 1)) 24 with e | ⟨o, ho, e⟩
    · omega
    · rw [← e] at f
      have g := bh_fin hx hy h (xn X - 1) o (by omega) ho.1 (by omega) f
      have := mnS_lo (bhS Y (xn X - 1)) 24 o ho.1 ho.2
      omega
theorem fk_uni {g : Int → Int} {v k : Int} (hk : 0 ≤ k ∧ k < 24) (h1 : g k = v) (h2 : ∀ j, 0 ≤ j → j < k → g j ≠ v) : fkS g v 24 = k := by
  obtain ⟨q1, q2, q3⟩ := fkS_ex (g := g) (v := v) ⟨k, hk, h1⟩
  rcases Int.lt_trichotomy (fkS g v 24) k with c | c | c
  · exact absurd q2 (h2 _ q1.1 c)
  · exact c
  · exact absurd h1 (q3 k hk.1 c)
theorem firm_mo {X Y : KX} (hx : xV X) (hy : xV Y) (h : xLe X Y) (hl : lsS X < 1000000000) (hc : ∀ w : Nat, w < xn X → paS X w = paS X 0) : ∀ w : Nat, w < xn X → paS Y w = paS X 0 := by
  have hn := hx.1
  -- the costs behind the one key are the same
  have same : ∀ i : Nat, i < xn X → bhS Y i (paS X 0) = bhS X i (paS X 0) := by
    intro i
    induction i with
    | zero => intro _; rw [bhS, bhS, h.1, h.2.1]
    | succ i ih =>
      intro hi
      obtain ⟨hp, hb⟩ := paS_r hx hl 0 (by omega)
      have e := ih (by omega)
      have ch := pa_ch hx hl (w := xn X - 1 - (i + 1)) (by omega)
      rw [hc (xn X - 1 - (i + 1)) (by omega), hc (xn X - 1 - (i + 1) + 1) (by omega)] at ch
      have m0 : ∀ Z : KX, xV Z → ∀ w, mvS Z w (paS X 0) (paS X 0) = 0 := fun Z hz w => by
        unfold mvS
        rw [if_neg (fun h => h.2 rfl), hz.2.2.2.2 _ hp.1 hp.2]
      rw [m0 X hx, show xn X - 1 - (xn X - 1 - (i + 1) + 1) = i by omega, show xn X - 1 - (xn X - 1 - (i + 1)) = i + 1 by omega] at ch
      have rb := bhS_r hx i (paS X 0) hp.1 hp.2
      rw [(addS_0 (by omega)).1] at ch
      have st := bh_step hy (w := xn X - 1 - (i + 1)) (by rw [h.1]; omega) hp hp
      rw [m0 Y hy, h.1, show xn X - 1 - (xn X - 1 - (i + 1) + 1) = i by omega, show xn X - 1 - (xn X - 1 - (i + 1)) = i + 1 by omega, e, (addS_0 (by omega)).1, h.2.1] at st
      have mo := bh_mo hx hy h (i + 1) (paS X 0) hi hp.1 hp.2
      obtain ⟨_, hbw⟩ := paS_r hx hl (xn X - 1 - (i + 1)) (by omega)
      rw [hc (xn X - 1 - (i + 1)) (by omega), show xn X - 1 - (xn X - 1 - (i + 1)) = i + 1 by omega] at hbw
      have ow := bh_own hx (w := xn X - 1 - (i + 1)) (by omega) hp
      rw [show xn X - 1 - (xn X - 1 - (i + 1)) = i + 1 by omega] at ow
      have ro := hx.2.1 ((xn X - 1 - (i + 1) : Nat) : Int) (paS X 0) hp.1 hp.2
      unfold addS at st
      rw [if_pos ⟨by omega, by omega⟩] at st
      omega
  intro w
  induction w with
  | zero =>
    intro hw
    obtain ⟨hp, hb⟩ := paS_r hx hl 0 hw
    have eX : lsS X = mnS (bhS X (xn X - 1)) 24 := by unfold lsS; rw [if_neg (by omega)]
    have eY : lsS Y = mnS (bhS Y (xn X - 1)) 24 := by unfold lsS; rw [if_neg (by rw [h.1]; omega), h.1]
    have ex : ∃ j : Int, (0 ≤ j ∧ j < 24) ∧ bhS X (xn X - 1) j = lsS X := by
      rcases mnS_at (bhS X (xn X - 1)) 24 with e | ⟨o, ho, e⟩
      · omega
      · exact ⟨o, ⟨ho.1, by omega⟩, by omega⟩
    obtain ⟨q1, q2, q3⟩ := fkS_ex ex
    have q2' : bhS X (xn X - 1) (paS X 0) = lsS X := q2
    have q3' : ∀ j : Int, 0 ≤ j → j < paS X 0 → bhS X (xn X - 1) j ≠ lsS X := q3
    have s := same (xn X - 1) (by omega)
    have m1 := ls_mo hx hy h
    have m2 := mnS_lo (bhS Y (xn X - 1)) 24 (paS X 0) hp.1 (by omega)
    have el : lsS Y = lsS X := by omega
    show fkS (bhS Y (xn Y - 1)) (lsS Y) 24 = _
    rw [h.1, el]
    refine fk_uni hp (by omega) (fun j j0 j1 => ?_)
    have a1 := q3' j j0 j1
    have a2 := mnS_lo (bhS X (xn X - 1)) 24 j j0 (by omega)
    have a3 := bh_mo hx hy h (xn X - 1) j (by omega) j0 (by omega)
    omega
  | succ w ih =>
    intro hw
    have ihw := ih (by omega)
    obtain ⟨hp, hb0⟩ := paS_r hx hl 0 (by omega)
    have eY : paS Y (w + 1) = if xk Y ((w : Int) + 1) = 1 then paS Y w else fkS (fun k => addS (xs Y (paS Y w) k) (bhS Y (xn Y - 1 - (w + 1)) k)) (bhS Y (xn Y - 1 - w) (paS Y w) - xo Y w (paS Y w)) 24 := by rw [paS]
    rw [eY, h.2.2.1, ihw]
    by_cases cx : xk X ((w : Int) + 1) = 1
    · rw [if_pos cx]
    · rw [if_neg cx, h.1, h.2.1]
      obtain ⟨_, hb⟩ := paS_r hx hl w (by omega)
      rw [hc w (by omega)] at hb
      obtain ⟨r1, r2, r3⟩ := bh_rest hw hb
      rw [if_neg cx] at r2
      have eP : paS X (w + 1) = fkS (fun k => addS (xs X (paS X 0) k) (bhS X (xn X - 1 - (w + 1)) k)) (bhS X (xn X - 1 - w) (paS X 0) - xo X w (paS X 0)) 24 := by
        have eX : paS X (w + 1) = if xk X ((w : Int) + 1) = 1 then paS X w else fkS (fun k => addS (xs X (paS X w) k) (bhS X (xn X - 1 - (w + 1)) k)) (bhS X (xn X - 1 - w) (paS X w) - xo X w (paS X w)) 24 := by rw [paS]
        rw [eX, if_neg cx, hc w (by omega)]
      rw [same (xn X - 1 - w) (by omega)]
      generalize hR : bhS X (xn X - 1 - w) (paS X 0) - xo X w (paS X 0) = R at *
      have ex : ∃ j : Int, (0 ≤ j ∧ j < 24) ∧ (fun k => addS (xs X (paS X 0) k) (bhS X (xn X - 1 - (w + 1)) k)) j = R := by
        rcases mnS_at (fun k => addS (xs X (paS X 0) k) (bhS X (xn X - 1 - (w + 1)) k)) 24 with e | ⟨o, ho, e⟩
        · omega
        · exact ⟨o, ⟨ho.1, by omega⟩, by rw [r2]; exact e⟩
      obtain ⟨q1, q2, q3⟩ := fkS_ex ex
      rw [← eP, hc (w + 1) hw] at q1 q2 q3
      have rb := bhS_r hy (xn X - 1 - (w + 1)) (paS X 0) hp.1 hp.2
      have s := same (xn X - 1 - (w + 1)) (by omega)
      have rbx := bhS_r hx (xn X - 1 - (w + 1)) (paS X 0) hp.1 hp.2
      refine fk_uni hp ?_ (fun j j0 j1 => ?_)
      · have q2' : addS (xs X (paS X 0) (paS X 0)) (bhS X (xn X - 1 - (w + 1)) (paS X 0)) = R := q2
        rw [hx.2.2.2.2 _ hp.1 hp.2, (addS_0 (by omega)).1] at q2'
        show addS (xs Y (paS X 0) (paS X 0)) (bhS Y (xn X - 1 - (w + 1)) (paS X 0)) = R
        rw [hy.2.2.2.2 _ hp.1 hp.2, (addS_0 (by omega)).1]
        omega
      · have a1 : addS (xs X (paS X 0) j) (bhS X (xn X - 1 - (w + 1)) j) ≠ R := q3 j j0 j1
        have a2 : mnS (fun k => addS (xs X (paS X 0) k) (bhS X (xn X - 1 - (w + 1)) k)) 24 ≤ addS (xs X (paS X 0) j) (bhS X (xn X - 1 - (w + 1)) j) := mnS_lo (fun k => addS (xs X (paS X 0) k) (bhS X (xn X - 1 - (w + 1)) k)) 24 j j0 (by omega)
        have q := fnB_add (B := 1200000) (Or.inr (hx.2.2.2.1 (paS X 0) j hp.1 hp.2 j0 (by omega))) (bhS_r hx (xn X - 1 - (w + 1)) j j0 (by omega))
        have a3 := addS_le (h.2.2.2 (paS X 0) j hp.1 hp.2 j0 (by omega)) (bh_mo hx hy h (xn X - 1 - (w + 1)) j (by omega) j0 (by omega)) (fnB_le q (by omega)).2
        show addS (xs Y (paS X 0) j) (bhS Y (xn X - 1 - (w + 1)) j) ≠ R
        omega
theorem sg_con {pa : Nat → Int} {n : Nat} (h : sgS pa n ≤ 1) : ∀ w : Nat, w < n → pa w = pa 0
  | 0, _ => rfl
  | w + 1, hw => by
    have ih := sg_con h w (by omega)
    by_cases c : pa (w + 1) = pa w
    · rw [c, ih]
    · have a1 : sgS pa 1 = sgS pa 0 + 1 := sgS_t (pa := pa) (w := 0) (Or.inl rfl)
      have a0 := sgS_r pa 0
      have a2 := sgS_m pa 1 w
      rw [show 1 + w = w + 1 by omega] at a2
      have a3 : sgS pa (w + 1 + 1) = sgS pa (w + 1) + 1 := sgS_t (Or.inr c)
      have a4 := sgS_m pa (w + 1 + 1) (n - (w + 1 + 1))
      rw [show w + 1 + 1 + (n - (w + 1 + 1)) = n by omega] at a4
      omega
theorem con_sg {pa : Nat → Int} {n : Nat} (h : ∀ w : Nat, w < n → pa w = pa 0) : ∀ i : Nat, i ≤ n → sgS pa i ≤ 1
  | 0, _ => by rw [sgS]; omega
  | i + 1, hi => by
    have ih := con_sg h i (by omega)
    by_cases c : i = 0
    · subst c
      have := sgS_r pa (0 + 1)
      omega
    · have ns : ¬ stW pa i := by
        intro q
        rcases q with q | q
        · exact c q
        · exact q (by rw [h i (by omega), h (i - 1) (by omega)])
      rw [sgS_f ns]
      exact ih
/-! the factors -/
abbrev fmP (b : KB) (f : Int) : Prop := sgS (paS (XB b f)) (nB b) ≤ 1
theorem XB_le {b : KB} (hb : kB b) {f g : Int} (h : f ≤ g) : xLe (XB b f) (XB b g) := by
  refine ⟨rfl, rfl, rfl, fun k o a c d e => ?_⟩
  show f * dS b k o ≤ g * dS b k o
  exact Int.mul_le_mul_of_nonneg_right h (dS_r hb (fr := k) (to := o) ⟨a, c⟩ ⟨d, e⟩).1
theorem XB_fin {b : KB} (hb : kB b) (hl : hP b) {f : Int} (hf : 0 ≤ f ∧ f ≤ 100) : lsS (XB b f) < 1000000000 := by
  rcases Int.le_total (bx b) f with c | c
  · exact ls_fin (XP_v hb) (XB_v hb hf) (XB_le hb c) hl
  · exact Int.lt_of_le_of_lt (ls_mo (XB_v hb hf) (XP_v hb) (XB_le hb c)) hl
theorem fm_mo {b : KB} (hb : kB b) (hl : hP b) {f g : Int} (hf : 0 ≤ f) (h : f ≤ g) (hg : g ≤ 100) (hm : fmP b f) : fmP b g := by
  have hx := XB_v hb (f := f) ⟨hf, by omega⟩
  have hy := XB_v hb (f := g) ⟨by omega, hg⟩
  have q := firm_mo hx hy (XB_le hb h) (XB_fin hb hl ⟨hf, by omega⟩) (sg_con hm)
  refine con_sg (n := nB b) (fun w hw => ?_) (nB b) (Nat.le_refl _)
  rw [q w hw, q 0 (by show 0 < nB b; omega)]
theorem firmS_e (b : KB) : firmS b = fkS (fun f => if fmP b f then 1 else 0) 1 101 := rfl
theorem firmS_at {b : KB} {f : Int} (hf : 0 ≤ f ∧ f ≤ 100) (h1 : fmP b f) (h2 : ∀ g, 0 ≤ g → g < f → ¬ fmP b g) : firmS b = f := by
  rw [firmS_e]
  rcases fkS_r (fun f => if fmP b f then (1 : Int) else 0) 1 101 with ⟨e1, e2⟩ | ⟨q1, q2, q3⟩
  · exact absurd (if_pos h1) (e2 f hf.1 (by omega))
  · generalize fkS (fun f => if fmP b f then (1 : Int) else 0) 1 101 = v at q1 q2 q3
    rcases Int.lt_trichotomy v f with c | c | c
    · have := h2 v q1.1 c
      rw [if_neg this] at q2
      omega
    · exact c
    · exact absurd (if_pos h1) (q3 f hf.1 c)
theorem firmS_no {b : KB} (h : ∀ g, 0 ≤ g → g ≤ 100 → ¬ fmP b g) : firmS b = -1 := by
  rw [firmS_e]
  rcases fkS_r (fun f => if fmP b f then (1 : Int) else 0) 1 101 with ⟨e1, e2⟩ | ⟨q1, q2, q3⟩
  · exact e1
  · generalize fkS (fun f => if fmP b f then (1 : Int) else 0) 1 101 = v at q1 q2 q3
    rw [if_neg (h v q1.1 (by omega))] at q2
    omega
