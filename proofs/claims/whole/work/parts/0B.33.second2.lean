/-! ===== second: the calls ===== -/
theorem aw_r {X : KX} (hv : xV X) {w : Nat} (hw : w < xn X) : ∀ j : Nat, j ≤ 24 → 0 ≤ awS X (thS X w) w j ∧ awS X (thS X w) w j ≤ 1000000000 := fun j hj => by
  refine ⟨?_, awS_le X _ w j⟩
  rcases awS_at X (thS X w) w j with e | ⟨k, hk, _, e⟩
  · omega
  · rw [← e]; exact thS_0 hv hw (by omega)
theorem P_leastAside {X : KX} (hv : xV X) (hl : lsS X < 1000000000) {σ : KM} (hs : sOK X σ) (ha : ahOK X σ) {w : Nat} (hw : w < xn X) : fDe_leastAside w σ = some (asS X w, σ) := by
  refine kP ?_ (rfDe_leastAside w σ)
  have hn := hv.1
  have e39 := (hs.2.2.2.2.1 hl).1 w hw
  have pr := (paS_r hv hl w hw).1
  unfold fDe_leastAside fDe_leastAside_L6
  refine kT_for (fun i s => s = (awS X (thS X w) w i, (i : Int), σ)) 24 ?_ ?_ 0 (by omega) kF _ (by rw [awS]; rfl) (kF_lt (by omega))
  · rintro i s hi rfl
    have ar := aw_r hv hw i (by omega)
    have tr := thS_r hv hw (k := i) (by omega)
    have t0 := thS_0 hv hw (k := i) (by omega)
    show kT (fDe_leastAside_B6 w (awS X (thS X w) w i) i σ) _
    unfold fDe_leastAside_B6 fDe_leastAside_J37
    refine kT_ltt (by omega) (by omega) (kT_rd (by omega) ?_)
    rw [e39]
    refine kT_eq (by omega) (by omega) (fun c => ?_) (fun c => ?_)
    · refine kT_let (kT_inl ?_)
      rw [awS, if_neg (fun h => h.1 c)]
      rfl
    · refine kT_callE (P_costThrough hv hs ha hw (by omega)) (kT_mn (by omega) (by omega) (kT_let (kT_inl ?_)))
      rw [awS]
      by_cases d : thS X w i < awS X (thS X w) w i
      · rw [if_pos d, if_pos ⟨c, d⟩]; rfl
      · rw [if_neg d, if_neg (fun h => d h.2)]; rfl
  · rintro s rfl
    have ar := aw_r hv hw 24 (by omega)
    show kT (fDe_leastAside_B6 w (awS X (thS X w) w 24) 24 σ) _
    unfold fDe_leastAside_B6 fDe_leastAside_J43
    exact kT_ltf (by omega) (by omega) (kT_exit (kT_ri rfl))
theorem sc_r {a : Nat → Int} {n : Nat} (ha : ∀ w : Nat, w < n → 0 ≤ a w) : ∀ w : Nat, w ≤ n → 0 ≤ (scS a w).1 ∧ (scS a w).1 ≤ 1000000000 ∧ -1 ≤ (scS a w).2 ∧ (scS a w).2 < w ∨ ((scS a w).1 = 1000000000 ∧ (scS a w).2 = -1)
  | 0, _ => Or.inr (by rw [scS]; exact ⟨rfl, rfl⟩)
  | w + 1, hw => by
    have h1 := sc_r ha w (by omega)
    have h2 := ha w (by omega)
    have h3 := scS_le a w
    rw [scS]
    split
    · left; dsimp only; omega
    · omega
def qSecond (b : KB) (x : Int) : Int := if x < 0 ∨ 1 < x then -2 else if hP b then (if (scS (dvS (XP b)) (nB b)).1 < 1000000000 then (if x = 0 then (scS (dvS (XP b)) (nB b)).1 else (scS (dvS (XP b)) (nB b)).2) else -1) else -5
theorem sc_none {a : Nat → Int} : ∀ w : Nat, ¬ (scS a w).1 < 1000000000 → (scS a w).2 = -1
  | 0, _ => by rw [scS]
  | w + 1, h => by
    have h3 := scS_le a w
    rw [scS] at h ⊢
    by_cases c : a w < (scS a w).1
    · rw [if_pos c] at h
      dsimp only at h
      omega
    · rw [if_neg c] at h ⊢
      exact sc_none w h
theorem C_second {b : KB} {σ : KM} (hb : kB b) (h : CI b σ) {x : Int} (hx : i32 x) : kT (fP_second x σ) (fun z => z.1 = qSecond b x ∧ CI b z.2) := by
  have eN := nB_i hb
  have n48 := nB_48 hb
  have hv := XP_v hb
  unfold fP_second qSecond
  refine kT_callE (P_outOf (by omega) (by omega) hx σ) ?_
  by_cases c2 : x < 0 ∨ 1 < x
  · rw [if_pos c2, if_pos c2]
    exact kT_eqf (by omega) (by omega) (by omega) (kT_ri ⟨rfl, h⟩)
  rw [if_neg c2, if_neg c2]
  refine kT_eqt rfl (by omega) (kT_callT (C_noPath hb h) (fun r τ2 hz => ?_))
  obtain ⟨hr, hC, hF, hW⟩ := hz
  dsimp only at hr hC hF hW
  rw [hr]
  by_cases c : hP b
  · rw [if_pos c, if_pos c]
    refine kT_eqt rfl (by omega) (kT_callT (C_lookAhead hb hC hF) (fun r τ3 hz => ?_))
    obtain ⟨hC3, hF3, hA⟩ := hz
    dsimp only at hC3 hF3 hA
    have e1 : τ3 8 1 = (nB b : Int) := hF3.2.1.1.1
    have a0 : ∀ w : Nat, w < nB b → 0 ≤ asS (XP b) w := fun w hw => (aw_r hv hw 24 (by omega)).1
    unfold fP_second_L42
    refine kT_for (fun i s => s = ((scS (asS (XP b)) i).1, (scS (asS (XP b)) i).2, (i : Int), τ3)) (nB b) ?_ ?_ 0 (by omega) kF _ (by rw [scS]; rfl) (kF_lt (by omega))
    · rintro i s hi rfl
      have sr := sc_r a0 i (by omega)
      have ai := aw_r hv (w := i) hi 24 (by omega)
      have ea : asS (XP b) i = awS (XP b) (thS (XP b) i) i 24 := rfl
      show kT (fP_second_B42 x (scS (asS (XP b)) i).1 (scS (asS (XP b)) i).2 i τ3) _
      unfold fP_second_B42 fP_second_J81
      rw [e1]
      refine kT_ltt (by omega) (by omega) (kT_callE (P_leastAside hv c hF3.2.1 hA hi) (kT_lt (by omega) (by omega) (fun d => ?_) (fun d => ?_)))
      · refine kT_let (kT_inl ?_)
        rw [scS, if_pos d]
        rfl
      · refine kT_let (kT_inl ?_)
        rw [scS, if_neg (by omega)]
        rfl
    · rintro s rfl
      have sr := sc_r a0 (nB b) (by omega)
      have ee := sc_ad hv c (nB b) (Nat.le_refl _)
      rw [ee] at sr ⊢
      have sn := sc_none (a := dvS (XP b)) (nB b)
      show kT (fP_second_B42 x (scS (dvS (XP b)) (nB b)).1 (scS (dvS (XP b)) (nB b)).2 (nB b : Nat) τ3) _
      unfold fP_second_B42 fP_second_J87 fP_second_J99
      rw [e1]
      refine kT_ltf (by omega) (by omega) (kT_exit (kT_eq (by omega) (by omega) (fun d => ?_) (fun d => ?_)))
      · refine kT_callE (P_toldCost (by omega) τ3) (kT_ri ⟨?_, hC3⟩)
        rw [if_pos d]
      · refine kT_ri ⟨?_, hC3⟩
        dsimp only
        by_cases d2 : (scS (dvS (XP b)) (nB b)).1 < 1000000000
        · rw [if_pos d2, if_neg d]
        · rw [if_neg d2]; exact sn d2
  · rw [if_neg c, if_neg c]
    exact kT_eqf (by omega) (by omega) (by omega) (kT_ri ⟨rfl, hC⟩)
