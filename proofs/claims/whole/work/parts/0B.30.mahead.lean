/-! ===== the reference looks ahead ===== -/
theorem mP.x {b : KB} (hb : kB b) {σ : KM} (h : mP b σ) : xM (XP b) σ ∧ nM (XP b) (bx b) σ ∧ σ 10 16 = bx b := ⟨(h.2.1.x hb (bx b)).1, (h.2.1.x hb (bx b)).2, h.1.2.2.2.2.2.2.2⟩
theorem M_laysAhead {b : KB} (hb : kB b) {σ : KM} (hp : mP b σ) : kT (fM_laysAhead σ) (fun z => mP b z.2 ∧ ahM (XP b) z.2) := by
  have hv := XP_v hb
  have hn := hv.1
  generalize hX : XP b = X at hv hn
  unfold fM_laysAhead fM_laysAhead_L2
  refine kT_for (fun i s => ∃ M : KM, s = ((i : Int), M) ∧ mP b M ∧ ∀ (w : Nat) (k : Int), w < i → 0 ≤ k → k < 24 → M 60 (24 * (w : Int) + k) = ahS X w k) (xn X) ?_ ?_ 0 (by omega) kF _ ⟨σ, rfl, hp, fun w k h => by omega⟩ (kF_lt (by omega))
  · rintro i s hi ⟨M, rfl, hM, h⟩
    have hx := hM.x hb
    rw [hX] at hx
    show kT (fM_laysAhead_B2 i M) _
    unfold fM_laysAhead_B2 fM_laysAhead_L12
    rw [hx.1.1]
    refine kT_ltt (by omega) (by omega) ?_
    refine kT_for (fun j s => ∃ M : KM, s = ((j : Int), M) ∧ mP b M ∧ (∀ (w : Nat) (k : Int), w < i → 0 ≤ k → k < 24 → M 60 (24 * (w : Int) + k) = ahS X w k) ∧ ∀ k : Int, 0 ≤ k → k < j → M 60 (24 * (i : Int) + k) = ahS X i k) 24 ?_ ?_ 0 (by omega) kF _ ⟨M, rfl, hM, h, fun k _ h => by omega⟩ (kF_lt (by omega))
    · rintro j s hj ⟨M, rfl, hM, h, hk⟩
      have hx := hM.x hb
      rw [hX] at hx
      have ow := hv.2.1 i j (by omega) (by omega)
      have e59 := hx.1.2.1 i j (by omega) (by omega) (by omega) (by omega)
      have fin : ∀ v, (v = 1000000000 ∨ (0 ≤ v ∧ v ≤ 400000000)) → addS (xo X i j) v = ahS X i j → kT (fM_laysAhead_J93 i j v M) (kS (fun s => ∃ M : KM, s = (((j + 1 : Nat) : Int), M) ∧ mP b M ∧ (∀ (w : Nat) (k : Int), w < i → 0 ≤ k → k < 24 → M 60 (24 * (w : Int) + k) = ahS X w k) ∧ ∀ k : Int, 0 ≤ k → k < ((j + 1 : Nat) : Int) → M 60 (24 * (i : Int) + k) = ahS X i k) (kS (fun s => ∃ M : KM, s = (((i + 1 : Nat) : Int), M) ∧ mP b M ∧ ∀ (w : Nat) (k : Int), w < i + 1 → 0 ≤ k → k < 24 → M 60 (24 * (w : Int) + k) = ahS X w k) (fun z => mP b z.2 ∧ ahM X z.2))) := by
        intro v hv9 ev
        unfold fM_laysAhead_J93
        refine kT_rd (by omega) ?_
        rw [e59]
        refine kT_callE (M_added (by omega) (by omega) M) (kT_wr (by omega) (kT_let (kT_inl ⟨_, rfl, hM.fr (W := [(60, none)]) (kFr.rf.put rfl) rfl rfl rfl, fun w k a0 b0 b1 => ?_, fun k b0 b1 => ?_⟩)))
        · rw [ks_i (by omega)]; exact h w k a0 b0 b1
        · by_cases e : k = j
          · rw [e, ks_s, ev]
          · rw [ks_i (by omega)]; exact hk k b0 (by omega)
      show kT (fM_laysAhead_B12 i j M) _
      unfold fM_laysAhead_B12 fM_laysAhead_J28 fM_laysAhead_L32
      refine kT_ltt (by omega) (by omega) ?_
      cases i with
      | zero =>
        refine kT_eqt (by omega) (by omega) ?_
        refine kT_for (fun l s => s = (0, (0 : Int), M)) 0 (fun i s hi => by omega) ?_ 0 (by omega) kF _ rfl (kF_lt (by omega))
        rintro s rfl
        show kT (fM_laysAhead_B32 ((0 : Nat) : Int) j 0 0 M) _
        unfold fM_laysAhead_B32
        refine kT_ltt (by omega) (by omega) (kT_ltf (by omega) (by omega) (kT_exit (fin 0 (by omega) ?_)))
        rw [(addS_0 (by omega)).2, ahS]
        rfl
      | succ i =>
        have eA : ahS X (i + 1) j = addS (xo X ((i + 1 : Nat) : Int) j) (if xk X ((i : Int) + 1) = 1 then ahS X i j else mnS (fun o => addS (ahS X i o) (xs X o j)) 24) := by rw [ahS]; rfl
        rw [← ah_mv hv hi (k := j) (by omega)] at eA
        have rA := fun o o0 o1 => ahS_r hv i o o0 o1
        refine kT_eqf (by omega) (by omega) (by omega) ?_
        have mr : ∀ l : Nat, l ≤ 24 → mnS (fun o => addS (ahS X i o) (mvS X ((i : Int) + 1) o j)) l = 1000000000 ∨ (0 ≤ mnS (fun o => addS (ahS X i o) (mvS X ((i : Int) + 1) o j)) l ∧ mnS (fun o => addS (ahS X i o) (mvS X ((i : Int) + 1) o j)) l ≤ 60000000) := by
          intro l hl
          rcases mnS_at (fun o => addS (ahS X i o) (mvS X ((i : Int) + 1) o j)) l with e | ⟨o, ho, e⟩
          · exact Or.inl e
          · rw [← e]
            have h3 := rA o ho.1 (by omega)
            have h4 := mvS_r hv ((i : Int) + 1) (k := o) (o := j) (by omega) (by omega)
            unfold addS
            split <;> omega
        refine kT_for (fun l s => s = (mnS (fun o => addS (ahS X i o) (mvS X ((i : Int) + 1) o j)) l, (l : Int), M)) 24 ?_ ?_ 0 (by omega) kF _ rfl (kF_lt (by omega))
        · rintro l s hl rfl
          have rm := mr l (by omega)
          have ra := rA l (by omega) (by omega)
          have rv := mvS_r hv ((i : Int) + 1) (k := l) (o := j) (by omega) (by omega)
          have q := h i l (by omega) (by omega) (by omega)
          show kT (fM_laysAhead_B32 ((i + 1 : Nat) : Int) j (mnS (fun o => addS (ahS X i o) (mvS X ((i : Int) + 1) o j)) l) l M) _
          generalize hR : mnS (fun o => addS (ahS X i o) (mvS X ((i : Int) + 1) o j)) l = R at rm ⊢
          unfold fM_laysAhead_B32 fM_laysAhead_J86
          rw [hx.2.2]
          refine kT_ltt (by omega) (by omega) (kT_ltt (by omega) (by omega) (kT_rd (by omega) ?_))
          rw [show 24 * (((i + 1 : Nat) : Int) - 1) + l = 24 * (i : Int) + l by omega, q]
          refine kT_callE (M_moves hv hx.1 hx.2.1 (by omega) (by omega) (by omega)) ?_
          rw [show mvS X ((i + 1 : Nat) : Int) = mvS X ((i : Int) + 1) from rfl]
          have rs : 0 ≤ addS (ahS X i l) (mvS X ((i : Int) + 1) l j) ∧ addS (ahS X i l) (mvS X ((i : Int) + 1) l j) ≤ 1000000000 := by
            unfold addS
            split <;> omega
          refine kT_callE (M_added (by omega) (by omega) M) (kT_lt (by omega) (by omega) (fun k1 => ?_) (fun k1 => ?_))
          · refine kT_let (kT_inl ?_)
            rw [mnS_t (h := fun o => addS (ahS X i o) (mvS X ((i : Int) + 1) o j)) (by rw [hR]; exact k1)]
            rfl
          · refine kT_let (kT_inl ?_)
            rw [mnS_f (h := fun o => addS (ahS X i o) (mvS X ((i : Int) + 1) o j)) (by rw [hR]; exact k1), hR]
            rfl
        · rintro s rfl
          have rm := mr 24 (by omega)
          show kT (fM_laysAhead_B32 ((i + 1 : Nat) : Int) j (mnS (fun o => addS (ahS X i o) (mvS X ((i : Int) + 1) o j)) 24) 24 M) _
          unfold fM_laysAhead_B32
          exact kT_ltf (by omega) (by omega) (kT_exit (fin _ (by omega) eA.symm))
    · rintro s ⟨M, rfl, hM, h, hk⟩
      show kT (fM_laysAhead_B12 i 24 M) _
      unfold fM_laysAhead_B12 fM_laysAhead_J125
      refine kT_ltf (by omega) (by omega) (kT_exit (kT_let (kT_inl ⟨M, rfl, hM, fun w k a0 b0 b1 => ?_⟩)))
      by_cases e : w = i
      · rw [e]; exact hk k b0 (by omega)
      · exact h w k (by omega) b0 b1
  · rintro s ⟨M, rfl, hM, h⟩
    have hx := hM.x hb
    rw [hX] at hx
    show kT (fM_laysAhead_B2 (xn X : Nat) M) _
    unfold fM_laysAhead_B2 fM_laysAhead_J131
    rw [hx.1.1]
    exact kT_ltf (by omega) (by omega) (kT_exit (kT_ri ⟨hM, fun w k a0 b0 b1 => h w k a0 b0 b1⟩))
theorem M_throughNow {b : KB} (hb : kB b) {σ : KM} (hp : mP b σ) (ha : ahM (XP b) σ) {w : Nat} (hw : w < xn (XP b)) {k : Int} (hk : 0 ≤ k ∧ k < 24) : fM_throughNow w k σ = some (if thS (XP b) w k < 1000000000 then thS (XP b) w k else -1, σ) := by
  refine kT.eq ?_
  have hv := XP_v hb
  have hn := hv.1
  have h1 := ahS_r hv w k hk.1 hk.2
  have h2 := bhS_r hv (xn (XP b) - 1 - w) k hk.1 hk.2
  have e60 := ha w k hw hk.1 hk.2
  have e61 := (hp.2.2.1 w k hw hk.1 hk.2).1
  have e59 := (hp.x hb).1.2.1 w k (by omega) (by omega) hk.1 hk.2
  have tr := thS_r hv hw hk
  have h3 := hv.2.1 w k hk.1 hk.2
  unfold fM_throughNow fM_throughNow_J44
  refine kT_let (kT_rd (by omega) (kT_rd (by omega) ?_))
  rw [e60, e61]
  refine kT_callE (M_added (by omega) (by omega) σ) ?_
  unfold thS at tr ⊢
  by_cases c : ahS (XP b) w k < 1000000000 ∧ bhS (XP b) (xn (XP b) - 1 - w) k < 1000000000
  · rw [if_pos c] at tr ⊢
    have e : addS (ahS (XP b) w k) (bhS (XP b) (xn (XP b) - 1 - w) k) = ahS (XP b) w k + bhS (XP b) (xn (XP b) - 1 - w) k := by unfold addS; rw [if_pos c]
    rw [e]
    refine kT_ltt (by omega) (by omega) (kT_rd (by omega) (kT_ri ?_))
    rw [e59, if_pos (by omega)]
  · rw [if_neg c]
    have e : addS (ahS (XP b) w k) (bhS (XP b) (xn (XP b) - 1 - w) k) = 1000000000 := by unfold addS; rw [if_neg c]
    rw [e, if_neg (by omega)]
    exact kT_ltf (by omega) (by omega) (kT_ri rfl)
theorem M_through {b : KB} {σ : KM} (hb : kB b) (hm : mB b σ) {w k : Int} (hw : i32 w) (hk : i32 k) : kT (fM_through w k σ) (fun z => z.1 = qThrough b w k) := by
  have eN := nB_i hb
  unfold fM_through fM_through_J20 qThrough
  refine kT_wf ?_
  have hm1 := hm.th
  generalize ks σ 10 0 0 = M at hm1 ⊢
  refine kT_callE (M_isWindow hb hm1 hw) ?_
  by_cases c : nW b w
  · rw [if_pos c, if_pos c]
    exact kT_eqt rfl (by omega) (kT_ri rfl)
  rw [if_neg c, if_neg c]
  refine kT_eqf (by omega) (by omega) (by omega) (kT_callE (M_isKey hk M) ?_)
  by_cases c2 : nK k
  · rw [if_pos c2, if_pos c2]
    exact kT_eqt rfl (by omega) (kT_ri rfl)
  rw [if_neg c2, if_neg c2]
  refine kT_eqf (by omega) (by omega) (by omega) (kT_callT (M_has hb hm1) (fun r τ hz => ?_))
  obtain ⟨hr, hp⟩ := hz
  dsimp only at hr hp
  rw [hr]
  by_cases c : hP b
  · rw [if_pos c, if_pos c]
    refine kT_eqf (by omega) (by omega) (by omega) (kT_callT (M_laysAhead hb hp) (fun r τ2 hz => ?_))
    obtain ⟨hp2, ha2⟩ := hz
    have eq := M_throughNow hb hp2 ha2 (w := w.toNat) (by show w.toNat < nB b; omega) (k := k) (by omega)
    rw [show ((w.toNat : Nat) : Int) = w by omega] at eq
    exact kT_callE eq (kT_ri rfl)
  · rw [if_neg c, if_neg c]
    exact kT_eqt rfl (by omega) (kT_ri rfl)
theorem M_unsure {b : KB} {σ : KM} (hb : kB b) (hm : mB b σ) {w d : Int} (hw : i32 w) (hd : i32 d) : kT (fM_unsure w d σ) (fun z => z.1 = qUnsure b w d) := by
  have eN := nB_i hb
  have hv := XP_v hb
  have lr := lsS_r hv
  unfold fM_unsure qUnsure
  refine kT_wf ?_
  have hm1 := hm.th
  generalize ks σ 10 0 0 = M at hm1 ⊢
  refine kT_callE (M_isWindow hb hm1 hw) ?_
  by_cases c : nW b w
  · rw [if_pos c, if_pos c]
    exact kT_eqt rfl (by omega) (kT_ri rfl)
  rw [if_neg c, if_neg c]
  refine kT_eqf (by omega) (by omega) (by omega) (kT_ck hd (kT_callE (M_isIn (by omega) (by omega) hd M) ?_))
  by_cases c2 : d < 0 ∨ 9999 < d
  · rw [if_pos c2, if_pos c2]
    exact kT_eqt rfl (by omega) (kT_ri rfl)
  rw [if_neg c2, if_neg c2]
  refine kT_eqf (by omega) (by omega) (by omega) (kT_callT (M_has hb hm1) (fun r τ hz => ?_))
  obtain ⟨hr, hp⟩ := hz
  dsimp only at hr hp
  rw [hr]
  by_cases c : hP b
  · rw [if_pos c, if_pos c]
    refine kT_eqf (by omega) (by omega) (by omega) (kT_callT (M_laysAhead hb hp) (fun r τ2 hz => ?_))
    obtain ⟨hp2, ha2⟩ := hz
    dsimp only at hp2 ha2
    have hwn : w.toNat < xn (XP b) := by show w.toNat < nB b; omega
    have hL : lsS (XP b) < 1000000000 := c
    unfold fM_unsure_L50
    refine kT_for (fun i s => s = (unS (XP b) w.toNat (lsS (XP b) + d) i, (i : Int), τ2)) 24 ?_ ?_ 0 (by omega) kF _ rfl (kF_lt (by omega))
    · rintro i s hi rfl
      have tr := thS_r hv hwn (k := i) (by omega)
      have t0 := thS_0 hv hwn (k := i) (by omega)
      have ur := unS_r (XP b) w.toNat (lsS (XP b) + d) i
      have eq := M_throughNow hb hp2 ha2 hwn (k := i) (by omega)
      rw [show ((w.toNat : Nat) : Int) = w by omega] at eq
      show kT (fM_unsure_B50 w d (unS (XP b) w.toNat (lsS (XP b) + d) i) i τ2) _
      unfold fM_unsure_B50 fM_unsure_J89 fM_unsure_J90
      refine kT_ltt (by omega) (by omega) (kT_callE eq ?_)
      by_cases k0 : thS (XP b) w.toNat i < 1000000000
      · rw [if_pos k0] at eq ⊢
        refine kT_eqf (by omega) (by omega) (by omega) (kT_callE eq ?_)
        rw [hp2.2.2.2.1]
        refine kT_lt (by omega) (by omega) (fun k1 => ?_) (fun k1 => ?_)
        · refine kT_let (kT_let (kT_inl ?_))
          rw [unS, if_neg (by omega), Int.add_zero]
          rfl
        · refine kT_let (kT_let (kT_inl ?_))
          rw [unS, if_pos k1]
          rfl
      · rw [if_neg k0]
        refine kT_eqt rfl (by omega) (kT_let (kT_let (kT_inl ?_)))
        rw [unS, if_neg (by omega), Int.add_zero]
        rfl
    · rintro s rfl
      show kT (fM_unsure_B50 w d (unS (XP b) w.toNat (lsS (XP b) + d) 24) 24 τ2) _
      unfold fM_unsure_B50 fM_unsure_J98
      exact kT_ltf (by omega) (by omega) (kT_exit (kT_ri rfl))
  · rw [if_neg c, if_neg c]
    exact kT_eqt rfl (by omega) (kT_ri rfl)
