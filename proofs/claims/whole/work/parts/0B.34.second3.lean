/-! ===== second in the reference ===== -/
def s2S (X : KX) (w j : Nat) : Int × Int := if awS X (deS X w) w j < (scS (dvS X) w).1 then (awS X (deS X w) w j, (w : Int)) else scS (dvS X) w
theorem de_r {X : KX} (hv : xV X) (hl : lsS X < 1000000000) {w : Nat} (hw : w < xn X) {k : Int} (hk : 0 ≤ k ∧ k < 24) : 0 ≤ deS X w k ∧ deS X w k ≤ 1000000000 := by
  have h1 := th_de hv hl hw hk
  have h2 := thS_0 hv hw hk
  have hn := hv.1
  have pr := pf_r hv hl hw
  have rb := bhS_r hv (xn X - 1 - w) k hk.1 hk.2
  refine ⟨by omega, ?_⟩
  have rv : (if w = 0 then 0 else mvS X w (paS X (w - 1)) k) = 1000000000 ∨ (0 ≤ (if w = 0 then 0 else mvS X w (paS X (w - 1)) k) ∧ (if w = 0 then 0 else mvS X w (paS X (w - 1)) k) ≤ 1200000) := by
    split
    · omega
    · exact mvS_r hv w (paS_r hv hl (w - 1) (by omega)).1 hk
  unfold deS
  generalize (if w = 0 then 0 else mvS X w (paS X (w - 1)) k) = v at rv
  have e : addS (pfS X w) v = 1000000000 ∨ (0 ≤ addS (pfS X w) v ∧ addS (pfS X w) v ≤ 70000000) := by
    unfold addS
    split <;> omega
  generalize addS (pfS X w) v = u at e
  unfold addS
  split <;> omega
theorem s2_r {X : KX} (hv : xV X) (hl : lsS X < 1000000000) {w : Nat} (hw : w < xn X) (j : Nat) (hj : j ≤ 24) : 0 ≤ (s2S X w j).1 ∧ (s2S X w j).1 ≤ 1000000000 ∧ (s2S X w j).1 ≤ awS X (deS X w) w j ∧ (s2S X w j).1 ≤ (scS (dvS X) w).1 := by
  have dw : ∀ v : Nat, v < xn X → ∀ i : Nat, i ≤ 24 → 0 ≤ awS X (deS X v) v i := fun v hv2 i hi => by
    rcases awS_at X (deS X v) v i with e | ⟨k, hk, _, e⟩
    · omega
    · rw [← e]; exact (de_r hv hl hv2 (by omega)).1
  have s0 := sc_r (a := dvS X) (n := xn X) (fun v hv2 => dw v hv2 24 (by omega)) w (by omega)
  have a0 := dw w hw j hj
  have a1 := awS_le X (deS X w) w j
  unfold s2S
  split
  · dsimp only; omega
  · omega
theorem M_second {b : KB} {σ : KM} (hb : kB b) (hm : mB b σ) {x : Int} (hx : i32 x) : kT (fM_second x σ) (fun z => z.1 = qSecond b x) := by
  have eN := nB_i hb
  have n48 := nB_48 hb
  have hv := XP_v hb
  unfold fM_second qSecond
  refine kT_wf ?_
  have hm1 := hm.th
  generalize ks σ 10 0 0 = M at hm1 ⊢
  refine kT_ck hx (kT_callE (M_isIn (by omega) (by omega) hx M) ?_)
  by_cases c2 : x < 0 ∨ 1 < x
  · rw [if_pos c2, if_pos c2]
    exact kT_eqt rfl (by omega) (kT_ri rfl)
  rw [if_neg c2, if_neg c2]
  refine kT_eqf (by omega) (by omega) (by omega) (kT_callT (M_has hb hm1) (fun r τ hz => ?_))
  obtain ⟨hr, hp⟩ := hz
  dsimp only at hr hp
  rw [hr]
  by_cases c : hP b
  · rw [if_pos c, if_pos c]
    have hl : lsS (XP b) < 1000000000 := c
    have g := hp.g hb c
    have hxx := hp.x hb
    have h37 : τ 10 37 = (nB b : Int) := g.1
    refine kT_eqf (by omega) (by omega) (by omega) ?_
    unfold fM_second_L39
    refine kT_for (fun i s => s = ((scS (dvS (XP b)) i).1, (scS (dvS (XP b)) i).2, pfS (XP b) i, (i : Int), τ)) (nB b) ?_ ?_ 0 (by omega) kF _ (by rw [scS, pfS]; rfl) (kF_lt (by omega))
    · rintro i s hi rfl
      have hw : i < xn (XP b) := hi
      have xn48 : xn (XP b) ≤ 48 := hv.1
      have pr := pf_r hv hl hw
      obtain ⟨hpi, hbi⟩ := paS_r hv hl i hw
      have e63 : τ 63 i = paS (XP b) i := (g.2 i hi).1
      show kT (fM_second_B39 x (scS (dvS (XP b)) i).1 (scS (dvS (XP b)) i).2 (pfS (XP b) i) i τ) _
      unfold fM_second_B39 fM_second_L51
      rw [h37]
      refine kT_ltt (by omega) (by omega) ?_
      refine kT_for (fun j s => s = ((s2S (XP b) i j).1, (s2S (XP b) i j).2, (j : Int), τ)) 24 ?_ ?_ 0 (by omega) kF _ ?_ (kF_lt (by omega))
      · rintro j s hj rfl
        have sr := s2_r hv hl hw j (by omega)
        have dr := de_r hv hl hw (k := j) (by omega)
        have rb := bhS_r hv (xn (XP b) - 1 - i) j (by omega) (by omega)
        have e61 := (hp.2.2.1 i j hw (by omega) (by omega)).1
        show kT (fM_second_B51 x (pfS (XP b) i) i (s2S (XP b) i j).1 (s2S (XP b) i j).2 j τ) _
        have skip : ¬ ((j : Int) ≠ paS (XP b) i ∧ deS (XP b) i j < (s2S (XP b) i j).1) → s2S (XP b) i (j + 1) = s2S (XP b) i j := by
          intro hn
          unfold s2S at hn sr ⊢
          rw [awS]
          by_cases k1 : (j : Int) ≠ paS (XP b) i ∧ deS (XP b) i j < awS (XP b) (deS (XP b) i) i j
          · rw [if_pos k1]
            by_cases k2 : awS (XP b) (deS (XP b) i) i j < (scS (dvS (XP b)) i).1
            · rw [if_pos k2] at hn
              exact absurd k1 hn
            · rw [if_neg k2] at hn ⊢
              rw [if_neg (fun h => hn ⟨k1.1, h⟩)]
          · rw [if_neg k1]
        have fin : ∀ v, (j : Int) ≠ paS (XP b) i → v = (if i = 0 then 0 else mvS (XP b) i (paS (XP b) (i - 1)) j) → -1 ≤ v ∧ v ≤ 1000000000 → kT (fM_second_J105 x (s2S (XP b) i j).1 (s2S (XP b) i j).2 (pfS (XP b) i) i j v (pfS (XP b) i) τ) (kS (fun s => s = ((s2S (XP b) i (j + 1)).1, (s2S (XP b) i (j + 1)).2, ((j + 1 : Nat) : Int), τ)) (kS (fun s => s = ((scS (dvS (XP b)) (i + 1)).1, (scS (dvS (XP b)) (i + 1)).2, pfS (XP b) (i + 1), ((i + 1 : Nat) : Int), τ)) (fun z => z.1 = if (scS (dvS (XP b)) (nB b)).1 < 1000000000 then (if x = 0 then (scS (dvS (XP b)) (nB b)).1 else (scS (dvS (XP b)) (nB b)).2) else -1))) := by
          intro v hn ev rv
          have ed : deS (XP b) i j = addS (addS (pfS (XP b) i) v) (bhS (XP b) (xn (XP b) - 1 - i) j) := by
            unfold deS
            rw [← ev]
          have ra : -1 ≤ addS (pfS (XP b) i) v ∧ addS (pfS (XP b) i) v ≤ 1000000000 + 60000000 := by
            unfold addS
            split <;> omega
          unfold fM_second_J105 fM_second_J141
          refine kT_callE (M_added (by omega) (by omega) τ) (kT_rd (by omega) ?_)
          rw [e61]
          refine kT_callE (M_added (by omega) (by omega) τ) ?_
          rw [← ed]
          refine kT_lt (by omega) (by omega) (fun d => ?_) (fun d => ?_)
          · refine kT_let (kT_inl ?_)
            have e2 : s2S (XP b) i (j + 1) = (deS (XP b) i j, (i : Int)) := by
              unfold s2S
              have k1 : deS (XP b) i j < awS (XP b) (deS (XP b) i) i j := by omega
              have e3 : awS (XP b) (deS (XP b) i) i (j + 1) = deS (XP b) i j := by
                rw [awS]
                exact if_pos ⟨hn, k1⟩
              rw [e3]
              exact if_pos (show deS (XP b) i j < (scS (dvS (XP b)) i).1 by omega)
            rw [e2]
            rfl
          · refine kT_let (kT_inl ?_)
            rw [skip (fun h => by omega)]
            rfl
        unfold fM_second_B51
        refine kT_ltt (by omega) (by omega) (kT_rd (by omega) ?_)
        rw [e63]
        refine kT_eq (by omega) (by omega) (fun d => ?_) (fun d => ?_)
        · unfold fM_second_J141
          refine kT_let (kT_inl ?_)
          rw [skip (fun h => h.1 d)]
          rfl
        · refine kT_eq (by omega) (by omega) (fun d2 => ?_) (fun d2 => ?_)
          · exact fin 0 d (by rw [if_pos (by omega)]) (by omega)
          · have p1 := (paS_r hv hl (i - 1) (by omega)).1
            have e63b : τ 63 ((i - 1 : Nat) : Int) = paS (XP b) (i - 1) := (g.2 (i - 1) (by omega)).1
            rw [show ((i - 1 : Nat) : Int) = (i : Int) - 1 by omega] at e63b
            have rv := mvS_r hv (i : Int) (k := paS (XP b) (i - 1)) (o := j) p1 (by omega)
            have eNx : ((xn (XP b) : Nat) : Int) = wnS b := XP_n hb
            refine kT_rd (by omega) ?_
            rw [e63b, hxx.2.2]
            refine kT_callE (M_moves hv hxx.1 hxx.2.1 (by omega) p1 (by omega)) (fin _ d (by rw [if_neg (by omega)]) (by omega))
      · rintro s rfl
        have sr := s2_r hv hl hw 24 (by omega)
        have e59 := hxx.1.2.1 i (paS (XP b) i) (by omega) (by omega) hpi.1 hpi.2
        have es : s2S (XP b) i 24 = scS (dvS (XP b)) (i + 1) := by
          unfold s2S
          rw [scS]
          rfl
        show kT (fM_second_B51 x (pfS (XP b) i) i (s2S (XP b) i 24).1 (s2S (XP b) i 24).2 24 τ) _
        unfold fM_second_B51 fM_second_J147 fM_second_J202
        refine kT_ltf (by omega) (by omega) (kT_exit (kT_rd (by omega) ?_))
        rw [e63]
        refine kT_rd (by omega) ?_
        rw [e59, es]
        refine kT_eq (by omega) (by omega) (fun d2 => ?_) (fun d2 => ?_)
        · refine kT_let (kT_let (kT_inl ?_))
          rw [pfS, if_pos (by omega)]
          rfl
        · have p1 := (paS_r hv hl (i - 1) (by omega)).1
          have e63b : τ 63 ((i - 1 : Nat) : Int) = paS (XP b) (i - 1) := (g.2 (i - 1) (by omega)).1
          rw [show ((i - 1 : Nat) : Int) = (i : Int) - 1 by omega] at e63b
          have eNx : ((xn (XP b) : Nat) : Int) = wnS b := XP_n hb
          refine kT_rd (by omega) (kT_rd (by omega) ?_)
          rw [e63b, e63, hxx.2.2]
          refine kT_callE (M_moves hv hxx.1 hxx.2.1 (by omega) p1 hpi) (kT_let (kT_let (kT_inl ?_)))
          rw [pfS, if_neg (by omega)]
          rfl
      · show ((scS (dvS (XP b)) i).1, (scS (dvS (XP b)) i).2, (0 : Int), τ) = _
        have e0 : s2S (XP b) i 0 = scS (dvS (XP b)) i := by
          have := scS_le (dvS (XP b)) i
          unfold s2S
          rw [awS, if_neg (by omega)]
        rw [e0]
        rfl
    · rintro s rfl
      have s0 := scS_le (dvS (XP b)) (nB b)
      have dw : ∀ v : Nat, v < nB b → 0 ≤ dvS (XP b) v := fun v hv2 => by
        have e9 : dvS (XP b) v = awS (XP b) (deS (XP b) v) v 24 := rfl
        rcases awS_at (XP b) (deS (XP b) v) v 24 with e | ⟨k, hk, _, e⟩
        · omega
        · rw [e9, ← e]; exact (de_r hv hl hv2 (by omega)).1
      have sr := sc_r dw (nB b) (by omega)
      show kT (fM_second_B39 x (scS (dvS (XP b)) (nB b)).1 (scS (dvS (XP b)) (nB b)).2 (pfS (XP b) (nB b)) (nB b : Nat) τ) _
      unfold fM_second_B39 fM_second_J212 fM_second_J231
      rw [h37]
      refine kT_ltf (by omega) (by omega) (kT_exit (kT_lt (by omega) (by omega) (fun d => ?_) (fun d => ?_)))
      · rw [if_pos d]
        refine kT_eq (by omega) (by omega) (fun d2 => ?_) (fun d2 => ?_)
        · rw [if_pos d2]; exact kT_ri rfl
        · rw [if_neg d2]; exact kT_ri rfl
      · rw [if_neg (by omega)]; exact kT_ri rfl
  · rw [if_neg c, if_neg c]
    exact kT_eqt rfl (by omega) (kT_ri rfl)
