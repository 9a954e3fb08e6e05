/-! ===== the reference: lengths, parts, load ===== -/
abbrev lW : List (Nat × Option Int) := [(10, some 8), (10, some 20), (10, some 21), (10, some 22), (10, some 23), (10, some 24), (10, some 25), (48, none), (49, none), (50, none)]
theorem zMF_must {n a : Nat} {tp : Int → Int} {τ0 τ : KM} {tk : Int} {R : NL} {c : Nat} {nm : Int → Int} (h : zM τ0 a tk R c nm τ) : zMF τ0 (1, (zsk tp n a : Int)) (ks (ks (ks (ks τ 10 22 (zsk tp n a : Nat)) 10 23 1) 10 24 (zsk tp n a : Nat)) 10 22 ((zsk tp n a + 1 : Nat) : Int)) := (zMF_i (h.1.putf rfl) (by omega)).at _
theorem M_lengthRead {n a c : Nat} {tp : Int → Int} {τ0 τ : KM} {tk : Int} {R : NL} {nm : Int → Int} (h0 : zM0 n tp τ0) (h : zM τ0 a tk R c nm τ) (ha : a ≤ n) (htk : 0 ≤ tk ∧ tk ≤ 512) : kT (fM_lengthRead τ) (fun z => zO (zLen tp n a tk) (fun e => zMF τ0 e z.2) (fun q => z.1 = q.2 ∧ zM τ0 q.1 tk R c nm z.2)) := by
  have hT := h0.1
  have n700 := hT.1
  have r1 := zsk_r (tp := tp) ha
  have k1 := zch_r (a := a) hT
  unfold fM_lengthRead zLen
  refine kT_callE (M_must h0 h.1 h.2.1 h.2.2.2.1.1 ha (by omega)) ?_
  by_cases c1 : zch tp n a = 58
  · rw [if_pos c1, if_neg (fun hh => hh c1)]
    have k2 := k1.2.2 (by omega)
    have h2 := h.at (zsk tp n a + 1)
    generalize ks τ 10 22 ((zsk tp n a + 1 : Nat) : Int) = M2 at h2 ⊢
    rw [h2.2.2.2.1.1]
    have k3 := zch_r (a := zsk tp n a + 1) hT
    have r2 := zsk_r (tp := tp) (n := n) (a := zsk tp n a + 1) (by omega)
    refine kT_eqt rfl (by omega) (kT_callE (M_peek h0 h2.1 h2.2.1 (by omega)) ?_)
    have h3 := h2.at (zsk tp n (zsk tp n a + 1))
    rw [show zsk tp n (zsk tp n a + 1) = zs1 tp n a from rfl] at h3 r2 k3 ⊢
    have e3 : ks M2 10 22 ((zs1 tp n a : Nat) : Int) 10 22 = (zs1 tp n a : Nat) := ks_s _ _ _ _
    generalize ks M2 10 22 ((zs1 tp n a : Nat) : Int) = M3 at h3 e3 ⊢
    rw [e3]
    have r3 := zde_r (tp := tp) (n := n) (a := zs1 tp n a) r2.2
    refine kT_let ?_
    -- the end, at the place behind the digits
    have fin : ∀ (v : Int) (T : KM), (0 ≤ v ∧ v ≤ 99) → zM τ0 (zde tp n (zs1 tp n a)) tk R c nm T → (zde tp n (zs1 tp n a) = zs1 tp n a + 1 → v = tp (zs1 tp n a : Nat) - 48) → (zde tp n (zs1 tp n a) = zs1 tp n a + 2 → v = 10 * (tp (zs1 tp n a : Nat) - 48) + tp ((zs1 tp n a : Int) + 1) - 48) → kT (fM_lengthRead_J101 ((zs1 tp n a : Nat) : Int) v T) (fun z => zO (if ¬ zD (zch tp n (zsk tp n a + 1)) then .inl (1, (zs1 tp n a : Int)) else if zs1 tp n a + 2 < zde tp n (zs1 tp n a) then .inl (2, (zs1 tp n a : Int)) else if zval tp (zs1 tp n a) (zde tp n (zs1 tp n a)) < 1 ∨ 64 < zval tp (zs1 tp n a) (zde tp n (zs1 tp n a)) then .inl (2, (zs1 tp n a : Int)) else if 512 < tk + zval tp (zs1 tp n a) (zde tp n (zs1 tp n a)) then .inl (4, (zs1 tp n a : Int)) else .inr (zde tp n (zs1 tp n a), zval tp (zs1 tp n a) (zde tp n (zs1 tp n a)))) (fun e => zMF τ0 e z.2) (fun q => z.1 = q.2 ∧ zM τ0 q.1 tk R c nm z.2)) := by
      intro v T hv hz h1v h2v
      have bad : kT (fM_lengthRead_J140 ((zs1 tp n a : Nat) : Int) v T) (fun z => zMF τ0 (2, (zs1 tp n a : Int)) z.2) := by
        unfold fM_lengthRead_J140 fM_lengthRead_J167
        exact kT_callE (M_fails hz.2.2.2.1.1 2 _) (kT_ri (zMF_i hz.1 (by omega)))
      unfold fM_lengthRead_J101 fM_lengthRead_J167
      rw [hz.2.1]
      by_cases c2 : zD (zch tp n (zsk tp n a + 1))
      · rw [if_neg (fun hh => hh c2)]
        have k4 := k3.2.2 (by omega)
        have r4 := zde_d (tp := tp) (n := n) (s := zs1 tp n a) k4.1 (by rw [k4.2]; exact c2)
        refine kT_eqf (by omega) (by omega) (by omega) (kT_lt (by omega) (by omega) (fun c3 => ?_) (fun c3 => ?_))
        · rw [if_pos (by omega)]
          exact bad
        · rw [if_neg (by omega)]
          have ev : v = zval tp (zs1 tp n a) (zde tp n (zs1 tp n a)) := by
            unfold zval
            by_cases e : zde tp n (zs1 tp n a) = zs1 tp n a + 1
            · rw [if_pos e]; exact h1v e
            · rw [if_neg e]; exact h2v (by omega)
          rw [← ev]
          refine kT_ck (by omega) (kT_callE (M_isIn (by omega) (by omega) (by omega) T) ?_)
          by_cases c4 : v < 1 ∨ 64 < v
          · rw [if_pos c4, if_pos c4]
            exact kT_eqt rfl (by omega) bad
          rw [if_neg c4, if_neg c4, hz.2.2.1]
          refine kT_eqf (by omega) (by omega) (by omega) (kT_lt (by omega) (by omega) (fun c5 => ?_) (fun c5 => ?_))
          · rw [if_pos c5]
            exact kT_callE (M_fails hz.2.2.2.1.1 4 _) (kT_ri (zMF_i hz.1 (by omega)))
          · rw [if_neg (by omega)]
            exact kT_ri ⟨rfl, hz⟩
      · rw [if_pos c2]
        have ee : zde tp n (zs1 tp n a) = zs1 tp n a := by
          refine zru_n ?_
          rcases Nat.lt_or_ge (zs1 tp n a) n with g | g
          · right
            have e9 : zch tp n (zsk tp n a + 1) = tp (zs1 tp n a : Nat) := by
              unfold zch
              rw [if_pos (show zsk tp n (zsk tp n a + 1) < n from g)]
              rfl
            unfold zDg
            refine decide_eq_false ?_
            rw [e9] at c2
            exact c2
          · exact Or.inl g
        refine kT_eqt (by omega) (by omega) (kT_callE (M_fails hz.2.2.2.1.1 1 _) (kT_ri ?_))
        exact zMF_i hz.1 (by omega)
    unfold fM_lengthRead_L27
    refine kT_iter (fun k st => ∃ (a' : Nat) (v : Int) (T : KM), st = (v, T) ∧ k = n - a' ∧ (zs1 tp n a ≤ a' ∧ a' ≤ n) ∧ zM τ0 a' tk R c nm T ∧ zde tp n a' = zde tp n (zs1 tp n a) ∧ (0 ≤ v ∧ v ≤ 99) ∧ (a' = zs1 tp n a → v = 0) ∧ (a' = zs1 tp n a + 1 → v = tp (zs1 tp n a : Nat) - 48 ∧ v ≤ 9) ∧ (a' = zs1 tp n a + 2 → v = 10 * (tp (zs1 tp n a : Nat) - 48) + tp ((zs1 tp n a : Int) + 1) - 48)) ?_ kF (n - zs1 tp n a) _ ⟨zs1 tp n a, 0, M3, rfl, rfl, by omega, h3, rfl, by omega, fun _ => rfl, fun hh => by omega, fun hh => by omega⟩ (kF_lt (by omega))
    rintro k st ⟨a', v, T, rfl, rfl, ha', hz, he, hv, hv0, hv1, hv2⟩
    have e21 : T 10 21 = n := by rw [hz.1.slot rfl]; exact h0.2.1
    have e54 : T 54 = τ0 54 := hz.1.cell rfl
    show kT (fM_lengthRead_B27 ((zs1 tp n a : Nat) : Int) v T) _
    unfold fM_lengthRead_B27
    rw [e21, hz.2.1]
    refine kT_lt (by omega) (by omega) (fun d => ?_) (fun d => ?_)
    · have t := hT.2 a' (by omega) (by omega)
      have e := h0.2.2 a' (by omega) (by omega)
      have sr := sbv_r t
      refine kT_rd (by omega) ?_
      rw [e54, e]
      refine kT_ck (by omega) (kT_callE (M_isIn (by omega) (by omega) (by omega) T) ?_)
      by_cases d2 : zD (tp a')
      · rw [if_neg (show ¬ (sbv (tp a') < 48 ∨ 57 < sbv (tp a')) by omega), hz.2.1]
        have step : zde tp n (a' + 1) = zde tp n (zs1 tp n a) := by
          rw [← he]
          unfold zde
          exact (zru_y (by omega) (by unfold zDg; exact decide_eq_true d2)).symm
        refine kT_eqf (by omega) (by omega) (by omega) (kT_lt (by omega) (by omega) (fun d3 => ?_) (fun d3 => ?_))
        · refine kT_rd (by omega) ?_
          rw [e54, e, sr.2.2.1 (by omega)]
          unfold fM_lengthRead_J88
          rw [hz.2.1, show (a' : Int) + 1 = ((a' + 1 : Nat) : Int) by omega]
          refine kT_let (kT_wf (kT_inl ⟨n - (a' + 1), by omega, a' + 1, 10 * v + tp a' - 48, _, rfl, rfl, by omega, hz.at (a' + 1), step, ?_, fun hh => by omega, fun hh => ?_, fun hh => ?_⟩))
          · rcases (show a' = zs1 tp n a ∨ a' = zs1 tp n a + 1 by omega) with g | g
            · have := hv0 g
              omega
            · have := hv1 g
              omega
          · have g : a' = zs1 tp n a := by omega
            have v0 := hv0 g
            rw [v0, g]
            rw [g] at d2
            omega
          · have g : a' = zs1 tp n a + 1 := by omega
            have v1 := (hv1 g).1
            rw [v1, g, show ((zs1 tp n a + 1 : Nat) : Int) = (zs1 tp n a : Int) + 1 by omega]
        · unfold fM_lengthRead_J88
          rw [hz.2.1, show (a' : Int) + 1 = ((a' + 1 : Nat) : Int) by omega]
          exact kT_wf (kT_inl ⟨n - (a' + 1), by omega, a' + 1, v, _, rfl, rfl, by omega, hz.at (a' + 1), step, hv, fun hh => by omega, fun hh => by omega, fun hh => by omega⟩)
      · rw [if_pos (show sbv (tp a') < 48 ∨ 57 < sbv (tp a') by
          rcases Int.lt_or_le (tp a') 128 with g | g
          · have := sr.2.2.1 g
            omega
          · have := sr.2.2.2 g
            omega)]
        have ee : zde tp n a' = a' := zru_n (Or.inr (by unfold zDg; exact decide_eq_false d2))
        rw [ee] at he
        refine kT_eqt rfl (by omega) (kT_exit (fin v T hv (by rw [← he]; exact hz) (fun hh => (hv1 (by omega)).1) (fun hh => hv2 (by omega))))
    · have ee : zde tp n a' = a' := zru_n (Or.inl (by omega))
      rw [ee] at he
      exact kT_exit (fin v T hv (by rw [← he]; exact hz) (fun hh => (hv1 (by omega)).1) (fun hh => hv2 (by omega)))
  · rw [if_neg c1, if_pos c1]
    have hF := zMF_must (n := n) (tp := tp) h
    generalize ks (ks (ks (ks τ 10 22 (zsk tp n a : Nat)) 10 23 1) 10 24 (zsk tp n a : Nat)) 10 22 ((zsk tp n a + 1 : Nat) : Int) = T at hF ⊢
    rw [hF.2.1]
    exact kT_eqf (by omega) (by omega) (by omega) (kT_ri hF)
theorem M_lengthN {τ0 τ : KM} {e : zE} (h : zMF τ0 e τ) : kT (fM_lengthRead τ) (fun z => zMF τ0 e z.2) := by
  unfold fM_lengthRead
  refine kT_callT (M_mustN h 58) (fun r T hT => ?_)
  dsimp only at hT
  have := hT.2.2.2
  rw [hT.2.1]
  exact kT_eqf (by omega) (by omega) (by omega) (kT_ri hT)
theorem M_tail {n a c : Nat} {tp : Int → Int} {τ0 τ : KM} {tk : Int} {R : NL} {nm : Int → Int} (h0 : zM0 n tp τ0) (h : zM τ0 a tk R c nm τ) (ha : a ≤ n) (htk : 0 ≤ tk ∧ tk ≤ 512) (hR : R.1 + c ≤ 100) : kT (fM_readOne_J103 (R.1 : Int) τ) (fun z => zO (zTail tp n a tk c nm) (fun e => zMF τ0 e z.2) (fun q => zM τ0 q.1 q.2.1 (zext R tk q.2.2.1 q.2.2.2.1 q.2.2.2.2) 0 z0 z.2)) := by
  unfold fM_readOne_J103
  refine kT_callT (M_lengthRead h0 h ha htk) (fun v T hz => ?_)
  dsimp only at hz
  unfold zTail
  cases hq : zLen tp n a tk with
  | inl e =>
    rw [hq] at hz
    have hz' : zMF τ0 e T := hz
    have := hz'.2.2.2
    rw [hz'.2.1]
    exact kT_eqf (by omega) (by omega) (by omega) (kT_ri hz')
  | inr q =>
    rw [hq] at hz
    obtain ⟨ev, hz⟩ : v = q.2 ∧ zM τ0 q.1 tk R c nm T := hz
    subst ev
    rw [hz.2.2.2.1.1]
    refine kT_eqt rfl (by omega) ?_
    unfold fM_readOne_L119
    refine kT_for (fun i s => ∃ T2 : KM, s = ((R.1 : Int) + i, T2) ∧ zM τ0 q.1 tk R c nm T2 ∧ ∀ j : Int, 0 ≤ j → j < i → T2 49 ((R.1 : Int) + j) = q.2) c ?_ ?_ 0 (by omega) kF _ ⟨T, by simp, hz, fun j a d => by omega⟩ (kF_lt (by omega))
    · rintro i s hi ⟨T2, rfl, hT2, h49⟩
      show kT (fM_readOne_B119 q.2 ((R.1 : Int) + i) T2) _
      unfold fM_readOne_B119
      rw [hT2.2.2.2.2.1]
      obtain ⟨g1, g2, g3, g4, g5, g6, g7⟩ := hT2
      refine kT_ltt (by omega) (by omega) (kT_wr (by omega) (kT_let (kT_inl ⟨_, Prod.ext (show (R.1 : Int) + i + 1 = (R.1 : Int) + ((i + 1 : Nat) : Int) by omega) rfl, ⟨g1.put rfl, g2, g3, g4, g5, fun j j0 j1 => ?_, g7⟩, fun j j0 j1 => ?_⟩)))
      · show T2 48 j = _ ∧ ks T2 49 _ _ 49 j = _ ∧ T2 50 j = _
        rw [ks_i (by omega)]
        exact g6 j j0 j1
      · by_cases e : j = i
        · rw [e, ks_s]
        · rw [ks_i (by omega)]; exact h49 j j0 (by omega)
    · rintro s ⟨T2, rfl, hT2, h49⟩
      show kT (fM_readOne_B119 q.2 ((R.1 : Int) + c) T2) _
      unfold fM_readOne_B119 fM_readOne_J142
      obtain ⟨g1, g2, g3, g4, g5, g6, g7⟩ := hT2
      rw [g5, g3]
      refine kT_ltf (by omega) (by omega) (kT_exit (kT_wf (kT_ri ⟨g1.putf rfl, ?_, by dsimp only; exact ks_s _ _ _ _, ⟨?_, ?_⟩, ?_, fun i i0 i1 => ?_, fun i i0 i1 => by omega⟩)))
      · dsimp only
        rw [ks_i (by decide)]; exact g2
      · dsimp only
        rw [ks_i (by decide)]; exact g4.1
      · dsimp only
        rw [ks_i (by decide)]; exact g4.2
      · dsimp only
        rw [ks_i (by decide), g5]
        show (R.1 : Int) + c = ((R.1 + c : Nat) : Int) + ((0 : Nat) : Int)
        omega
      · have i1' : i < ((R.1 + c : Nat) : Int) := i1
        show T2 48 i = (if i < R.1 then R.2.1 i else tk) ∧ T2 49 i = (if i < R.1 then R.2.2.1 i else q.2) ∧ T2 50 i = (if i < R.1 then R.2.2.2 i else nm (i - R.1))
        by_cases e : i < R.1
        · rw [if_pos e, if_pos e, if_pos e]; exact g6 i i0 e
        · rw [if_neg e, if_neg e, if_neg e]
          have x1 := g7 (i - R.1) (by omega) (by omega)
          have x2 := h49 (i - R.1) (by omega) (by omega)
          rw [show (R.1 : Int) + (i - R.1) = i by omega] at x1 x2
          exact ⟨x1.1, x2, x1.2⟩
theorem M_tailN {τ0 τ : KM} {e : zE} (h : zMF τ0 e τ) (x : Int) : kT (fM_readOne_J103 x τ) (fun z => zMF τ0 e z.2) := by
  unfold fM_readOne_J103
  refine kT_callT (M_lengthN h) (fun v T hT => ?_)
  dsimp only at hT
  have := hT.2.2.2
  rw [hT.2.1]
  exact kT_eqf (by omega) (by omega) (by omega) (kT_ri hT)
/-- the names of a chord behind the first one -/
theorem M_chordNames {n : Nat} {tp : Int → Int} {τ0 : KM} {tk : Int} {R : NL} (h0 : zM0 n tp τ0) (htk : 0 ≤ tk ∧ tk ≤ 512) (hR : R.1 ≤ 100) {a0 : Nat} {τ : KM} (hs : (∃ (a : Nat) (nm : Int → Int), 1 ≤ 6 ∧ R.1 + 1 ≤ 100 ∧ a ≤ n ∧ zM τ0 a tk R 1 nm τ ∧ (∀ j : Int, 0 ≤ j → j < ((1 : Nat) : Int) → 0 ≤ nm j ∧ nm j ≤ 127) ∧ zChord tp n R.1 7 a0 0 z0 = zChord tp n R.1 6 a 1 nm) ∨ ∃ e, zMF τ0 e τ ∧ zChord tp n R.1 7 a0 0 z0 = .inl e) : kT (fM_readOne_L67 (R.1 : Int) τ) (fun z => match zChord tp n R.1 7 a0 0 z0 with
    | .inl e => zMF τ0 e z.2
    | .inr q => zO (zTail tp n q.1 tk q.2.1 q.2.2) (fun e => zMF τ0 e z.2) (fun q => zM τ0 q.1 q.2.1 (zext R tk q.2.2.1 q.2.2.2.1 q.2.2.2.2) 0 z0 z.2)) := by
  have hT := h0.1
  have n700 := hT.1
  unfold fM_readOne_L67
  refine kT_for (fun i s => (∃ (a' : Nat) (nm' : Int → Int), i + 1 ≤ 6 ∧ R.1 + (i + 1) ≤ 100 ∧ a' ≤ n ∧ zM τ0 a' tk R (i + 1) nm' s ∧ (∀ j : Int, 0 ≤ j → j < ((i + 1 : Nat) : Int) → 0 ≤ nm' j ∧ nm' j ≤ 127) ∧ zChord tp n R.1 7 a0 0 z0 = zChord tp n R.1 (6 - i) a' (i + 1) nm') ∨ ∃ e, zMF τ0 e s ∧ zChord tp n R.1 7 a0 0 z0 = .inl e) 6 ?_ ?_ 0 (by omega) kF τ hs (kF_lt (by omega))
  · rintro i M hi hM
    show kT (fM_readOne_B67 (R.1 : Int) M) _
    unfold fM_readOne_B67 fM_readOne_J89
    rcases hM with ⟨a', nm', hi6, hFi, ha', hM, hr, he⟩ | ⟨e, hM, he⟩
    · have r1 := zsk_r (tp := tp) ha'
      have k1 := zch_r (a := a') hT
      have e7 : zChord tp n R.1 (6 - i) a' (i + 1) nm' = if zch tp n a' = 41 ∧ 0 < i + 1 then .inr (zsk tp n a' + 1, i + 1, nm') else match zName tp n a' (i + 1) R.1 nm' with
          | .inl e => .inl e
          | .inr q => zChord tp n R.1 (6 - (i + 1)) q.1 (i + 1 + 1) (zup nm' (i + 1) q.2) := by
        rw [show 6 - i = (6 - (i + 1)) + 1 by omega, zChord]
        rfl
      rw [hM.2.2.2.1.1]
      refine kT_eqt rfl (by omega) (kT_callE (M_isLetter h0 hM.1 hM.2.1 ha') ?_)
      have h1 := hM.at (zsk tp n a')
      generalize ks M 10 22 ((zsk tp n a' : Nat) : Int) = M1 at h1 ⊢
      by_cases c1 : zL (zch tp n a')
      · rw [if_pos c1]
        rw [if_neg (fun hh => by omega)] at e7
        refine kT_eqf (by omega) (by omega) (by omega) (kT_callT (M_nameRead h0 h1 r1.2 hi6 hFi hr) (fun r T hz => ?_))
        dsimp only at hz
        have ez : zName tp n (zsk tp n a') (i + 1) R.1 nm' = zName tp n a' (i + 1) R.1 nm' := by
          unfold zName zpi zac za2 zy
          rw [zch_sk ha', zsk_sk ha']
        rw [ez] at hz
        cases hq : zName tp n a' (i + 1) R.1 nm' with
        | inl e =>
          rw [hq] at hz e7
          exact kT_inl (Or.inr ⟨e, hz, by rw [he, e7]⟩)
        | inr q =>
          rw [hq] at hz e7
          obtain ⟨q1, q2, q3, q4⟩ := zName_ok hT ha' hq
          refine kT_inl (Or.inl ⟨q.1, zup nm' (i + 1) q.2, by omega, by omega, q1.2, hz, fun j j0 j1 => ?_, by rw [he, e7]⟩)
          unfold zup
          split
          · exact q2
          · exact hr j j0 (by omega)
      · rw [if_neg c1]
        refine kT_eqt rfl (by omega) (kT_exit ?_)
        have em : zsk tp n (zsk tp n a') = zsk tp n a' := zsk_sk ha'
        have ec : zch tp n (zsk tp n a') = zch tp n a' := zch_sk ha'
        refine kT_callE (M_must h0 h1.1 h1.2.1 h1.2.2.2.1.1 r1.2 (by omega)) ?_
        rw [ec, em]
        by_cases c2 : zch tp n a' = 41
        · rw [if_pos c2]
          rw [if_pos ⟨c2, by omega⟩] at e7
          have k2 := k1.2.2 (by omega)
          rw [he, e7]
          exact M_tail h0 (h1.at (zsk tp n a' + 1)) (by omega) htk hFi
        · rw [if_neg c2]
          rw [if_neg (fun hh => c2 hh.1)] at e7
          have en : zName tp n a' (i + 1) R.1 nm' = .inl (1, (zsk tp n a' : Int)) := by
            unfold zName
            rw [if_pos c1]
          rw [en] at e7
          rw [he, e7]
          have hF := zMF_must (n := n) (tp := tp) h1
          rw [em] at hF
          exact M_tailN hF _
    · have er := hM.2.2.2
      rw [hM.2.1]
      refine kT_eqf (by omega) (by omega) (by omega) (kT_exit (kT_callT (M_mustN hM 41) (fun r T hz => ?_)))
      dsimp only at hz
      rw [he]
      exact M_tailN hz _
  · rintro M hM
    show kT (fM_readOne_B67 (R.1 : Int) M) _
    unfold fM_readOne_B67 fM_readOne_J89
    rcases hM with ⟨a', nm', hi6, _⟩ | ⟨e, hM, he⟩
    · omega
    · have er := hM.2.2.2
      rw [hM.2.1]
      refine kT_eqf (by omega) (by omega) (by omega) (kT_exit (kT_callT (M_mustN hM 41) (fun r T hz => ?_)))
      dsimp only at hz
      rw [he]
      exact M_tailN hz _
theorem M_readOne {n a : Nat} {tp : Int → Int} {τ0 τ : KM} {tk : Int} {R : NL} {nm : Int → Int} (h0 : zM0 n tp τ0) (h : zM τ0 a tk R 0 nm τ) (ha : a ≤ n) (htk : 0 ≤ tk ∧ tk ≤ 512) (hR : R.1 ≤ 100) : kT (fM_readOne τ) (fun z => zO (zPart tp n a tk R.1) (fun e => zMF τ0 e z.2) (fun q => zM τ0 q.1 q.2.1 (zext R tk q.2.2.1 q.2.2.2.1 q.2.2.2.2) 0 z0 z.2)) := by
  have hT := h0.1
  have n700 := hT.1
  have r1 := zsk_r (tp := tp) ha
  have k1 := zch_r (a := a) hT
  unfold fM_readOne
  refine kT_callE (M_peek h0 h.1 h.2.1 ha) ?_
  have h1 : zM τ0 (zsk tp n a) tk R 0 z0 (ks τ 10 22 ((zsk tp n a : Nat) : Int)) := by
    obtain ⟨g1, g2, g3, g4, g5, g6, g7⟩ := h.at (zsk tp n a)
    exact ⟨g1, g2, g3, g4, g5, g6, fun i i0 i1 => by omega⟩
  generalize ks τ 10 22 ((zsk tp n a : Nat) : Int) = M at h1 ⊢
  have h2 := h1.at (zsk tp n a + 1)
  have e2 : ks M 10 22 ((zsk tp n a + 1 : Nat) : Int) = ks M 10 22 (M 10 22 + 1) := by rw [h1.2.1, show ((zsk tp n a : Nat) : Int) + 1 = ((zsk tp n a + 1 : Nat) : Int) by omega]
  rw [e2] at h2
  have e8 : M 10 8 = (R.1 : Int) := by rw [h1.2.2.2.2.1]; omega
  unfold zPart
  refine kT_eq (by omega) (by omega) (fun c1 => ?_) (fun c1 => ?_)
  · rw [if_pos c1]
    refine kT_wf (kT_ri ?_)
    obtain ⟨g1, g2, g3, g4, g5, g6, g7⟩ := h2
    refine ⟨g1, g2, g3, g4, by dsimp only; rw [g5]; show (R.1 : Int) + ((0 : Nat) : Int) = ((R.1 + 0 : Nat) : Int) + ((0 : Nat) : Int); omega, fun i i0 i1 => ?_, g7⟩
    have i1' : i < ((R.1 + 0 : Nat) : Int) := i1
    have e9 : i < R.1 := by omega
    show _ = (if i < R.1 then R.2.1 i else tk) ∧ _ = (if i < R.1 then R.2.2.1 i else 0) ∧ _ = (if i < R.1 then R.2.2.2 i else z0 (i - R.1))
    rw [if_pos e9, if_pos e9, if_pos e9]
    exact g6 i i0 e9
  rw [if_neg c1, e8]
  refine kT_let (kT_eq (by omega) (by omega) (fun c2 => ?_) (fun c2 => ?_))
  · rw [if_pos c2]
    have k2 := k1.2.2 (by omega)
    exact kT_wf (M_tail h0 h2 (by omega) htk (by omega))
  rw [if_neg c2]
  refine kT_eq (by omega) (by omega) (fun c3 => ?_) (fun c3 => ?_)
  · rw [if_pos c3]
    have k2 := k1.2.2 (by omega)
    refine kT_wf (kT_callT (M_nameRead h0 h2 (by omega) (by omega) (by omega) (fun i i0 i1 => by omega)) (fun r T hz => ?_))
    dsimp only at hz
    have e7 : zChord tp n R.1 7 (zsk tp n a + 1) 0 z0 = match zName tp n (zsk tp n a + 1) 0 R.1 z0 with
        | .inl e => .inl e
        | .inr q => zChord tp n R.1 6 q.1 (0 + 1) (zup z0 0 q.2) := by
      rw [zChord, if_neg (fun hh => by omega)]
      rfl
    refine (M_chordNames h0 htk hR (a0 := zsk tp n a + 1) ?_).mono (fun z hz => ?_)
    · cases hq : zName tp n (zsk tp n a + 1) 0 R.1 z0 with
      | inl e =>
        rw [hq] at hz e7
        exact Or.inr ⟨e, hz, e7⟩
      | inr q =>
        rw [hq] at hz e7
        obtain ⟨q1, q2, q3, q4⟩ := zName_ok hT (by omega) hq
        refine Or.inl ⟨q.1, zup z0 0 q.2, by omega, by omega, q1.2, hz, fun j j0 j1 => ?_, e7⟩
        unfold zup
        rw [if_pos (by omega)]
        exact q2
    · cases hq : zChord tp n R.1 7 (zsk tp n a + 1) 0 z0 with
      | inl e => rw [hq] at hz; exact hz
      | inr q => rw [hq] at hz; exact hz
  rw [if_neg c3]
  refine kT_callT (M_nameRead h0 h1 r1.2 (by omega) (by omega) (fun i i0 i1 => by omega)) (fun r T hz => ?_)
  dsimp only at hz
  have ez : zName tp n (zsk tp n a) 0 R.1 z0 = zName tp n a 0 R.1 z0 := by
    unfold zName zpi zac za2 zy
    rw [zch_sk ha, zsk_sk ha]
  rw [ez] at hz
  cases hq : zName tp n a 0 R.1 z0 with
  | inl e =>
    rw [hq] at hz
    exact M_tailN hz _
  | inr q =>
    rw [hq] at hz
    obtain ⟨q1, q2, q3, q4⟩ := zName_ok hT ha hq
    exact M_tail h0 hz q1.2 htk (by omega)
theorem M_load {S : KSt} {σ : KM} (hS : kSt S) (h : mS S σ) {x : Int} (hx : i32 x) : kT (fM_load x σ) (fun z => z.1 = qLoad S x ∧ mS (sLoad S x) z.2) := by
  have t700 := hS.2.2.1.1
  unfold i32 at hx
  unfold fM_load qLoad sLoad
  refine kT_wf ?_
  have h1 := h.th
  generalize ks σ 10 0 0 = M at h1 ⊢
  have ht := h1.2.2.1
  rw [ht.1]
  refine kT_ck (by omega) (kT_ck (by omega) (kT_callE (M_isIn (by omega) (by omega) (by omega) M) ?_))
  by_cases cx : x < 0 ∨ (stn S : Int) < x
  · rw [if_pos cx, if_pos cx, if_pos cx]
    exact kT_eqt rfl (by omega) (kT_ri ⟨rfl, h1⟩)
  rw [if_neg cx, if_neg cx, if_neg cx]
  obtain ⟨n, rfl⟩ : ∃ n : Nat, x = (n : Int) := ⟨x.toNat, by omega⟩
  rw [Int.toNat_natCast]
  have hTn : zT n (stp S) := ⟨by omega, fun i a c => hS.2.2.1.2 i a (by omega)⟩
  refine kT_eqf (by omega) (by omega) (by omega) (kT_wf (kT_wf (kT_wf (kT_wf (kT_wf (kT_wf (kT_wf ?_)))))))
  have hfM : kFr lW M (ks (ks (ks (ks (ks (ks (ks M 10 20 0) 10 21 n) 10 22 0) 10 23 0) 10 24 (-1)) 10 25 0) 10 8 0) := ((((((kFr.rf.putf rfl).putf rfl).putf rfl).putf rfl).putf rfl).putf rfl).putf rfl
  have hB : zM (ks (ks (ks (ks (ks (ks (ks M 10 20 0) 10 21 n) 10 22 0) 10 23 0) 10 24 (-1)) 10 25 0) 10 8 0) 0 0 zR0 0 z0 (ks (ks (ks (ks (ks (ks (ks M 10 20 0) 10 21 n) 10 22 0) 10 23 0) 10 24 (-1)) 10 25 0) 10 8 0) := by
    refine ⟨kFr.rf, ?_, ?_, ⟨?_, ?_⟩, ?_, fun i a c => ?_, fun i a c => by omega⟩
    · rw [ks_i (by decide), ks_i (by decide), ks_i (by decide), ks_i (by decide), ks_s]; rfl
    · rw [ks_i (by decide), ks_s]
    · rw [ks_i (by decide), ks_i (by decide), ks_i (by decide), ks_s]
    · rw [ks_i (by decide), ks_i (by decide), ks_s]
    · rw [ks_s]; rfl
    · have c' : i < ((0 : Nat) : Int) := c
      omega
  have h0 : zM0 n (stp S) (ks (ks (ks (ks (ks (ks (ks M 10 20 0) 10 21 n) 10 22 0) 10 23 0) 10 24 (-1)) 10 25 0) 10 8 0) := by
    refine ⟨hTn, ?_, fun i a c => ht.2 i a (by omega)⟩
    rw [ks_i (by decide), ks_i (by decide), ks_i (by decide), ks_i (by decide), ks_i (by decide), ks_s]
  have e20 : ks (ks (ks (ks (ks (ks (ks M 10 20 0) 10 21 n) 10 22 0) 10 23 0) 10 24 (-1)) 10 25 0) 10 8 0 10 20 = 0 := by
    rw [ks_i (by decide), ks_i (by decide), ks_i (by decide), ks_i (by decide), ks_i (by decide), ks_i (by decide), ks_s]
  generalize ks (ks (ks (ks (ks (ks (ks M 10 20 0) 10 21 n) 10 22 0) 10 23 0) 10 24 (-1)) 10 25 0) 10 8 0 = τ0 at hfM hB h0 e20 ⊢
  -- the end of a text that is refused
  have endF : ∀ (T : KM) (e : zE), zMF τ0 e T → zLd (stp S) n = .inl e → kT (fM_load_J79 T) (fun z => (z.1 = match zLd (stp S) n with
      | .inl e => -30 - e.1
      | .inr R => (R.1 : Int)) ∧ mS (match zLd (stp S) n with
      | .inl e => (S.1, S.2.1, (0, stp S), e)
      | .inr R => (bN (sb S) (fldS R R.1), (0, fun _ => fldS R R.1), (0, stp S), (0, -1))) z.2) := by
    intro T e hF he
    have er := hF.2.2.2
    have hf : kFr lW M T := hfM.trans (hF.1.mono rfl)
    have f20 : T 10 20 = τ0 10 20 := hF.1.slot rfl
    unfold fM_load_J79
    rw [hF.2.1, he]
    refine kT_eqf (by omega) (by omega) (by omega) (kT_ri ⟨rfl, h1.1.fr hf rfl, h1.2.1.fr hf rfl, ⟨?_, fun i a c => ?_⟩, hF.2.1, hF.2.2.1⟩)
    · dsimp only
      rw [f20, e20]
      rfl
    · have c' : i < ((0 : Nat) : Int) := c
      omega
  have endG : ∀ (T : KM) (a : Nat) (tk : Int) (R : NL), zM τ0 a tk R 0 z0 T → zV R → zLd (stp S) n = .inr R → kT (fM_load_J79 T) (fun z => (z.1 = match zLd (stp S) n with
      | .inl e => -30 - e.1
      | .inr R => (R.1 : Int)) ∧ mS (match zLd (stp S) n with
      | .inl e => (S.1, S.2.1, (0, stp S), e)
      | .inr R => (bN (sb S) (fldS R R.1), (0, fun _ => fldS R R.1), (0, stp S), (0, -1))) z.2) := by
    intro T a tk R hz hR he
    have hf : kFr lW M T := hfM.trans (hz.1.mono rfl)
    have r100 := hR.1
    rw [he]
    unfold fM_load_J79 fM_load_L101
    rw [hz.2.2.2.1.1]
    refine kT_eqt rfl (by omega) (kT_wf ?_)
    refine kT_for (fun i s => ∃ T2 : KM, s = ((i : Int), T2) ∧ kFr [(10, some 7), (45, none), (46, none), (47, none)] T T2 ∧ mNt (fldS R i) T2) R.1 ?_ ?_ 0 (by omega) kF _ ⟨_, rfl, kFr.rf.putf rfl, ks_s _ _ _ _, fun i a c => ?_⟩ (kF_lt (by omega))
    · rintro i s hi ⟨T2, rfl, hf2, hN⟩
      have c48 : T2 48 = T 48 := hf2.cell rfl
      have c49 : T2 49 = T 49 := hf2.cell rfl
      have c50 : T2 50 = T 50 := hf2.cell rfl
      have f8 : T2 10 8 = T 10 8 := hf2.slot rfl
      have q := hz.2.2.2.2.2.1 i (by omega) (by omega)
      have o := hR.2 i (by omega) (by omega)
      have en := fldS_n R i
      unfold okV at o
      show kT (fM_load_B101 i T2) _
      unfold fM_load_B101
      rw [f8, hz.2.2.2.2.1]
      refine kT_ltt (by omega) (by omega) (kT_rd (by omega) (kT_rd (by omega) (kT_rd (by omega) ?_)))
      rw [c48, c49, c50, q.1, q.2.1, q.2.2]
      refine kT_callT (kT.fr (M_comes hN (fldS_v hR i (by omega)) (by omega) (by unfold i32; omega) (by unfold i32; omega) (by unfold i32; omega)) (rfM_comes _ _ _ T2)) (fun r T3 hy => ?_)
      obtain ⟨⟨_, y2⟩, y3⟩ := hy
      dsimp only at y2 y3
      exact kT_let (kT_inl ⟨T3, rfl, hf2.trans (y3.mono rfl), y2⟩)
    · rintro s ⟨T2, rfl, hf2, hN⟩
      have f8 : T2 10 8 = T 10 8 := hf2.slot rfl
      have f20 : T2 10 20 = τ0 10 20 := (hf2.slot rfl).trans (hz.1.slot rfl)
      have f23 : T2 10 23 = T 10 23 := hf2.slot rfl
      have f24 : T2 10 24 = T 10 24 := hf2.slot rfl
      have en := fldS_n R R.1
      show kT (fM_load_B101 (R.1 : Nat) T2) _
      unfold fM_load_B101 fM_load_J138
      rw [f8, hz.2.2.2.2.1]
      have hfa : kFr wfM_load M (ks T2 10 10 0) := ((hf.mono rfl).trans (hf2.mono rfl)).putf rfl
      refine kT_ltf (by omega) (by omega) (kT_exit (kT_wf (kT_ri ⟨?_, mB_notes h1.1 hfa rfl ⟨?_, hN.2⟩, ⟨?_, fun j hj => ?_⟩, ⟨?_, fun i a c => ?_⟩, ?_, ?_⟩)))
      · dsimp only
        rw [ks_i (by decide), hN.1, en]
      · dsimp only
        rw [ks_i (by decide)]; exact hN.1
      · dsimp only
        rw [ks_s]; rfl
      · have hj' : j < 0 := hj
        omega
      · dsimp only
        rw [ks_i (by decide), f20, e20]; rfl
      · have c' : i < ((0 : Nat) : Int) := c
        omega
      · dsimp only
        rw [ks_i (by decide), f23]; exact hz.2.2.2.1.1
      · dsimp only
        rw [ks_i (by decide), f24]; exact hz.2.2.2.1.2
    · have c' : i < ((0 : Nat) : Int) := c
      omega
  unfold fM_load_L57
  refine kT_for (fun i s => (∃ (a : Nat) (tk : Int) (R : NL), (i ≤ a ∧ a ≤ n) ∧ (0 ≤ tk ∧ tk ≤ 512) ∧ zV R ∧ zM τ0 a tk R 0 z0 s ∧ zLd (stp S) n = zLoad (stp S) n (n + 1 - i) a tk R) ∨ ∃ e, zMF τ0 e s ∧ zLd (stp S) n = .inl e) (n + 1) ?_ ?_ 0 (by omega) kF τ0 (Or.inl ⟨0, 0, zR0, by omega, by omega, zV_0, hB, rfl⟩) (kF_lt (by omega))
  · rintro i T hi hT
    show kT (fM_load_B57 T) _
    unfold fM_load_B57
    rcases hT with ⟨a, tk, R, ha, htk, hR, hz, he⟩ | ⟨e, hF, he⟩
    · have k1 := zch_r (a := a) hTn
      have r1 := zsk_r (tp := stp S) ha.2
      have el : zLoad (stp S) n (n + 1 - i) a tk R = if zch (stp S) n a = -1 then .inr R else match zPart (stp S) n a tk R.1 with
          | .inl e => .inl e
          | .inr q => zLoad (stp S) n (n + 1 - (i + 1)) q.1 q.2.1 (zext R tk q.2.2.1 q.2.2.2.1 q.2.2.2.2) := by
        rw [show n + 1 - i = (n + 1 - (i + 1)) + 1 by omega, zLoad]
        rfl
      rw [hz.2.2.2.1.1]
      refine kT_eqt rfl (by omega) (kT_callE (M_peek h0 hz.1 hz.2.1 ha.2) ?_)
      have h2 := hz.at (zsk (stp S) n a)
      generalize ks T 10 22 ((zsk (stp S) n a : Nat) : Int) = T1 at h2 ⊢
      refine kT_eq (by omega) (by omega) (fun c1 => ?_) (fun c1 => ?_)
      · rw [if_pos c1] at el
        exact kT_exit (endG T1 _ tk R h2 hR (by rw [he, el]))
      · rw [if_neg c1] at el
        refine kT_callT (M_readOne h0 h2 r1.2 htk hR.1) (fun r T2 hy => ?_)
        dsimp only at hy
        have ez : zPart (stp S) n (zsk (stp S) n a) tk R.1 = zPart (stp S) n a tk R.1 := by
          unfold zPart zName zpi zac za2 zy
          rw [zch_sk ha.2, zsk_sk ha.2]
        rw [ez] at hy
        cases hq : zPart (stp S) n a tk R.1 with
        | inl e =>
          rw [hq] at hy el
          exact kT_inl (Or.inr ⟨e, hy, by rw [he, el]⟩)
        | inr q =>
          rw [hq] at hy el
          obtain ⟨q1, q2, q3, q4⟩ := zPart_ok hTn ha.2 htk hR.1 c1 hq
          exact kT_inl (Or.inl ⟨q.1, q.2.1, zext R tk q.2.2.1 q.2.2.2.1 q.2.2.2.2, by omega, q2, zV_ext hR q3 q4, hy, by rw [he, el]⟩)
    · have er := hF.2.2.2
      rw [hF.2.1]
      exact kT_eqf (by omega) (by omega) (by omega) (kT_exit (endF T e hF he))
  · rintro T hT
    show kT (fM_load_B57 T) _
    unfold fM_load_B57
    rcases hT with ⟨a, tk, R, ha, _⟩ | ⟨e, hF, he⟩
    · omega
    · have er := hF.2.2.2
      rw [hF.2.1]
      exact kT_eqf (by omega) (by omega) (by omega) (kT_exit (endF T e hF he))
