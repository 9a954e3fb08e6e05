/-! ===== firm: the calls ===== -/
theorem P_isFirm {b : KB} (hb : kB b) (hl : hP b) {σ : KM} (hx : xC (XP b) σ) (hn : nOK b σ) {f : Int} (hf : 0 ≤ f ∧ f ≤ 100) : kT (fFi_isFirm f σ) (fun z => z.1 = (if fmP b f then 1 else 0) ∧ kFr wfFi_isFirm σ z.2) := by
  refine kT.fr ?_ (rfFi_isFirm f σ)
  have hv := XB_v hb hf
  have hxf : xC (XB b f) σ := hx
  have sr := sgS_r (paS (XB b f)) (nB b)
  have n48 := nB_48 hb
  unfold fFi_isFirm fFi_isFirm_J19
  refine kT_callT (P_solve hv hxf (f := f) (fun k o a c d e => by rw [(hn k o a c d e).2]; rfl)) (fun r τ hz => ?_)
  dsimp only at hz
  have e12 : τ 8 12 = sgS (paS (XB b f)) (nB b) := (hz.2.2.2.2.1 (XB_fin hb hl hf)).2.1
  rw [e12]
  refine kT_lt (by omega) (by omega) (fun c => ?_) (fun c => ?_)
  · refine kT_rz (by omega) ?_
    dsimp only
    rw [if_pos (show fmP b f by show sgS (paS (XB b f)) (nB b) ≤ 1; omega)]
  · refine kT_rz (by omega) ?_
    dsimp only
    rw [if_neg (show ¬ fmP b f by show ¬ sgS (paS (XB b f)) (nB b) ≤ 1; omega)]
def bdS : Nat → Int
  | 0 => 100
  | 1 => 50
  | 2 => 25
  | 3 => 12
  | 4 => 6
  | 5 => 3
  | 6 => 1
  | _ => 0
theorem bdS_h {i : Nat} (hi : i < 8) : bdS i / 2 ≤ bdS (i + 1) := by
  rcases (show i = 0 ∨ i = 1 ∨ i = 2 ∨ i = 3 ∨ i = 4 ∨ i = 5 ∨ i = 6 ∨ i = 7 by omega) with rfl | rfl | rfl | rfl | rfl | rfl | rfl | rfl <;> decide
theorem P_searchFirm {b : KB} (hb : kB b) (hl : hP b) {σ : KM} (hx : xC (XP b) σ) (hn : nOK b σ) : kT (fFi_searchFirm σ) (fun z => z.1 = firmS b) := by
  unfold fFi_searchFirm
  refine kT_callT (P_isFirm hb hl hx hn (f := 100) (by omega)) (fun r τ hz => ?_)
  obtain ⟨hr, hf⟩ := hz
  dsimp only at hr hf
  rw [hr]
  by_cases c : fmP b 100
  · rw [if_pos c]
    refine kT_eqf (by omega) (by omega) (by omega) ?_
    unfold fFi_searchFirm_L20
    refine kT_for (fun i s => ∃ (lo up : Int) (M : KM), s = (lo, up, (i : Int), M) ∧ xC (XP b) M ∧ nOK b M ∧ (0 ≤ lo ∧ lo ≤ up ∧ up ≤ 100) ∧ up - lo ≤ bdS i ∧ fmP b up ∧ ∀ g, 0 ≤ g → g < lo → ¬ fmP b g) 8 ?_ ?_ 0 (by omega) kF _ ⟨0, 100, τ, rfl, hx.fr hf rfl, hn.fr hf rfl, by omega, by show (100 : Int) - 0 ≤ 100; omega, c, fun g g0 g1 => by omega⟩ (kF_lt (by omega))
    · rintro i s hi ⟨lo, up, M, rfl, hxM, hnM, hr1, hr2, h1, h2⟩
      have bh := bdS_h hi
      show kT (fFi_searchFirm_B20 lo up i M) _
      unfold fFi_searchFirm_B20 fFi_searchFirm_J66 fFi_searchFirm_J60
      refine kT_ltt (by omega) (by omega) (kT_lt (by omega) (by omega) (fun d => ?_) (fun d => ?_))
      · refine kT_dv (by omega) (by omega) (by omega) ?_
        rw [tdiv_e (by omega)]
        refine kT_callT (P_isFirm hb hl hxM hnM (f := (lo + up) / 2) (by omega)) (fun r τ2 hz => ?_)
        obtain ⟨hr, hf2⟩ := hz
        dsimp only at hr hf2
        rw [hr]
        by_cases e : fmP b ((lo + up) / 2)
        · rw [if_pos e]
          exact kT_eqf (by omega) (by omega) (by omega) (kT_let (kT_inl ⟨lo, (lo + up) / 2, τ2, rfl, hxM.fr hf2 rfl, hnM.fr hf2 rfl, by omega, by omega, e, h2⟩))
        · rw [if_neg e]
          refine kT_eqt rfl (by omega) (kT_let (kT_let (kT_inl ⟨(lo + up) / 2 + 1, up, τ2, rfl, hxM.fr hf2 rfl, hnM.fr hf2 rfl, by omega, by omega, h1, fun g g0 g1 hg => ?_⟩)))
          exact e (fm_mo hb hl g0 (show g ≤ (lo + up) / 2 by omega) (by omega) hg)
      · refine kT_exit (kT_ri ?_)
        have e : lo = up := by omega
        subst e
        exact (firmS_at (by omega) h1 h2).symm
    · rintro s ⟨lo, up, M, rfl, hxM, hnM, hr1, hr2, h1, h2⟩
      show kT (fFi_searchFirm_B20 lo up 8 M) _
      unfold fFi_searchFirm_B20 fFi_searchFirm_J66
      refine kT_ltf (by omega) (by omega) (kT_exit (kT_ri ?_))
      have hr2' : up - lo ≤ 0 := hr2
      have e : lo = up := by omega
      subst e
      exact (firmS_at (by omega) h1 h2).symm
  · rw [if_neg c]
    refine kT_eqt rfl (by omega) (kT_ri ?_)
    exact (firmS_no (fun g g0 g1 hg => c (fm_mo hb hl g0 g1 (by omega) hg))).symm
theorem firmS_r (b : KB) : -1 ≤ firmS b ∧ firmS b ≤ 100 := by
  rw [firmS_e]
  rcases fkS_r (fun f => if fmP b f then (1 : Int) else 0) 1 101 with ⟨e1, e2⟩ | ⟨q1, q2, q3⟩ <;> omega
def qFirm (b : KB) : Int := if hP b then firmS b else -5
theorem C_firm {b : KB} {σ : KM} (hb : kB b) (h : CI b σ) : kT (fP_firm σ) (fun z => z.1 = qFirm b ∧ CI b z.2) := by
  unfold fP_firm fP_firm_J23 qFirm
  refine kT_callT (C_noPath hb h) (fun r τ2 hz => ?_)
  obtain ⟨hr, hC, hF, hW⟩ := hz
  dsimp only at hr hC hF hW
  rw [hr]
  by_cases c : hP b
  · rw [if_pos c, if_pos c]
    refine kT_eqt rfl (by omega) ?_
    unfold fFi_firmFactor fFi_firmFactor_J30
    rcases hF.2.2.2.1 with d | ⟨d, e15⟩
    · rw [d]
      refine kT_call (kT_eqt rfl (by omega) ?_)
      have hn : nOK b τ2 := by
        rcases hC.2.2.2.1 with g | g
        · exact g.2
        · have := hF.2.2.1.2.2
          omega
      refine kT_callT (kT.fr (P_searchFirm hb c hF.2.1.1 hn) (rfFi_searchFirm τ2)) (fun r τ3 hz => ?_)
      obtain ⟨z1, hf3⟩ := hz
      dsimp only at z1 hf3
      refine kT_wf (kT_wfz (by omega) ?_)
      have hf4 : kFr [(8, some 14), (8, some 15)] τ3 (ks (ks τ3 8 15 r) 8 14 1) := (kFr.rf.putf rfl).putf rfl
      have g15 : ks (ks τ3 8 15 r) 8 14 1 8 15 = firmS b := by rw [ks_i (by decide), ks_s, z1]
      have g14 : ks (ks τ3 8 15 r) 8 14 1 8 14 = 1 := ks_s _ _ _ _
      generalize ks (ks τ3 8 15 r) 8 14 1 = τ4 at hf4 g15 g14 ⊢
      have c4 : cB b τ4 := (hC.1.fr hf3 rfl).fr hf4 rfl
      have n4 : nOK b τ4 := (hn.fr hf3 rfl).fr hf4 rfl
      have x4 : xC (XP b) τ4 := (hF.2.1.1.fr hf3 rfl).fr hf4 rfl
      rw [c4.2.2.2.2.2.2.2]
      refine kT_callT (kT.fr (P_solve (XP_v hb) x4 (f := bx b) (fun k o a c d e => by rw [(n4 k o a c d e).2]; rfl)) (rfFi_solve (bx b) τ4)) (fun r τ5 hz => ?_)
      obtain ⟨hs, hf5⟩ := hz
      dsimp only at hs hf5
      have ff : kFr wfFi_firmFactor τ2 τ5 := ((hf3.mono rfl).trans (hf4.mono rfl)).trans (hf5.mono rfl)
      have e13 : τ5 8 13 = τ2 8 13 := ff.slot rfl
      have e14 : τ5 8 14 = τ4 8 14 := hf5.slot rfl
      have e15 : τ5 8 15 = τ4 8 15 := hf5.slot rfl
      have e56 : τ5 5 6 = τ2 5 6 := ff.slot rfl
      have e63 : τ5 6 3 = τ2 6 3 := ff.slot rfl
      have e74 : τ5 7 4 = τ2 7 4 := ff.slot rfl
      have e91 : τ5 9 1 = τ2 9 1 := ff.slot rfl
      have e94 : τ5 9 4 = τ2 9 4 := ff.slot rfl
      have c41 : τ5 41 = τ2 41 := ff.cell rfl
      have c43 : τ5 43 = τ2 43 := ff.cell rfl
      have F5 : frC b τ5 := ⟨by rw [e13]; exact hF.1, hs, by rw [e56, e63, e74]; exact hF.2.2.1, Or.inr ⟨by rw [e14]; exact g14, by rw [e15]; exact g15⟩, by rw [e91]; unfold ahOK; rw [c41]; exact hF.2.2.2.2.1, by rw [e94]; unfold mvOK; rw [c43]; exact hF.2.2.2.2.2⟩
      refine kT_ri (kT_ri ⟨by dsimp only; rw [e15]; exact g15, ?_⟩)
      dsimp only
      obtain ⟨c1, c2, c3, c4, c5⟩ := hC
      refine ⟨c1.fr ff rfl, ?_, ?_, ?_, Or.inl F5⟩
      · rcases c2 with h | h
        · exact Or.inl ⟨by rw [e56]; exact h.1, h.2.fr ff rfl⟩
        · exact Or.inr (by rw [e56]; exact h)
      · rcases c3 with h | h
        · exact Or.inl ⟨by rw [e63]; exact h.1, h.2.1.fr ff rfl, by rw [e56]; exact h.2.2⟩
        · exact Or.inr (by rw [e63]; exact h)
      · rcases c4 with h | h
        · exact Or.inl ⟨by rw [e74]; exact h.1, h.2.fr ff rfl⟩
        · exact Or.inr (by rw [e74]; exact h)
    · rw [d]
      exact kT_call (kT_eqf (by omega) (by omega) (by omega) (kT_ri (kT_ri ⟨e15, hC⟩)))
  · rw [if_neg c, if_neg c]
    exact kT_eqf (by omega) (by omega) (by omega) (kT_ri ⟨rfl, hC⟩)
theorem M_firm {b : KB} {σ : KM} (hb : kB b) (hm : mB b σ) : kT (fM_firm σ) (fun z => z.1 = qFirm b) := by
  have n48 := nB_48 hb
  have eN := nB_i hb
  unfold fM_firm qFirm
  refine kT_wf (kT_callT (kT.fr (M_laysOwn hb hm.th) (rfM_laysOwn _)) (fun r τ hz => ?_))
  obtain ⟨hO, hf⟩ := hz
  dsimp only at hO hf
  have hm1 := hm.th.fr hf rfl
  obtain ⟨x1, x2⟩ := hO.x hb (bx b)
  rw [hm1.2.2.2.2.2.2.2]
  refine kT_callT (kT.fr (M_laysPath (XP_v hb) x1 x2) (rfM_laysPath (bx b) τ)) (fun r τ2 hz => ?_)
  obtain ⟨⟨z1, z2⟩, hf2⟩ := hz
  dsimp only at z1 z2 hf2
  have hO2 := hO.fr hf2 rfl
  rw [z1]
  by_cases c : hP b
  · rw [if_pos c, if_pos c]
    refine kT_eqf (by omega) (by omega) (by omega) ?_
    unfold fM_firm_L25
    refine kT_for (fun i s => ∃ M : KM, s = ((i : Int), M) ∧ mO b M ∧ ∀ g : Int, 0 ≤ g → g < i → ¬ fmP b g) 101 ?_ ?_ 0 (by omega) kF _ ⟨τ2, rfl, hO2, fun g g0 g1 => by omega⟩ (kF_lt (by omega))
    · rintro i s hi ⟨M, rfl, hOM, hg⟩
      have hv := XB_v hb (f := (i : Int)) (by omega)
      have hl := XB_fin hb c (f := (i : Int)) (by omega)
      have sr := sgS_r (paS (XB b i)) (nB b)
      obtain ⟨y1, y2⟩ := hOM.x hb (i : Int)
      show kT (fM_firm_B25 i M) _
      unfold fM_firm_B25 fM_firm_J45
      refine kT_ltf (by omega) (by omega) ?_
      refine kT_callT (kT.fr (M_laysPath hv y1 y2) (rfM_laysPath (i : Int) M)) (fun r τ3 hz => ?_)
      obtain ⟨⟨_, q2⟩, hf3⟩ := hz
      dsimp only at q2 hf3
      have hO3 := hOM.fr hf3 rfl
      refine kT_callE (M_segmentsNow (pa := paS (XB b i)) (n := nB b) n48 (by rw [eN]; exact hO3.1) (fun w hw => ⟨q2.2.2 hl w hw, (paS_r hv hl w hw).1⟩)) ?_
      refine kT_lt (by omega) (by omega) (fun d => ?_) (fun d => ?_)
      · refine kT_let (kT_inl ⟨τ3, rfl, hO3, fun g g0 g1 => ?_⟩)
        by_cases e : g = (i : Int)
        · rw [e]
          show ¬ sgS (paS (XB b i)) (nB b) ≤ 1
          omega
        · exact hg g g0 (by omega)
      · exact kT_exit (kT_ri (firmS_at (by omega) d hg).symm)
    · rintro s ⟨M, rfl, hOM, hg⟩
      show kT (fM_firm_B25 101 M) _
      unfold fM_firm_B25 fM_firm_J53
      exact kT_ltt (by omega) (by omega) (kT_exit (kT_ri (firmS_no (fun g g0 g1 => hg g g0 (by omega))).symm))
  · rw [if_neg c, if_neg c]
    exact kT_eqt rfl (by omega) (kT_ri rfl)
