/-! ===== noPath ===== -/
theorem C_noPath {b : KB} {σ : KM} (hb : kB b) (h : CI b σ) : kT (fP_noPath σ) (fun z => z.1 = (if lsS (XP b) < 1000000000 then 0 else 1) ∧ CI b z.2 ∧ frC b z.2 ∧ wOK b z.2) := by
  have fin : ∀ τ, CI b τ → frC b τ → kT (fP_noPath_J77 τ) (fun z => z.1 = (if lsS (XP b) < 1000000000 then 0 else 1) ∧ CI b z.2 ∧ frC b z.2 ∧ wOK b z.2) := by
    intro τ hT hF
    have hW : wOK b τ := by
      rcases hT.2.1 with h | h
      · exact h.2
      · have := hF.2.2.1.1
        omega
    unfold fP_noPath_J77 fP_noPath_J92
    rw [hF.2.1.2.2.2.1.2.2]
    by_cases hl : lsS (XP b) < 1000000000
    · rw [if_pos hl, if_pos hl]
      exact kT_eqf (by omega) (by omega) (by omega) (kT_rz (by omega) ⟨rfl, hT, hF, hW⟩)
    · rw [if_neg hl, if_neg hl]
      exact kT_eqt rfl (by omega) (kT_rz (by omega) ⟨rfl, hT, hF, hW⟩)
  unfold fP_noPath
  refine kT_eq (by rcases h.2.2.2.2 with h | h <;> (try have := h.1) <;> omega) (by omega) (fun c => ?_) (fun c => ?_)
  · refine fin σ h ?_
    rcases h.2.2.2.2 with h | h
    · exact h
    · omega
  refine kT_callT (P_freshFits hb h.1 h.2.1 h.2.2.1) (fun r τ1 hz => ?_)
  obtain ⟨hz, hf1⟩ := hz
  have h1 : CI b τ1 := h.f hf1 hz
  dsimp only at hz
  refine kT_callT (P_refresh hb h1.1 h1.2.2.2.1) (fun r τ2 hy => ?_)
  obtain ⟨hy, hf2⟩ := hy
  have h2 : CI b τ2 := h1.n hf2 hy
  dsimp only at hy hf2
  have w2 : wOK b τ2 := hz.1.1.fr hf2 rfl
  have p2 : pOK b τ2 := hz.2.1.fr hf2 rfl
  have e56 : τ2 5 6 = 0 := by rw [← hz.1.2]; exact hf2.slot rfl
  have e63 : τ2 6 3 = 0 := by rw [← hz.2.2]; exact hf2.slot rfl
  refine kT_callT (kT.fr (P_finderJudge hb h2.1 w2 p2 (bx b)) (rfFi_judge τ2)) (fun r τ3 hq => ?_)
  obtain ⟨hx, hf3⟩ := hq
  dsimp only at hx hf3
  have n3 : nOK b τ3 := hy.1.fr hf3 rfl
  have c3 : cB b τ3 := h2.1.fr hf3 rfl
  rw [c3.2.2.2.2.2.2.2]
  refine kT_callT (kT.fr (P_solve (XP_v hb) hx (f := bx b) (fun k o a c d e => by rw [(n3 k o a c d e).2]; rfl)) (rfFi_solve (bx b) τ3)) (fun r τ4 hq => ?_)
  obtain ⟨hs, hf4⟩ := hq
  dsimp only at hs hf4
  refine kT_wfz (by omega) (kT_wfz (by omega) ?_)
  unfold fDe_forget
  refine kT_call (kT_wfz (by omega) (kT_wfz (by omega) (kT_ri ?_)))
  dsimp only
  have hf5 : kFr [(8, some 13), (8, some 14), (9, some 1), (9, some 4)] τ4 (ks (ks (ks (ks τ4 8 13 0) 8 14 0) 9 1 0) 9 4 0) := (((kFr.rf.putf rfl).putf rfl).putf rfl).putf rfl
  have g13 : ks (ks (ks (ks τ4 8 13 0) 8 14 0) 9 1 0) 9 4 0 8 13 = 0 := by rw [ks_c (by decide), ks_c (by decide), ks_i (by decide), ks_s]
  have g14 : ks (ks (ks (ks τ4 8 13 0) 8 14 0) 9 1 0) 9 4 0 8 14 = 0 := by rw [ks_c (by decide), ks_c (by decide), ks_s]
  have g91 : ks (ks (ks (ks τ4 8 13 0) 8 14 0) 9 1 0) 9 4 0 9 1 = 0 := by rw [ks_i (by decide), ks_s]
  have g94 : ks (ks (ks (ks τ4 8 13 0) 8 14 0) 9 1 0) 9 4 0 9 4 = 0 := ks_s _ _ _ _
  generalize ks (ks (ks (ks τ4 8 13 0) 8 14 0) 9 1 0) 9 4 0 = τ5 at hf5 g13 g14 g91 g94 ⊢
  have k56 : τ5 5 6 = 0 := by rw [hf5.slot rfl, hf4.slot rfl, hf3.slot rfl]; exact e56
  have k63 : τ5 6 3 = 0 := by rw [hf5.slot rfl, hf4.slot rfl, hf3.slot rfl]; exact e63
  have k74 : τ5 7 4 = 0 := by rw [hf5.slot rfl, hf4.slot rfl, hf3.slot rfl]; exact hy.2
  have w5 : wOK b τ5 := ((w2.fr hf3 rfl).fr hf4 rfl).fr hf5 rfl
  have p5 : pOK b τ5 := ((p2.fr hf3 rfl).fr hf4 rfl).fr hf5 rfl
  have n5 : nOK b τ5 := (n3.fr hf4 rfl).fr hf5 rfl
  have s5 : sOK (XP b) τ5 := hs.fr hf5 rfl
  have c5 : cB b τ5 := (c3.fr hf4 rfl).fr hf5 rfl
  have F5 : frC b τ5 := ⟨g13, s5, ⟨k56, k63, k74⟩, Or.inl g14, Or.inl g91, Or.inl g94⟩
  exact fin τ5 ⟨c5, Or.inl ⟨k56, w5⟩, Or.inl ⟨k63, p5, k56⟩, Or.inl ⟨k74, n5⟩, Or.inl F5⟩ F5
