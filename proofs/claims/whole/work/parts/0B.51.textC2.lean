/-! ===== the class: lengths, chords, parts ===== -/
def zIn (tk v : Int) (nm : Int → Int) (F : NL) : Nat → NL
  | 0 => F
  | i + 1 => inS (zIn tk v nm F i) (plS (zIn tk v nm F i) tk v (nm i) (zIn tk v nm F i).1) tk v (nm i)
theorem zIn_n (tk v : Int) (nm : Int → Int) (F : NL) : ∀ i : Nat, (zIn tk v nm F i).1 = F.1 + i
  | 0 => rfl
  | i + 1 => by
    have := zIn_n tk v nm F i
    show (zIn tk v nm F i).1 + 1 = F.1 + (i + 1)
    omega
theorem zIn_v {tk v : Int} {nm : Int → Int} {F : NL} (hF : vN F) : ∀ i : Nat, F.1 + i ≤ 100 → (∀ j : Int, 0 ≤ j → j < i → okV tk v (nm j)) → vN (zIn tk v nm F i)
  | 0, _, _ => hF
  | i + 1, h, hj => by
    have e := zIn_n tk v nm F i
    have pr := plS_r (zIn tk v nm F i) tk v (nm i) (zIn tk v nm F i).1
    exact vN_in (zIn_v hF i (by omega) (fun j a c => hj j a (by omega))) (by omega) ⟨by omega, by omega⟩ (hj i (by omega) (by omega))
theorem C_soundNamed {a c : Nat} {σ0 σ : KM} {tk v : Int} {F : NL} {nm : Int → Int} (h : zC σ0 a tk F c nm σ) (hF : vN F) (hc : c ≤ 6) (hFc : F.1 + c ≤ 100) (ho : ∀ j : Int, 0 ≤ j → j < c → okV tk v (nm j)) : kT (fTR_soundNamed v σ) (fun z => zC σ0 a tk (zIn tk v nm F c) c nm z.2) := by
  unfold fTR_soundNamed fTR_soundNamed_L2
  refine kT_for (fun i s => ∃ M : KM, s = ((i : Int), M) ∧ zC σ0 a tk (zIn tk v nm F i) c nm M) c ?_ ?_ 0 (by omega) kF _ ⟨σ, rfl, h⟩ (kF_lt (by omega))
  · rintro i s hi ⟨M, rfl, hM⟩
    have hv := zIn_v hF i (by omega) (fun j a d => ho j a (by omega))
    have en := zIn_n tk v nm F i
    have pr := plS_r (zIn tk v nm F i) tk v (nm i) (zIn tk v nm F i).1
    have o := ho i (by omega) (by omega)
    unfold okV at o
    show kT (fTR_soundNamed_B2 v i M) _
    unfold fTR_soundNamed_B2
    rw [hM.2.2.2.2.2.1, hM.2.2.1]
    refine kT_ltt (by omega) (by omega) (kT_rd (by omega) ?_)
    rw [hM.2.2.2.2.2.2 i (by omega) (by omega)]
    refine kT_callE (P_placeForF hM.2.2.2.2.1 hv (by unfold i32; omega) (by unfold i32; omega) (by unfold i32; omega)) (kT_rd (by omega) ?_)
    rw [hM.2.2.2.2.2.2 i (by omega) (by omega), hM.2.2.1]
    refine kT_callT (kT.fr (P_insertF hM.2.2.2.2.1 (by omega) (q := (plS (zIn tk v nm F i) tk v (nm i) (zIn tk v nm F i).1 : Int)) ⟨by omega, by omega⟩) (rfNo_insertF _ _ _ _ M)) (fun r τ hz => ?_)
    obtain ⟨z1, z2⟩ := hz
    dsimp only at z1 z2
    obtain ⟨g1, g2, g3, g4, g5, g6, g7⟩ := hM
    have c1 : τ 1 = M 1 := z2.cell rfl
    have c12 : τ 12 = M 12 := z2.cell rfl
    refine kT_let (kT_inl ⟨τ, rfl, g1.trans (z2.mono rfl), ?_, ?_, ⟨?_, ?_⟩, z1, ?_, ?_⟩)
    · rw [c1]; exact g2
    · rw [c1]; exact g3
    · rw [c1]; exact g4.1
    · rw [c1]; exact g4.2
    · rw [c1]; exact g6
    · rw [c12]; exact g7
  · rintro s ⟨M, rfl, hM⟩
    show kT (fTR_soundNamed_B2 v (c : Nat) M) _
    unfold fTR_soundNamed_B2 fTR_soundNamed_J52
    rw [hM.2.2.2.2.2.1]
    exact kT_ltf (by omega) (by omega) (kT_exit (kT_ri hM))
theorem zde_d {tp : Int → Int} {n s : Nat} (hs : s < n) (h : zD (tp s)) : s + 1 ≤ zde tp n s := by
  have e : zde tp n s = zru zDg tp (n - (s + 1)) (s + 1) := zru_y hs (by unfold zDg; exact decide_eq_true h)
  rw [e]
  exact (zru_r zDg tp (n - (s + 1)) (s + 1)).1
theorem C_readLength {n a c : Nat} {tp : Int → Int} {σ0 σ : KM} {tk : Int} {F : NL} {nm : Int → Int} (h0 : zC0 n tp σ0) (h : zC σ0 a tk F c nm σ) (ha : a ≤ n) (htk : 0 ≤ tk ∧ tk ≤ 512) (hF : vN F) (hc : c ≤ 6) (hFc : F.1 + c ≤ 100) (hr : ∀ i : Int, 0 ≤ i → i < c → 0 ≤ nm i ∧ nm i ≤ 127) : kT (fTR_readLength σ) (fun z => zO (zLen tp n a tk) (fun e => zCF σ0 e z.2) (fun q => zC σ0 q.1 (tk + q.2) (zIn tk q.2 nm F c) c nm z.2)) := by
  have hT := h0.1
  have n700 := hT.1
  have r1 := zsk_r (tp := tp) ha
  have k1 := zch_r (a := a) hT
  unfold fTR_readLength fTR_readLength_J132
  rw [h.2.2.2.1.1]
  refine kT_eqt rfl (by omega) (kT_callE (P_next h0 h.1 h.2.1 ha) ?_)
  have h1 := h.at (zsk tp n a)
  generalize ks σ 1 6 (zsk tp n a : Nat) = M at h1 ⊢
  rw [h1.2.1]
  unfold zLen
  refine kT_eq (by omega) (by omega) (fun c1 => ?_) (fun c1 => ?_)
  · rw [if_neg (fun hh => hh c1)]
    have k2 := k1.2.2 (by omega)
    refine kT_wf ?_
    rw [show ((zsk tp n a : Nat) : Int) + 1 = ((zsk tp n a + 1 : Nat) : Int) by omega]
    have h2 := h1.at (zsk tp n a + 1)
    generalize ks M 1 6 ((zsk tp n a + 1 : Nat) : Int) = M2 at h2 ⊢
    have k3 := zch_r (a := zsk tp n a + 1) hT
    have r2 := zsk_r (tp := tp) (n := n) (a := zsk tp n a + 1) (by omega)
    refine kT_callE (P_next h0 h2.1 h2.2.1 (by omega)) ?_
    have h3 := h2.at (zsk tp n (zsk tp n a + 1))
    rw [show zsk tp n (zsk tp n a + 1) = zs1 tp n a from rfl] at h3 r2 k3 ⊢
    generalize ks M2 1 6 (zs1 tp n a : Nat) = M3 at h3 ⊢
    refine kT_callE (P_isDigit (by unfold i32; omega) M3) ?_
    by_cases c2 : zD (zch tp n (zsk tp n a + 1))
    · rw [if_pos c2, if_neg (fun hh => hh c2), h3.2.1]
      have k4 := k3.2.2 (by omega)
      have r3 := zde_r (tp := tp) (n := n) (a := zs1 tp n a) r2.2
      have r4 := zde_d (tp := tp) (n := n) (s := zs1 tp n a) k4.1 (by rw [k4.2]; exact c2)
      have h4 := h3.at (zde tp n (zs1 tp n a))
      refine kT_eqf (by omega) (by omega) (by omega) (kT_let (kT_callT (P_readNumber h0 h3.1 h3.2.1 r2.2) (fun r τ hz => ?_)))
      obtain ⟨z1, z2, z3, z4⟩ := hz
      dsimp only at z1 z2 z3 z4
      rw [← z1] at h4
      rw [h4.2.1]
      have bad : kT (fTR_readLength_J87 ((zs1 tp n a : Nat) : Int) τ) (fun z => zCF σ0 (2, (zs1 tp n a : Int)) z.2) := by
        unfold fTR_readLength_J87 fTR_readLength_J132
        refine kT_callE (P_fail h4.2.2.2.1.1 2 _) (kT_ri ?_)
        exact zCF_i h4.1 (by omega) (by omega)
      refine kT_lt (by omega) (by omega) (fun c3 => ?_) (fun c3 => ?_)
      · rw [if_pos (by omega)]
        exact bad
      · rw [if_neg (by omega)]
        have ev : r = zval tp (zs1 tp n a) (zde tp n (zs1 tp n a)) := by
          unfold zval
          by_cases e : zde tp n (zs1 tp n a) = zs1 tp n a + 1
          · rw [if_pos e]; exact z3 e
          · rw [if_neg e]; exact z4 (by omega)
        rw [← ev]
        refine kT_callE (P_outOf (by omega) (by omega) (by omega) τ) ?_
        by_cases c4 : r < 1 ∨ 64 < r
        · rw [if_pos c4, if_pos c4]
          exact kT_eqf (by omega) (by omega) (by omega) bad
        rw [if_neg c4, if_neg c4, h4.2.2.1]
        refine kT_eqt rfl (by omega) (kT_lt (by omega) (by omega) (fun c5 => ?_) (fun c5 => ?_))
        · rw [if_pos c5]
          refine kT_callE (P_fail h4.2.2.2.1.1 4 _) (kT_ri ?_)
          exact zCF_i h4.1 (by omega) (by omega)
        · rw [if_neg (by omega)]
          refine kT_callT (C_soundNamed (v := r) h4 hF hc hFc (fun j a d => ?_)) (fun r9 τ2 hz => ?_)
          · have := hr j a d
            unfold okV
            omega
          · dsimp only at hz
            obtain ⟨g1, g2, g3, g4, g5, g6, g7⟩ := hz
            rw [g3]
            refine kT_wf (kT_ri ⟨g1.putf rfl, ?_, by dsimp only; exact ks_s _ _ _ _, ⟨?_, ?_⟩, g5, ?_, g7⟩)
            · dsimp only
              rw [ks_i (by decide)]; exact g2
            · dsimp only
              rw [ks_i (by decide)]; exact g4.1
            · dsimp only
              rw [ks_i (by decide)]; exact g4.2
            · dsimp only
              rw [ks_i (by decide)]; exact g6
    · rw [if_neg c2, if_pos c2, h3.2.1]
      refine kT_eqt rfl (by omega) (kT_callE (P_fail h3.2.2.2.1.1 1 _) (kT_ri ?_))
      exact zCF_i h3.1 (by omega) (by omega)
  · rw [if_pos c1]
    refine kT_callE (P_fail h1.2.2.2.1.1 1 _) (kT_ri ?_)
    exact zCF_i h1.1 (by omega) (by omega)
theorem C_readNames {n a : Nat} {tp : Int → Int} {σ0 σ : KM} {tk : Int} {F : NL} {nm : Int → Int} (h0 : zC0 n tp σ0) (h : zC σ0 a tk F 0 nm σ) (ha : a ≤ n) (hF : F.1 ≤ 100) : kT (fTR_readNames σ) (fun z => zO (zChord tp n F.1 7 a 0 nm) (fun e => zCF σ0 e z.2) (fun q => zC σ0 q.1 tk F q.2.1 q.2.2 z.2)) := by
  have hT := h0.1
  have n700 := hT.1
  unfold fTR_readNames fTR_readNames_L2
  refine kT_for (fun i s => ∃ M : KM, s = ((i : Int), M) ∧ ((∃ (a' : Nat) (nm' : Int → Int), i ≤ 6 ∧ F.1 + i ≤ 100 ∧ a' ≤ n ∧ zC σ0 a' tk F i nm' M ∧ (∀ j : Int, 0 ≤ j → j < i → 0 ≤ nm' j ∧ nm' j ≤ 127) ∧ zChord tp n F.1 7 a 0 nm = zChord tp n F.1 (7 - i) a' i nm') ∨ ∃ e, zCF σ0 e M ∧ zChord tp n F.1 7 a 0 nm = .inl e)) 7 ?_ ?_ 0 (by omega) kF _ ⟨σ, rfl, Or.inl ⟨a, nm, by omega, by omega, ha, h, fun j a c => by omega, rfl⟩⟩ (kF_lt (by omega))
  · rintro i s hi ⟨M, rfl, hM⟩
    show kT (fTR_readNames_B2 i M) _
    unfold fTR_readNames_B2 fTR_readNames_J54
    rcases hM with ⟨a', nm', hi6, hFi, ha', hM, hr, he⟩ | ⟨e, hM, he⟩
    · have r1 := zsk_r (tp := tp) ha'
      have k1 := zch_r (a := a') hT
      have e7 : zChord tp n F.1 (7 - i) a' i nm' = if zch tp n a' = 41 ∧ 0 < i then .inr (zsk tp n a' + 1, i, nm') else match zName tp n a' i F.1 nm' with
          | .inl e => .inl e
          | .inr q => zChord tp n F.1 (7 - (i + 1)) q.1 (i + 1) (zup nm' i q.2) := by
        rw [show 7 - i = (7 - (i + 1)) + 1 by omega, zChord]
        rfl
      rw [hM.2.2.2.1.1]
      refine kT_ltf (by omega) (by omega) (kT_eqt rfl (by omega) (kT_callE (P_next h0 hM.1 hM.2.1 ha') ?_))
      have h1 := hM.at (zsk tp n a')
      generalize ks M 1 6 (zsk tp n a' : Nat) = M1 at h1 ⊢
      have go : ¬ (zch tp n a' = 41 ∧ 0 < i) → kT (fTR_readNames_J44 i M1) (kS (fun s => ∃ M : KM, s = (((i + 1 : Nat) : Int), M) ∧ ((∃ (a' : Nat) (nm' : Int → Int), i + 1 ≤ 6 ∧ F.1 + (i + 1) ≤ 100 ∧ a' ≤ n ∧ zC σ0 a' tk F (i + 1) nm' M ∧ (∀ j : Int, 0 ≤ j → j < ((i + 1 : Nat) : Int) → 0 ≤ nm' j ∧ nm' j ≤ 127) ∧ zChord tp n F.1 7 a 0 nm = zChord tp n F.1 (7 - (i + 1)) a' (i + 1) nm') ∨ ∃ e, zCF σ0 e M ∧ zChord tp n F.1 7 a 0 nm = .inl e)) (fun z => zO (zChord tp n F.1 7 a 0 nm) (fun e => zCF σ0 e z.2) (fun q => zC σ0 q.1 tk F q.2.1 q.2.2 z.2))) := by
        intro hn
        rw [if_neg hn] at e7
        unfold fTR_readNames_J44
        refine kT_callT (C_readName h0 h1 (by omega) hi6 hFi hr) (fun r τ hz => ?_)
        dsimp only at hz
        have ez : zName tp n (zsk tp n a') i F.1 nm' = zName tp n a' i F.1 nm' := by
          unfold zName zpi zac za2 zy
          rw [zch_sk ha', zsk_sk ha']
        rw [ez] at hz
        cases hq : zName tp n a' i F.1 nm' with
        | inl e =>
          rw [hq] at hz e7
          exact kT_let (kT_inl ⟨τ, rfl, Or.inr ⟨e, hz, by rw [he, e7]⟩⟩)
        | inr q =>
          rw [hq] at hz e7
          obtain ⟨q1, q2, q3, q4⟩ := zName_ok hT ha' hq
          refine kT_let (kT_inl ⟨τ, rfl, Or.inl ⟨q.1, zup nm' i q.2, by omega, by omega, q1.2, hz, fun j j0 j1 => ?_, by rw [he, e7]⟩⟩)
          unfold zup
          split
          · exact q2
          · exact hr j j0 (by omega)
      refine kT_eq (by omega) (by omega) (fun c1 => ?_) (fun c1 => go (fun hh => c1 hh.1))
      rw [h1.2.2.2.2.2.1]
      refine kT_lt (by omega) (by omega) (fun c2 => ?_) (fun c2 => go (fun hh => by omega))
      have k2 := k1.2.2 (by omega)
      unfold fTR_readNames_J33
      rw [h1.2.1, he, e7, if_pos ⟨c1, by omega⟩]
      refine kT_exit (kT_wf (kT_ri ?_))
      rw [show ((zsk tp n a' : Nat) : Int) + 1 = ((zsk tp n a' + 1 : Nat) : Int) by omega]
      exact h1.at (zsk tp n a' + 1)
    · have er := hM.2.2.2.1
      rw [hM.2.1]
      refine kT_ltf (by omega) (by omega) (kT_eqf (by omega) (by omega) (by omega) (kT_exit (kT_ri ?_)))
      rw [he]
      exact hM
  · rintro s ⟨M, rfl, hM⟩
    show kT (fTR_readNames_B2 7 M) _
    unfold fTR_readNames_B2 fTR_readNames_J54
    refine kT_ltt (by omega) (by omega) (kT_exit (kT_ri ?_))
    rcases hM with ⟨a', nm', hi6, _⟩ | ⟨e, hM, he⟩
    · omega
    · rw [he]
      exact hM
theorem zO_mono {α : Type} {o : zE ⊕ α} {A A' : zE → Prop} {B B' : α → Prop} (h : zO o A B) (ha : ∀ e, A e → A' e) (hb : ∀ q, B q → B' q) : zO o A' B' := by
  cases o with
  | inl e => exact ha e h
  | inr q => exact hb q h
theorem C_tail {n a c : Nat} {tp : Int → Int} {σ0 σ : KM} {tk : Int} {F : NL} {nm : Int → Int} (h0 : zC0 n tp σ0) (h : zC σ0 a tk F c nm σ) (ha : a ≤ n) (htk : 0 ≤ tk ∧ tk ≤ 512) (hF : vN F) (hc : c ≤ 6) (hFc : F.1 + c ≤ 100) (hr : ∀ i : Int, 0 ≤ i → i < c → 0 ≤ nm i ∧ nm i ≤ 127) : kT (fTR_readLength σ) (fun z => zO (zTail tp n a tk c nm) (fun e => zCF σ0 e z.2) (fun q => ∃ c' nm', zC σ0 q.1 q.2.1 (zIn tk q.2.2.2.2 q.2.2.2.1 F q.2.2.1) c' nm' z.2)) := by
  refine (C_readLength h0 h ha htk hF hc hFc hr).mono (fun z hz => ?_)
  unfold zTail
  cases hq : zLen tp n a tk with
  | inl e => rw [hq] at hz; exact hz
  | inr q => rw [hq] at hz; exact ⟨c, nm, hz⟩
theorem skipL {σ0 : KM} {e : zE} {σ : KM} (h : zCF σ0 e σ) : fTR_readLength σ = some (0, σ) := by
  refine kT.eq ?_
  have := h.2.2.2.1
  unfold fTR_readLength
  rw [h.2.1]
  exact kT_eqf (by omega) (by omega) (by omega) (kT_ri rfl)
def zB (σ0 : KM) (a : Nat) (tk : Int) (F : NL) (σ : KM) : Prop := kFr pW σ0 σ ∧ σ 1 6 = a ∧ σ 1 7 = tk ∧ (σ 1 3 = 0 ∧ σ 1 4 = -1) ∧ fNt F σ
theorem C_readPart {n a : Nat} {tp : Int → Int} {σ0 σ : KM} {tk : Int} {F : NL} (h0 : zC0 n tp σ0) (h : zB σ0 a tk F σ) (ha : a ≤ n) (htk : 0 ≤ tk ∧ tk ≤ 512) (hF : vN F) : kT (fTR_readPart σ) (fun z => zO (zPart tp n a tk F.1) (fun e => zCF σ0 e z.2) (fun q => ∃ c' nm', zC σ0 q.1 q.2.1 (zIn tk q.2.2.2.2 q.2.2.2.1 F q.2.2.1) c' nm' z.2)) := by
  have hT := h0.1
  have n700 := hT.1
  have n100 := hF.1
  have r1 := zsk_r (tp := tp) ha
  have k1 := zch_r (a := a) hT
  unfold fTR_readPart fTR_readPart_J106
  refine kT_callE (P_next h0 h.1 h.2.1 ha) (kT_wf ?_)
  have h1 : zC σ0 (zsk tp n a) tk F 0 z0 (ks (ks σ 1 6 (zsk tp n a : Nat)) 1 9 0) := by
    obtain ⟨g1, g2, g3, g4, g5⟩ := h
    refine ⟨(g1.putf rfl).putf rfl, ?_, ?_, ⟨?_, ?_⟩, g5, ks_s _ _ _ _, fun i i0 i1 => by omega⟩
    · rw [ks_i (by decide), ks_s]
    · rw [ks_i (by decide), ks_i (by decide)]; exact g3
    · rw [ks_i (by decide), ks_i (by decide)]; exact g4.1
    · rw [ks_i (by decide), ks_i (by decide)]; exact g4.2
  generalize ks (ks σ 1 6 (zsk tp n a : Nat)) 1 9 0 = M at h1 ⊢
  have h2 := h1.at (zsk tp n a + 1)
  have e2 : ks M 1 6 ((zsk tp n a + 1 : Nat) : Int) = ks M 1 6 (M 1 6 + 1) := by rw [h1.2.1, show ((zsk tp n a : Nat) : Int) + 1 = ((zsk tp n a + 1 : Nat) : Int) by omega]
  rw [e2] at h2
  unfold zPart
  refine kT_eq (by omega) (by omega) (fun c1 => ?_) (fun c1 => ?_)
  · rw [if_pos c1]
    exact kT_wf (kT_ri ⟨0, z0, h2⟩)
  rw [if_neg c1]
  refine kT_eq (by omega) (by omega) (fun c2 => ?_) (fun c2 => ?_)
  · rw [if_pos c2]
    have k2 := k1.2.2 (by omega)
    refine kT_wf (kT_callT (C_tail h0 h2 (by omega) htk hF (by omega) (by omega) (fun i i0 i1 => by omega)) (fun r τ hz => kT_ri hz))
  rw [if_neg c2]
  refine kT_eq (by omega) (by omega) (fun c3 => ?_) (fun c3 => ?_)
  · rw [if_pos c3]
    have k2 := k1.2.2 (by omega)
    refine kT_wf (kT_callT (C_readNames h0 h2 (by omega) n100) (fun r τ hz => ?_))
    dsimp only at hz
    cases hq : zChord tp n F.1 7 (zsk tp n a + 1) 0 z0 with
    | inl e =>
      rw [hq] at hz
      exact kT_callE (skipL hz) (kT_ri hz)
    | inr q =>
      rw [hq] at hz
      obtain ⟨q1, q2, q3⟩ := zChord_ok hT 7 (zsk tp n a + 1) 0 z0 (by omega) (by omega) (by omega) (fun i i0 i1 => by omega) q hq
      exact kT_callT (C_tail h0 hz q1.2 htk hF q2.2 q2.1 q3) (fun r τ2 hz => kT_ri hz)
  rw [if_neg c3]
  refine kT_callE (P_isLetter (by unfold i32; omega) M) ?_
  by_cases c4 : zL (zch tp n a)
  · rw [if_pos c4]
    refine kT_eqf (by omega) (by omega) (by omega) (kT_callT (C_readName h0 h1 r1.2 (by omega) (by omega) (fun i i0 i1 => by omega)) (fun r τ hz => ?_))
    dsimp only at hz
    have ez : zName tp n (zsk tp n a) 0 F.1 z0 = zName tp n a 0 F.1 z0 := by
      unfold zName zpi zac za2 zy
      rw [zch_sk ha, zsk_sk ha]
    rw [ez] at hz
    cases hq : zName tp n a 0 F.1 z0 with
    | inl e =>
      rw [hq] at hz
      exact kT_callE (skipL hz) (kT_ri hz)
    | inr q =>
      rw [hq] at hz
      obtain ⟨q1, q2, q3, q4⟩ := zName_ok hT ha hq
      refine kT_callT (C_tail h0 hz q1.2 htk hF (by omega) (by omega) (fun i i0 i1 => ?_)) (fun r τ2 hz => kT_ri hz)
      unfold zup
      rw [if_pos (show i = ((0 : Nat) : Int) by omega)]
      exact q2
  · rw [if_neg c4]
    have e : zName tp n a 0 F.1 z0 = .inl (1, (zsk tp n a : Int)) := by
      unfold zName
      rw [if_pos c4]
    rw [e, h1.2.1]
    refine kT_eqt rfl (by omega) (kT_callE (P_fail h1.2.2.2.1.1 1 _) (kT_ri ?_))
    exact zCF_i h1.1 (by omega) (by omega)
