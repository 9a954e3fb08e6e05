/-! ===== the reference reads a text ===== -/
abbrev mW : List (Nat × Option Int) := [(10, some 8), (10, some 22), (10, some 23), (10, some 24), (10, some 25), (48, none), (49, none), (50, none)]
def zM0 (n : Nat) (tp : Int → Int) (τ0 : KM) : Prop := zT n tp ∧ τ0 10 21 = n ∧ ∀ i : Int, 0 ≤ i → i < n → τ0 54 i = sbv (tp i)
def zMg (τ0 : KM) (a : Nat) (tk : Int) (R : NL) (c : Nat) (nm : Int → Int) (w wa : Int) (τ : KM) : Prop := kFr mW τ0 τ ∧ τ 10 22 = a ∧ τ 10 25 = tk ∧ (τ 10 23 = w ∧ τ 10 24 = wa) ∧ τ 10 8 = (R.1 : Int) + c ∧ (∀ i : Int, 0 ≤ i → i < R.1 → τ 48 i = R.2.1 i ∧ τ 49 i = R.2.2.1 i ∧ τ 50 i = R.2.2.2 i) ∧ ∀ i : Int, 0 ≤ i → i < c → τ 48 ((R.1 : Int) + i) = tk ∧ τ 50 ((R.1 : Int) + i) = nm i
abbrev zM (τ0 : KM) (a : Nat) (tk : Int) (R : NL) (c : Nat) (nm : Int → Int) (τ : KM) : Prop := zMg τ0 a tk R c nm 0 (-1) τ
def zMF (τ0 : KM) (e : zE) (τ : KM) : Prop := kFr mW τ0 τ ∧ τ 10 23 = e.1 ∧ τ 10 24 = e.2 ∧ (1 ≤ e.1 ∧ e.1 ≤ 4)
theorem zMg.at {τ0 τ : KM} {a : Nat} {tk : Int} {R : NL} {c : Nat} {nm : Int → Int} {w wa : Int} (h : zMg τ0 a tk R c nm w wa τ) (a' : Nat) : zMg τ0 a' tk R c nm w wa (ks τ 10 22 a') := by
  obtain ⟨h1, h2, h3, h4, h5, h6, h7⟩ := h
  refine ⟨h1.putf rfl, ks_s _ _ _ _, ?_, ⟨?_, ?_⟩, ?_, h6, h7⟩
  · rw [ks_i (by decide)]; exact h3
  · rw [ks_i (by decide)]; exact h4.1
  · rw [ks_i (by decide)]; exact h4.2
  · rw [ks_i (by decide)]; exact h5
theorem sbv_m {v : Int} (h : 0 ≤ v ∧ v < 256) : sbv v % (255 + 1) = v := by
  unfold sbv
  split <;> omega
theorem sbv_r {v : Int} (h : 0 ≤ v ∧ v < 256) : -128 ≤ sbv v ∧ sbv v < 128 ∧ (v < 128 → sbv v = v) ∧ (128 ≤ v → sbv v < 0) := by
  unfold sbv
  split <;> omega
theorem M_peek {n a : Nat} {tp : Int → Int} {τ0 τ : KM} (h0 : zM0 n tp τ0) (hf : kFr mW τ0 τ) (h22 : τ 10 22 = a) (ha : a ≤ n) : fM_peek τ = some (zch tp n a, ks τ 10 22 (zsk tp n a : Nat)) := by
  refine kT.eq ?_
  have hT := h0.1
  have n700 := hT.1
  unfold fM_peek fM_peek_L0
  refine kT_iter (fun k s => ∃ a' : Nat, s = ks τ 10 22 (a' : Nat) ∧ k = n - a' ∧ a' ≤ n ∧ zsk tp n a' = zsk tp n a) ?_ kF (n - a) τ ⟨a, (ks_id h22).symm, rfl, ha, rfl⟩ (kF_lt (by omega))
  rintro k s ⟨a', rfl, rfl, ha', hs⟩
  have e5 : ks τ 10 22 (a' : Nat) 10 21 = n := by rw [ks_i (by decide), hf.slot rfl]; exact h0.2.1
  have e6 : ks τ 10 22 (a' : Nat) 10 22 = a' := ks_s _ _ _ _
  have e54 : ks τ 10 22 (a' : Nat) 54 = τ0 54 := by show τ 54 = τ0 54; exact hf.cell rfl
  show kT (fM_peek_B0 (ks τ 10 22 (a' : Nat))) _
  unfold fM_peek_B0 fM_peek_J38 fM_peek_J66
  rw [e5, e6]
  refine kT_lt (by omega) (by omega) (fun c => ?_) (fun c => ?_)
  · have t := hT.2 a' (by omega) (by omega)
    have e := h0.2.2 a' (by omega) (by omega)
    have sr := sbv_r t
    refine kT_rd (by omega) ?_
    rw [e54, e]
    refine kT_eq (by omega) (by omega) (fun d => ?_) (fun d => ?_)
    · refine kT_wf (kT_inl ⟨n - (a' + 1), by omega, a' + 1, ?_, rfl, by omega, ?_⟩)
      · rw [ks_ks, show (a' : Int) + 1 = ((a' + 1 : Nat) : Int) by omega]
      · rw [← hs]
        unfold zsk
        exact (zru_y (by omega) (by unfold zBl; exact decide_eq_true (by omega))).symm
    · have es : zsk tp n a' = a' := zru_n (Or.inr (by unfold zBl; exact decide_eq_false (by omega)))
      refine kT_exit (kT_ltt (by omega) (by omega) (kT_rd (by omega) (kT_and (by omega) (kT_ri ?_))))
      rw [e54, e, sbv_m t, ← hs, es]
      unfold zch
      rw [← hs, es, if_pos (by omega)]
  · have es : zsk tp n a' = a' := zru_n (Or.inl (by omega))
    refine kT_exit (kT_ltf (by omega) (by omega) (kT_ri ?_))
    rw [← hs, es]
    unfold zch
    rw [← hs, es, if_neg (by omega)]
theorem M_fails {τ : KM} (h : τ 10 23 = 0) (x y : Int) : fM_fails x y τ = some (0, ks (ks τ 10 23 x) 10 24 y) := by
  refine kT.eq ?_
  unfold fM_fails
  rw [h]
  exact kT_eqt rfl (by omega) (kT_wf (kT_wf (kT_ri rfl)))
theorem M_failsN {τ : KM} {w : Int} (h : τ 10 23 = w) (hw : 1 ≤ w ∧ w ≤ 4) (x y : Int) : fM_fails x y τ = some (0, τ) := by
  refine kT.eq ?_
  unfold fM_fails
  rw [h]
  exact kT_eqf (by omega) (by omega) (by omega) (kT_ri rfl)
theorem zMF_i {τ0 τ : KM} (hf : kFr mW τ0 τ) {x y : Int} (hx : 1 ≤ x ∧ x ≤ 4) : zMF τ0 (x, y) (ks (ks τ 10 23 x) 10 24 y) := by
  refine ⟨(hf.putf rfl).putf rfl, ?_, ks_s _ _ _ _, hx⟩
  rw [ks_i (by decide), ks_s]
theorem zMF.at {τ0 τ : KM} {e : zE} (h : zMF τ0 e τ) (v : Int) : zMF τ0 e (ks τ 10 22 v) := by
  refine ⟨h.1.putf rfl, ?_, ?_, h.2.2.2⟩
  · rw [ks_i (by decide)]; exact h.2.1
  · rw [ks_i (by decide)]; exact h.2.2.1
theorem M_isLetter {n a : Nat} {tp : Int → Int} {τ0 τ : KM} (h0 : zM0 n tp τ0) (hf : kFr mW τ0 τ) (h22 : τ 10 22 = a) (ha : a ≤ n) : fM_isLetter τ = some (if zL (zch tp n a) then 1 else 0, ks τ 10 22 (zsk tp n a : Nat)) := by
  refine kT.eq ?_
  have k1 := zch_r (a := a) h0.1
  unfold fM_isLetter
  refine kT_callE (M_peek h0 hf h22 ha) (kT_ck (by omega) (kT_callE (M_isIn (by omega) (by omega) (by omega) _) ?_))
  by_cases c : zL (zch tp n a)
  · rw [if_pos c, if_neg (by omega)]
    exact kT_rz (by omega) rfl
  · rw [if_neg c, if_pos (by omega)]
    exact kT_rz (by omega) rfl
/-- what must stand there -/
theorem M_must {n a : Nat} {tp : Int → Int} {τ0 τ : KM} (h0 : zM0 n tp τ0) (hf : kFr mW τ0 τ) (h22 : τ 10 22 = a) (h23 : τ 10 23 = 0) (ha : a ≤ n) {x : Int} (hx : 0 ≤ x ∧ x < 256) : fM_must x τ = some (0, if zch tp n a = x then ks τ 10 22 ((zsk tp n a + 1 : Nat) : Int) else ks (ks (ks (ks τ 10 22 (zsk tp n a : Nat)) 10 23 1) 10 24 (zsk tp n a : Nat)) 10 22 ((zsk tp n a + 1 : Nat) : Int)) := by
  refine kT.eq ?_
  have k1 := zch_r (a := a) h0.1
  unfold fM_must fM_must_J24
  rw [h23]
  refine kT_eqt rfl (by omega) (kT_callE (M_peek h0 hf h22 ha) ?_)
  rw [ks_s]
  refine kT_eq (by omega) (by omega) (fun c => ?_) (fun c => ?_)
  · rw [if_pos c]
    refine kT_wf (kT_ri ?_)
    rw [ks_ks, show ((zsk tp n a : Nat) : Int) + 1 = ((zsk tp n a + 1 : Nat) : Int) by omega]
  · rw [if_neg c]
    refine kT_callE (M_fails (by rw [ks_i (by decide)]; exact h23) 1 _) (kT_wf (kT_ri ?_))
    rw [ks_i (by decide), ks_i (by decide), ks_s, show ((zsk tp n a : Nat) : Int) + 1 = ((zsk tp n a + 1 : Nat) : Int) by omega]
theorem M_mustN {τ0 τ : KM} {e : zE} (h : zMF τ0 e τ) (x : Int) : kT (fM_must x τ) (fun z => zMF τ0 e z.2) := by
  have := h.2.2.2
  unfold fM_must fM_must_J24
  rw [h.2.1]
  exact kT_eqf (by omega) (by omega) (by omega) (kT_wf (kT_ri (h.at _)))
theorem M_stepOf {x : Int} (h : zL x) (σ : KM) : fM_stepOf x σ = some (zst x, σ) := by
  rcases (show x = 97 ∨ x = 98 ∨ x = 99 ∨ x = 100 ∨ x = 101 ∨ x = 102 ∨ x = 103 by omega) with rfl | rfl | rfl | rfl | rfl | rfl | rfl <;> rfl
/-- the end of a name: is it told already, and it is noted -/
theorem M_noteIt {a : Nat} {τ0 τ : KM} {tk : Int} {R : NL} {c : Nat} {nm : Int → Int} {w wa : Int} (h : zMg τ0 a tk R c nm w wa τ) (hw : w = 0 ∧ wa = -1 ∨ w = 3) (hc : c ≤ 6) (hR : R.1 + c < 100) (hr : ∀ i : Int, 0 ≤ i → i < c → 0 ≤ nm i ∧ nm i ≤ 127) {p pl : Int} (hp : i32 p) (hpl : w = 3 → wa = pl) : kT (fM_nameRead_J207 (R.1 : Int) pl p τ) (fun z => (w = 0 ∧ zNm nm p c = false → zM τ0 a tk R (c + 1) (zup nm c p) z.2) ∧ (¬ (w = 0 ∧ zNm nm p c = false) → zMF τ0 (3, pl) z.2)) := by
  unfold i32 at hp
  unfold fM_nameRead_J207 fM_nameRead_L210
  refine kT_for (fun i s => ∃ T : KM, s = ((R.1 : Int) + i, T) ∧ ((w = 0 ∧ zNm nm p i = false ∧ zM τ0 a tk R c nm T) ∨ (¬ (w = 0 ∧ zNm nm p i = false) ∧ zMg τ0 a tk R c nm 3 pl T))) c ?_ ?_ 0 (by omega) kF _ ⟨τ, by simp, ?_⟩ (kF_lt (by omega))
  · rintro i s hi ⟨T, rfl, hT⟩
    have r := hr i (by omega) (by omega)
    show kT (fM_nameRead_B210 pl p ((R.1 : Int) + i) T) _
    unfold fM_nameRead_B210 fM_nameRead_J236
    have nx : ∀ T : KM, ((w = 0 ∧ zNm nm p (i + 1) = false ∧ zM τ0 a tk R c nm T) ∨ (¬ (w = 0 ∧ zNm nm p (i + 1) = false) ∧ zMg τ0 a tk R c nm 3 pl T)) → kT (kLet ((R.1 : Int) + i + 1) fun y1 => some (Sum.inl (y1, T))) (kS (fun s => ∃ T : KM, s = ((R.1 : Int) + ((i + 1 : Nat) : Int), T) ∧ ((w = 0 ∧ zNm nm p (i + 1) = false ∧ zM τ0 a tk R c nm T) ∨ (¬ (w = 0 ∧ zNm nm p (i + 1) = false) ∧ zMg τ0 a tk R c nm 3 pl T))) (fun z : Int × KM => (w = 0 ∧ zNm nm p c = false → zM τ0 a tk R (c + 1) (zup nm c p) z.2) ∧ (¬ (w = 0 ∧ zNm nm p c = false) → zMF τ0 (3, pl) z.2))) := by
      intro T hT
      exact kT_let (kT_inl ⟨T, Prod.ext (show (R.1 : Int) + i + 1 = (R.1 : Int) + ((i + 1 : Nat) : Int) by omega) rfl, hT⟩)
    have e1 : ∀ d : Prop, Decidable d → True := fun _ _ => trivial
    rcases hT with ⟨w0, n0, hT⟩ | ⟨nn, hT⟩
    · rw [hT.2.2.2.2.1]
      refine kT_ltt (by omega) (by omega) (kT_rd (by omega) ?_)
      rw [(hT.2.2.2.2.2.2 i (by omega) (by omega)).2]
      refine kT_eq (by omega) (by omega) (fun d => ?_) (fun d => ?_)
      · refine kT_callE (M_fails hT.2.2.2.1.1 3 pl) (nx _ (Or.inr ⟨?_, ?_⟩))
        · rw [zNm, decide_eq_true d, Bool.or_true]
          intro hh
          exact absurd hh.2 (by simp)
        · obtain ⟨g1, g2, g3, g4, g5, g6, g7⟩ := hT
          refine ⟨(g1.putf rfl).putf rfl, ?_, ?_, ⟨?_, ks_s _ _ _ _⟩, ?_, g6, g7⟩
          · rw [ks_i (by decide), ks_i (by decide)]; exact g2
          · rw [ks_i (by decide), ks_i (by decide)]; exact g3
          · rw [ks_i (by decide), ks_s]
          · rw [ks_i (by decide), ks_i (by decide)]; exact g5
      · refine nx T (Or.inl ⟨w0, ?_, hT⟩)
        rw [zNm, n0, decide_eq_false d]
        rfl
    · have nn2 : ¬ (w = 0 ∧ zNm nm p (i + 1) = false) := fun hh => nn ⟨hh.1, by
        have := hh.2
        rw [zNm, Bool.or_eq_false_iff] at this
        exact this.1⟩
      rw [hT.2.2.2.2.1]
      refine kT_ltt (by omega) (by omega) (kT_rd (by omega) ?_)
      rw [(hT.2.2.2.2.2.2 i (by omega) (by omega)).2]
      refine kT_eq (by omega) (by omega) (fun d => ?_) (fun d => ?_)
      · exact kT_callE (M_failsN hT.2.2.2.1.1 (by omega) 3 pl) (nx _ (Or.inr ⟨nn2, hT⟩))
      · exact nx T (Or.inr ⟨nn2, hT⟩)
  · rintro s ⟨T, rfl, hT⟩
    show kT (fM_nameRead_B210 pl p ((R.1 : Int) + c) T) _
    unfold fM_nameRead_B210 fM_nameRead_J242
    have e8 : T 10 8 = (R.1 : Int) + c := by
      rcases hT with ⟨_, _, hT⟩ | ⟨_, hT⟩
      · exact hT.2.2.2.2.1
      · exact hT.2.2.2.2.1
    have e25 : T 10 25 = tk := by
      rcases hT with ⟨_, _, hT⟩ | ⟨_, hT⟩
      · exact hT.2.2.1
      · exact hT.2.2.1
    rw [e8]
    refine kT_ltf (by omega) (by omega) (kT_exit (kT_wr (by omega) ?_))
    have f8 : ks T 50 ((R.1 : Int) + c) p 10 8 = (R.1 : Int) + c := e8
    have f25 : ks T 50 ((R.1 : Int) + c) p 10 25 = tk := e25
    rw [f8, f25]
    refine kT_wr (by omega) (kT_wf (kT_ri ⟨fun hh => ?_, fun hh => ?_⟩))
    · rcases hT with ⟨_, _, hT⟩ | ⟨nn, _⟩
      · obtain ⟨g1, g2, g3, g4, g5, g6, g7⟩ := hT
        refine ⟨((g1.put rfl).put rfl).putf rfl, ?_, ?_, ⟨?_, ?_⟩, ?_, fun i i0 i1 => ?_, fun i i0 i1 => ?_⟩
        · dsimp only
          rw [ks_i (by decide), ks_c (by decide), ks_c (by decide)]; exact g2
        · dsimp only
          rw [ks_i (by decide), ks_c (by decide), ks_c (by decide)]; exact g3
        · dsimp only
          rw [ks_i (by decide), ks_c (by decide), ks_c (by decide)]; exact g4.1
        · dsimp only
          rw [ks_i (by decide), ks_c (by decide), ks_c (by decide)]; exact g4.2
        · dsimp only
          rw [ks_s, ks_c (by decide), ks_c (by decide), e8]; omega
        · show ks T 48 ((R.1 : Int) + c) tk 48 i = _ ∧ T 49 i = _ ∧ ks T 50 ((R.1 : Int) + c) p 50 i = _
          rw [ks_i (by omega), ks_i (by omega)]
          exact g6 i i0 i1
        · show ks T 48 ((R.1 : Int) + c) tk 48 ((R.1 : Int) + i) = _ ∧ ks T 50 ((R.1 : Int) + c) p 50 ((R.1 : Int) + i) = zup nm c p i
          unfold zup
          by_cases e : i = (c : Int)
          · rw [e, ks_s, ks_s, if_pos rfl]
            exact ⟨rfl, rfl⟩
          · rw [ks_i (by omega), ks_i (by omega), if_neg e]
            exact g7 i i0 (by omega)
      · exact absurd hh nn
    · rcases hT with ⟨w0, n0, _⟩ | ⟨_, hT⟩
      · exact absurd ⟨w0, n0⟩ hh
      · obtain ⟨g1, g2, g3, g4, g5, g6, g7⟩ := hT
        refine ⟨((g1.put rfl).put rfl).putf rfl, ?_, ?_, by omega⟩
        · dsimp only
          rw [ks_i (by decide), ks_c (by decide), ks_c (by decide)]; exact g4.1
        · dsimp only
          rw [ks_i (by decide), ks_c (by decide), ks_c (by decide)]; exact g4.2
  · rcases hw with ⟨rfl, rfl⟩ | rfl
    · exact Or.inl ⟨rfl, rfl, h⟩
    · refine Or.inr ⟨fun hh => by omega, ?_⟩
      rw [hpl rfl] at h
      exact h
theorem M_nameRead {n a c : Nat} {tp : Int → Int} {τ0 τ : KM} {tk : Int} {R : NL} {nm : Int → Int} (h0 : zM0 n tp τ0) (h : zM τ0 a tk R c nm τ) (ha : a ≤ n) (hc : c ≤ 6) (hR : R.1 + c ≤ 100) (hr : ∀ i : Int, 0 ≤ i → i < c → 0 ≤ nm i ∧ nm i ≤ 127) : kT (fM_nameRead (R.1 : Int) τ) (fun z => zO (zName tp n a c R.1 nm) (fun e => zMF τ0 e z.2) (fun q => zM τ0 q.1 tk R (c + 1) (zup nm c q.2) z.2)) := by
  have hT := h0.1
  have n700 := hT.1
  have r1 := zsk_r (tp := tp) ha
  have k1 := zch_r (a := a) hT
  unfold fM_nameRead
  rw [h.2.2.2.1.1]
  refine kT_eqt rfl (by omega) (kT_callE (M_isLetter h0 h.1 h.2.1 ha) ?_)
  have h1 := h.at (zsk tp n a)
  generalize ks τ 10 22 (zsk tp n a : Nat) = M at h1 ⊢
  rw [h1.2.1]
  unfold zName
  by_cases c1 : zL (zch tp n a)
  · rw [if_pos c1, if_neg (fun hh => hh c1)]
    have k2 := k1.2.2 (by omega)
    refine kT_eqf (by omega) (by omega) (by omega) (kT_let ?_)
    rw [h1.2.2.2.2.1]
    have bad : (6 ≤ c ∨ 100 ≤ R.1 + c) → kT (fM_nameRead_J50 (R.1 : Int) ((zsk tp n a : Nat) : Int) M) (fun z => zO (if 6 ≤ c ∨ 100 ≤ R.1 + c then .inl (3, (zsk tp n a : Int)) else if ¬ zD (zch tp n (za2 tp n a)) then .inl (1, (zsk tp n (za2 tp n a) : Int)) else if (zpi tp n a < 0 ∨ 127 < zpi tp n a) ∨ zNm nm (zpi tp n a) c = true then .inl (3, (zsk tp n a : Int)) else .inr (zsk tp n (za2 tp n a) + 1, zpi tp n a)) (fun e => zMF τ0 e z.2) (fun q => zM τ0 q.1 tk R (c + 1) (zup nm c q.2) z.2)) := by
      intro hb
      rw [if_pos hb]
      unfold fM_nameRead_J50 fM_nameRead_J56
      refine kT_callE (M_fails h1.2.2.2.1.1 3 _) ?_
      rw [ks_i (by decide), ks_s]
      refine kT_eqf (by omega) (by omega) (by omega) (kT_ri ?_)
      exact zMF_i h1.1 (by omega)
    refine kT_eq (by omega) (by omega) (fun d1 => bad (by omega)) (fun d1 => ?_)
    refine kT_eq (by omega) (by omega) (fun d2 => bad (by omega)) (fun d2 => ?_)
    rw [if_neg (show ¬ (6 ≤ c ∨ 100 ≤ R.1 + c) by omega)]
    unfold fM_nameRead_J56
    rw [h1.2.2.2.1.1, h1.2.1]
    have e54 : M 54 = τ0 54 := h1.1.cell rfl
    have t1 := hT.2 (zsk tp n a) (by omega) (by omega)
    have v1 := h0.2.2 (zsk tp n a) (by omega) (by omega)
    have sr := sbv_r t1
    refine kT_eqt rfl (by omega) (kT_rd (by omega) ?_)
    rw [e54, v1, sr.2.2.1 (by omega), k2.2]
    refine kT_callE (M_stepOf c1 M) ?_
    rw [h1.2.1]
    refine kT_wf ?_
    rw [show ((zsk tp n a : Nat) : Int) + 1 = ((zsk tp n a + 1 : Nat) : Int) by omega]
    have h2 := h1.at (zsk tp n a + 1)
    generalize ks M 10 22 ((zsk tp n a + 1 : Nat) : Int) = M2 at h2 ⊢
    have ky := zch_r (a := zsk tp n a + 1) hT
    have eyy : zch tp n (zsk tp n a + 1) = zy tp n a := rfl
    refine kT_callE (M_peek h0 h2.1 h2.2.1 (by omega)) ?_
    have h3 := h2.at (zsk tp n (zsk tp n a + 1))
    have e3 : ks M2 10 22 ((zsk tp n (zsk tp n a + 1) : Nat) : Int) 10 22 = (zsk tp n (zsk tp n a + 1) : Nat) := ks_s _ _ _ _
    generalize ks M2 10 22 ((zsk tp n (zsk tp n a + 1) : Nat) : Int) = M3 at h3 e3 ⊢
    have r2 := za2_r (a := a) hT (by omega)
    have r3 := zsk_r (tp := tp) r2.2
    have k3 := zch_r (a := za2 tp n a) hT
    have s1 := zst_r (zch tp n a)
    have s2 : -1 ≤ zac tp n a ∧ zac tp n a ≤ 1 := by
      unfold zac
      split
      · omega
      · split <;> omega
    have main : ∀ M4 : KM, zM τ0 (za2 tp n a) tk R c nm M4 → kT (fM_nameRead_J132 (R.1 : Int) ((zsk tp n a : Nat) : Int) (zst (zch tp n a) + zac tp n a) M4) (fun z => zO (if ¬ zD (zch tp n (za2 tp n a)) then .inl (1, (zsk tp n (za2 tp n a) : Int)) else if (zpi tp n a < 0 ∨ 127 < zpi tp n a) ∨ zNm nm (zpi tp n a) c = true then .inl (3, (zsk tp n a : Int)) else .inr (zsk tp n (za2 tp n a) + 1, zpi tp n a)) (fun e => zMF τ0 e z.2) (fun q => zM τ0 q.1 tk R (c + 1) (zup nm c q.2) z.2)) := by
      intro M4 h4
      unfold fM_nameRead_J132
      refine kT_callE (M_peek h0 h4.1 h4.2.1 r2.2) ?_
      have h5 := h4.at (zsk tp n (za2 tp n a))
      generalize ks M4 10 22 ((zsk tp n (za2 tp n a) : Nat) : Int) = M5 at h5 ⊢
      refine kT_ck (by omega) (kT_callE (M_isIn (by omega) (by omega) (by omega) M5) ?_)
      by_cases c3 : zD (zch tp n (za2 tp n a))
      · rw [if_neg (show ¬ (zch tp n (za2 tp n a) < 48 ∨ 57 < zch tp n (za2 tp n a)) by omega), if_neg (fun hh => hh c3), h5.2.1]
        have k4 := k3.2.2 (by omega)
        have t5 := hT.2 (zsk tp n (za2 tp n a)) (by omega) (by omega)
        have v5 := h0.2.2 (zsk tp n (za2 tp n a)) (by omega) (by omega)
        have sr5 := sbv_r t5
        have e545 : M5 54 = τ0 54 := h5.1.cell rfl
        refine kT_eqf (by omega) (by omega) (by omega) (kT_rd (by omega) ?_)
        rw [e545, v5, sr5.2.2.1 (by omega), k4.2]
        refine kT_let (kT_wf ?_)
        rw [show ((zsk tp n (za2 tp n a) : Nat) : Int) + 1 = ((zsk tp n (za2 tp n a) + 1 : Nat) : Int) by omega]
        have h6 := h5.at (zsk tp n (za2 tp n a) + 1)
        generalize ks M5 10 22 ((zsk tp n (za2 tp n a) + 1 : Nat) : Int) = M6 at h6 ⊢
        have ep : zst (zch tp n a) + zac tp n a + 12 * (zch tp n (za2 tp n a) - 48 + 1) = zpi tp n a := rfl
        rw [ep]
        have pr : -100 ≤ zpi tp n a ∧ zpi tp n a ≤ 1000 := by rw [← ep]; omega
        refine kT_ck (by omega) (kT_callE (M_isIn (by omega) (by omega) (by omega) M6) ?_)
        by_cases c4 : zpi tp n a < 0 ∨ 127 < zpi tp n a
        · rw [if_pos c4, if_pos (Or.inl c4)]
          refine kT_eqt rfl (by omega) (kT_callE (M_fails h6.2.2.2.1.1 3 _) ?_)
          have h7 : zMg τ0 (zsk tp n (za2 tp n a) + 1) tk R c nm 3 (zsk tp n a : Nat) (ks (ks M6 10 23 3) 10 24 (zsk tp n a : Nat)) := by
            obtain ⟨g1, g2, g3, g4, g5, g6, g7⟩ := h6
            refine ⟨(g1.putf rfl).putf rfl, ?_, ?_, ⟨?_, ks_s _ _ _ _⟩, ?_, g6, g7⟩
            · rw [ks_i (by decide), ks_i (by decide)]; exact g2
            · rw [ks_i (by decide), ks_i (by decide)]; exact g3
            · rw [ks_i (by decide), ks_s]
            · rw [ks_i (by decide), ks_i (by decide)]; exact g5
          exact (M_noteIt h7 (Or.inr rfl) hc (by omega) hr (by unfold i32; omega) (fun _ => rfl)).mono (fun z hz => hz.2 (fun hh => by omega))
        · rw [if_neg c4]
          refine kT_eqf (by omega) (by omega) (by omega) ?_
          refine (M_noteIt h6 (Or.inl ⟨rfl, rfl⟩) hc (by omega) hr (p := zpi tp n a) (pl := ((zsk tp n a : Nat) : Int)) (by unfold i32; omega) (fun hh => by omega)).mono (fun z hz => ?_)
          by_cases c5 : zNm nm (zpi tp n a) c = true
          · rw [if_pos (Or.inr c5)]
            exact hz.2 (fun hh => by rw [c5] at hh; exact absurd hh.2 (by simp))
          · rw [if_neg (fun hh => hh.elim c4 c5)]
            exact hz.1 ⟨rfl, by simpa using c5⟩
      · rw [if_pos (show zch tp n (za2 tp n a) < 48 ∨ 57 < zch tp n (za2 tp n a) by omega), if_pos c3, h5.2.1]
        refine kT_eqt rfl (by omega) (kT_callE (M_fails h5.2.2.2.1.1 1 _) (kT_ri ?_))
        exact zMF_i h5.1 (by omega)
    have go : ∀ x, (zy tp n a = 35 ∨ zy tp n a = 33) → x = zac tp n a → kT (fM_nameRead_J120 (R.1 : Int) ((zsk tp n a : Nat) : Int) x (zst (zch tp n a)) M3) (fun z => zO (if ¬ zD (zch tp n (za2 tp n a)) then .inl (1, (zsk tp n (za2 tp n a) : Int)) else if (zpi tp n a < 0 ∨ 127 < zpi tp n a) ∨ zNm nm (zpi tp n a) c = true then .inl (3, (zsk tp n a : Int)) else .inr (zsk tp n (za2 tp n a) + 1, zpi tp n a)) (fun e => zMF τ0 e z.2) (fun q => zM τ0 q.1 tk R (c + 1) (zup nm c q.2) z.2)) := by
      rintro x hy rfl
      unfold fM_nameRead_J120
      rw [e3]
      have ea : ((zsk tp n (zsk tp n a + 1) : Nat) : Int) + 1 = (za2 tp n a : Nat) := by
        have : za2 tp n a = zsk tp n (zsk tp n a + 1) + 1 := by unfold za2; rw [if_pos hy]
        rw [this]; omega
      rw [ea]
      exact kT_let (kT_wf (main _ (h3.at (za2 tp n a))))
    refine kT_eq (by omega) (by omega) (fun d3 => ?_) (fun d3 => ?_)
    · unfold fM_nameRead_J107
      refine kT_eqt (by omega) (by omega) (go 1 (by omega) ?_)
      unfold zac
      rw [if_pos (by omega)]
    · refine kT_eq (by omega) (by omega) (fun d4 => ?_) (fun d4 => ?_)
      · unfold fM_nameRead_J107
        refine kT_eqf (by omega) (by omega) (by omega) (go (-1) (by omega) ?_)
        unfold zac
        rw [if_neg (by omega), if_pos (by omega)]
      · have ea : za2 tp n a = zsk tp n (zsk tp n a + 1) := by unfold za2; rw [if_neg (by omega)]
        have ez : zac tp n a = 0 := by unfold zac; rw [if_neg (by omega), if_neg (by omega)]
        have q := main M3 (by rw [ea]; exact h3)
        rw [ez, Int.add_zero] at q
        exact q
  · rw [if_neg c1, if_pos c1]
    refine kT_eqt rfl (by omega) (kT_callE (M_fails h1.2.2.2.1.1 1 _) (kT_ri ?_))
    exact zMF_i h1.1 (by omega)
