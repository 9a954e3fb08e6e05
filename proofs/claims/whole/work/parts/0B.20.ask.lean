/-! ===== what is asked of windows ===== -/
def i32 (x : Int) : Prop := -2147483648 ≤ x ∧ x < 2147483648
theorem kT_swi {Z : Type} {x lo : Int} {Fs : List (Option Z)} {E : Option Z} {Φ : Z → Prop} (hx : i32 x) (h : lo ≤ x ∧ x < lo + (Fs.length : Int)) (h1 : kT (Fs.getD (x - lo).toNat none) Φ) : kT (kSw x lo Fs E) Φ := by
  unfold kSw
  rw [if_pos (show kin x from hx), if_pos h]
  exact h1
theorem kT_swe {Z : Type} {x lo : Int} {Fs : List (Option Z)} {E : Option Z} {Φ : Z → Prop} (hx : i32 x) (h : ¬ (lo ≤ x ∧ x < lo + (Fs.length : Int))) (h1 : kT E Φ) : kT (kSw x lo Fs E) Φ := by
  unfold kSw
  rw [if_pos (show kin x from hx), if_neg h]
  exact h1
abbrev nW (b : KB) (w : Int) : Prop := w < 0 ∨ wnS b - 1 < w
abbrev nK (k : Int) : Prop := k < 0 ∨ 23 < k
def qTones (b : KB) (w t : Int) : Int := if nW b w then -2 else if t = -1 then tw b w else if t < 0 ∨ 11 < t then -3 else cw b w t
theorem C_tones {b : KB} {σ : KM} (hb : kB b) (h : CI b σ) {w t : Int} (hw : i32 w) (ht : i32 t) : kT (fP_tones w t σ) (fun z => z.1 = qTones b w t ∧ CI b z.2) := by
  have hwr := wnS_r hb
  unfold fP_tones fP_tones_J52 qTones
  refine kT_callT (C_noWindow hb h hw) (fun r τ hz => ?_)
  obtain ⟨hr, hC, hW⟩ := hz
  dsimp only at hr hC hW
  rw [hr]
  by_cases c : nW b w
  · rw [if_pos c, if_pos c]
    exact kT_eqf (by omega) (by omega) (by omega) (kT_ri ⟨rfl, hC⟩)
  · rw [if_neg c, if_neg c]
    have q := hW.2.2.1 w (by omega) (by omega)
    unfold i32 at ht
    refine kT_eqt rfl (by omega) (kT_eq (by omega) (by omega) (fun c2 => ?_) (fun c2 => ?_))
    · rw [if_pos c2]
      exact kT_rd (by omega) (kT_ri ⟨q.1, hC⟩)
    · rw [if_neg c2]
      refine kT_callE (P_noTone ht τ) ?_
      by_cases c3 : t < 0 ∨ 11 < t
      · rw [if_pos c3, if_pos c3]
        exact kT_eqf (by omega) (by omega) (by omega) (kT_ri ⟨rfl, hC⟩)
      · rw [if_neg c3, if_neg c3]
        exact kT_eqt rfl (by omega) (kT_rd (by omega) (kT_ri ⟨hW.2.1 w t (by omega) (by omega) (by omega) (by omega), hC⟩))
theorem M_tones {b : KB} {σ : KM} (hb : kB b) (hm : mB b σ) {w t : Int} (hw : i32 w) (ht : i32 t) : kT (fM_tones w t σ) (fun z => z.1 = qTones b w t) := by
  have hwr := wnS_r hb
  unfold fM_tones qTones
  refine kT_wf ?_
  have hm1 := hm.th
  generalize ks σ 10 0 0 = M at hm1 ⊢
  unfold i32 at ht
  refine kT_callE (M_isWindow hb hm1 hw) ?_
  by_cases c : nW b w
  · rw [if_pos c, if_pos c]
    exact kT_eqt rfl (by omega) (kT_ri rfl)
  · rw [if_neg c, if_neg c]
    have fin : t = -1 ∨ ¬ (t < 0 ∨ 11 < t) → kT (fM_tones_J36 w t M) (fun z => z.1 = if t = -1 then tw b w else if t < 0 ∨ 11 < t then -3 else cw b w t) := by
      intro hc
      have tr := tw_r hb w
      unfold fM_tones_J36 fM_tones_J59
      refine kT_callE (M_countedIn hb hm1 (by omega)) ?_
      refine kT_eq (by omega) (by omega) (fun c2 => ?_) (fun c2 => ?_)
      · rw [if_pos c2]
        exact kT_ri (mMem_t (σ := M) (g := cw b w))
      · rw [if_neg c2, if_neg (by omega)]
        exact kT_rd (by omega) (kT_ri (mMem_i (by omega)))
    refine kT_eqf (by omega) (by omega) (by omega) (kT_eq (by omega) (by omega) (fun c2 => fin (Or.inl c2)) (fun c2 => ?_))
    refine kT_ck ht (kT_callE (M_isIn (by omega) (by omega) ht M) ?_)
    by_cases c3 : t < 0 ∨ 11 < t
    · rw [if_pos c3, if_neg c2, if_pos c3]
      exact kT_eqt rfl (by omega) (kT_ri rfl)
    · rw [if_neg c3]
      exact kT_eqf (by omega) (by omega) (by omega) (fin (Or.inr c3))
def qMatch (b : KB) (w k x : Int) : Int := if nW b w then -2 else if nK k then -2 else if x < 0 ∨ 1 < x then -2 else if tw b w = 0 then x else if x = 0 then (maS (bwt b) (cw b w) k).tdiv (euc 64 (maS (bwt b) (cw b w) k) (tw b w)) else (tw b w).tdiv (euc 64 (maS (bwt b) (cw b w) k) (tw b w))
theorem euc_1 {a c : Int} (hc : 1 ≤ c) : 1 ≤ euc 64 a c := by
  rw [show (64 : Nat) = 63 + 1 from rfl, euc_s (by omega)]
  exact euc_p 63 c (a % c) hc (Int.emod_nonneg _ (by omega))
theorem C_match {b : KB} {σ : KM} (hb : kB b) (h : CI b σ) {w k x : Int} (hw : i32 w) (hk : i32 k) (hx : i32 x) : kT (fP_match w k x σ) (fun z => z.1 = qMatch b w k x ∧ CI b z.2) := by
  have hwr := wnS_r hb
  unfold fP_match fP_match_J24 fP_match_J94 qMatch
  refine kT_callT (C_noWindow hb h hw) (fun r τ hz => ?_)
  obtain ⟨hr, hC, hW⟩ := hz
  dsimp only at hr hC hW
  rw [hr]
  by_cases c : nW b w
  · rw [if_pos c, if_pos c]
    exact kT_eqf (by omega) (by omega) (by omega) (kT_ri ⟨rfl, hC⟩)
  · rw [if_neg c, if_neg c]
    refine kT_eqt rfl (by omega) (kT_callE (P_noKey hk τ) ?_)
    by_cases c2 : nK k
    · rw [if_pos c2, if_pos c2]
      exact kT_eqf (by omega) (by omega) (by omega) (kT_ri ⟨rfl, hC⟩)
    · rw [if_neg c2, if_neg c2]
      refine kT_eqt rfl (by omega) (kT_callE (P_outOf (by omega) (by omega) hx τ) ?_)
      by_cases c3 : x < 0 ∨ 1 < x
      · rw [if_pos c3, if_pos c3]
        exact kT_eqf (by omega) (by omega) (by omega) (kT_ri ⟨rfl, hC⟩)
      · rw [if_neg c3, if_neg c3]
        have q := hW.2.2.1 w (by omega) (by omega)
        have tr := tw_r hb w
        refine kT_eqt rfl (by omega) (kT_rd (by omega) ?_)
        rw [q.1]
        refine kT_eq (by omega) (by omega) (fun c4 => ?_) (fun c4 => ?_)
        · rw [if_pos c4]
          exact kT_ri ⟨rfl, hC⟩
        · rw [if_neg c4]
          have mr := maS_r (cw_gOK hb w) hb.2.2.1 (k := k) (by omega)
          refine kT_callE (P_weigh (t := tw b w) (by omega) (by omega) (cw_gOK hb w) hb.2.2.1 (fun y a c => hW.2.1 w y (by omega) (by omega) a c) hC.1.2.2.1) ?_
          have eu := euc_u 64 (maS (bwt b) (cw b w) k) (tw b w) (by omega) (by omega)
          have e1 := euc_1 (a := maS (bwt b) (cw b w) k) (c := tw b w) (by omega)
          refine kT_callE (P_commonDivisor (by omega) (by omega) τ) ?_
          refine kT_ltf (by omega) (by omega) (kT_eq (by omega) (by omega) (fun c5 => ?_) (fun c5 => ?_))
          · rw [if_pos c5]
            exact kT_dv (by omega) (by omega) (by omega) (kT_ri ⟨rfl, hC⟩)
          · rw [if_neg c5]
            exact kT_dv (by omega) (by omega) (by omega) (kT_ri ⟨rfl, hC⟩)
/-- what is counted in a window, in the reference -/
theorem mB.in {b : KB} {σ : KM} (hb : kB b) (hm : mB b σ) {w : Int} (hw : 0 ≤ w ∧ w < 48) : mB b (mMem σ (cw b w) (tw b w)) := by
  have e := rfM_countedIn w σ
  rw [M_countedIn hb hm hw] at e
  exact hm.fr (e _ rfl) rfl
theorem M_match {b : KB} {σ : KM} (hb : kB b) (hm : mB b σ) {w k x : Int} (hw : i32 w) (hk : i32 k) (hx : i32 x) : kT (fM_match w k x σ) (fun z => z.1 = qMatch b w k x) := by
  have hwr := wnS_r hb
  unfold fM_match fM_match_J30 fM_match_J77 qMatch
  refine kT_wf ?_
  have hm1 := hm.th
  generalize ks σ 10 0 0 = M at hm1 ⊢
  refine kT_callE (M_isWindow hb hm1 hw) ?_
  by_cases c : nW b w
  · rw [if_pos c, if_pos c]
    exact kT_eqt rfl (by omega) (kT_ri rfl)
  · rw [if_neg c, if_neg c]
    refine kT_eqf (by omega) (by omega) (by omega) (kT_callE (M_isKey hk M) ?_)
    by_cases c2 : nK k
    · rw [if_pos c2, if_pos c2]
      exact kT_eqt rfl (by omega) (kT_ri rfl)
    · rw [if_neg c2, if_neg c2]
      refine kT_eqf (by omega) (by omega) (by omega) (kT_ck hx (kT_callE (M_isIn (by omega) (by omega) hx M) ?_))
      by_cases c3 : x < 0 ∨ 1 < x
      · rw [if_pos c3, if_pos c3]
        exact kT_eqt rfl (by omega) (kT_ri rfl)
      · rw [if_neg c3, if_neg c3]
        have tr := tw_r hb w
        have mr := maS_r (cw_gOK hb w) hb.2.2.1 (k := k) (by omega)
        refine kT_eqf (by omega) (by omega) (by omega) (kT_callE (M_countedIn hb hm1 (by omega)) ?_)
        have hm2 := hm1.in hb (w := w) (by omega)
        have g55 : ∀ y, 0 ≤ y → y < 12 → mMem M (cw b w) (tw b w) 55 y = cw b w y := fun y a c => mMem_i ⟨a, c⟩
        have g27 : mMem M (cw b w) (tw b w) 10 27 = tw b w := mMem_t
        generalize mMem M (cw b w) (tw b w) = N at hm2 g55 g27 ⊢
        have hma : fM_matched k N = some (maS (bwt b) (cw b w) k, N) := M_matched (t := tw b w) (by omega) (cw_gOK hb w) hb.2.2.1 g55 hm2.2.2.1
        rw [g27]
        refine kT_eq (by omega) (by omega) (fun c4 => ?_) (fun c4 => ?_)
        · rw [if_pos c4]
          exact kT_ri rfl
        · rw [if_neg c4]
          have eu := euc_u 64 (maS (bwt b) (cw b w) k) (tw b w) (by omega) (by omega)
          have e1 := euc_1 (a := maS (bwt b) (cw b w) k) (c := tw b w) (by omega)
          refine kT_callE hma ?_
          rw [g27]
          refine kT_callE (M_common (by omega) (by omega) N) (kT_eq (by omega) (by omega) (fun c5 => ?_) (fun c5 => ?_))
          · rw [if_pos c5]
            exact kT_callE hma (kT_dv (by omega) (by omega) (by omega) (kT_ri rfl))
          · rw [if_neg c5, g27]
            exact kT_dv (by omega) (by omega) (by omega) (kT_ri rfl)
def qFit (b : KB) (w k : Int) : Int := if nW b w then -2 else if nK k then -2 else fS b w k
theorem C_fit {b : KB} {σ : KM} (hb : kB b) (h : CI b σ) {w k : Int} (hw : i32 w) (hk : i32 k) : kT (fP_fit w k σ) (fun z => z.1 = qFit b w k ∧ CI b z.2) := by
  have hwr := wnS_r hb
  unfold fP_fit fP_fit_J15 qFit
  refine kT_callT (C_noWindow hb h hw) (fun r τ hz => ?_)
  obtain ⟨hr, hC, hW⟩ := hz
  dsimp only at hr hC hW
  rw [hr]
  by_cases c : nW b w
  · rw [if_pos c, if_pos c]
    exact kT_eqf (by omega) (by omega) (by omega) (kT_ri ⟨rfl, hC⟩)
  · rw [if_neg c, if_neg c]
    refine kT_eqt rfl (by omega) (kT_callE (P_noKey hk τ) ?_)
    by_cases c2 : nK k
    · rw [if_pos c2, if_pos c2]
      exact kT_eqf (by omega) (by omega) (by omega) (kT_ri ⟨rfl, hC⟩)
    · rw [if_neg c2, if_neg c2]
      refine kT_eqt rfl (by omega) (kT_callT (C_freshFits hb hC) (fun r τ2 hz => ?_))
      obtain ⟨hC2, hW2, hP2⟩ := hz
      exact kT_rd (by omega) (kT_ri ⟨(hP2.1 w (by omega) (by omega)).1 k (by omega) (by omega), hC2⟩)
theorem M_fit {b : KB} {σ : KM} (hb : kB b) (hm : mB b σ) {w k : Int} (hw : i32 w) (hk : i32 k) : kT (fM_fit w k σ) (fun z => z.1 = qFit b w k) := by
  have hwr := wnS_r hb
  unfold fM_fit fM_fit_J20 qFit
  refine kT_wf ?_
  have hm1 := hm.th
  generalize ks σ 10 0 0 = M at hm1 ⊢
  refine kT_callE (M_isWindow hb hm1 hw) ?_
  by_cases c : nW b w
  · rw [if_pos c, if_pos c]
    exact kT_eqt rfl (by omega) (kT_ri rfl)
  · rw [if_neg c, if_neg c]
    refine kT_eqf (by omega) (by omega) (by omega) (kT_callE (M_isKey hk M) ?_)
    by_cases c2 : nK k
    · rw [if_pos c2, if_pos c2]
      exact kT_eqt rfl (by omega) (kT_ri rfl)
    · rw [if_neg c2, if_neg c2]
      refine kT_eqf (by omega) (by omega) (by omega) (kT_callE (M_countedIn hb hm1 (by omega)) ?_)
      have hm2 := hm1.in hb (w := w) (by omega)
      exact kT_callE (M_fitted (t := tw b w) (by omega) (cw_gOK hb w) hb.2.2.1 (fun y a c => mMem_i ⟨a, c⟩) hm2.2.2.1 mMem_t) (kT_ri rfl)
def qRanked (b : KB) (w k : Int) : Int := if nW b w then -2 else if nK k then -3 else rkS (fS b w) k 24
theorem C_ranked {b : KB} {σ : KM} (hb : kB b) (h : CI b σ) {w k : Int} (hw : i32 w) (hk : i32 k) : kT (fP_ranked w k σ) (fun z => z.1 = qRanked b w k ∧ CI b z.2) := by
  have hwr := wnS_r hb
  unfold fP_ranked qRanked
  refine kT_callT (C_noWindow hb h hw) (fun r τ hz => ?_)
  obtain ⟨hr, hC, hW⟩ := hz
  dsimp only at hr hC hW
  rw [hr]
  by_cases c : nW b w
  · rw [if_pos c, if_pos c]
    exact kT_eqf (by omega) (by omega) (by omega) (kT_ri ⟨rfl, hC⟩)
  · rw [if_neg c, if_neg c]
    refine kT_eqt rfl (by omega) (kT_callE (P_noKey hk τ) ?_)
    by_cases c2 : nK k
    · rw [if_pos c2, if_pos c2]
      exact kT_eqf (by omega) (by omega) (by omega) (kT_ri ⟨rfl, hC⟩)
    · rw [if_neg c2, if_neg c2]
      refine kT_eqt rfl (by omega) (kT_callT (C_freshFits hb hC) (fun r τ2 hz => ?_))
      obtain ⟨hC2, hW2, hP2⟩ := hz
      exact kT_callE (P_keyOfRank (by omega) (by omega) (fun k a c => fS_r hb w ⟨a, c⟩) (hP2.1 w (by omega) (by omega)).1) (kT_ri ⟨rfl, hC2⟩)
theorem M_ranked {b : KB} {σ : KM} (hb : kB b) (hm : mB b σ) {w k : Int} (hw : i32 w) (hk : i32 k) : kT (fM_ranked w k σ) (fun z => z.1 = qRanked b w k) := by
  have hwr := wnS_r hb
  unfold fM_ranked qRanked
  refine kT_wf ?_
  have hm1 := hm.th
  generalize ks σ 10 0 0 = M at hm1 ⊢
  refine kT_callE (M_isWindow hb hm1 hw) ?_
  by_cases c : nW b w
  · rw [if_pos c, if_pos c]
    exact kT_eqt rfl (by omega) (kT_ri rfl)
  · rw [if_neg c, if_neg c]
    refine kT_eqf (by omega) (by omega) (by omega) (kT_callE (M_isKey hk M) ?_)
    by_cases c2 : nK k
    · rw [if_pos c2, if_pos c2]
      exact kT_eqt rfl (by omega) (kT_ri rfl)
    · rw [if_neg c2, if_neg c2]
      refine kT_eqf (by omega) (by omega) (by omega) (kT_callE (M_countedIn hb hm1 (by omega)) ?_)
      have hm2 := hm1.in hb (w := w) (by omega)
      exact kT_callE (M_rankedNow (t := tw b w) (by omega) (cw_gOK hb w) hb.2.2.1 (fun y a c => mMem_i ⟨a, c⟩) hm2.2.2.1 mMem_t) (kT_ri rfl)
def qOverall (b : KB) (k : Int) : Int := if nK k then -3 else rkS (fA b) k 24
theorem C_overall {b : KB} {σ : KM} (hb : kB b) (h : CI b σ) {k : Int} (hk : i32 k) : kT (fP_overall k σ) (fun z => z.1 = qOverall b k ∧ CI b z.2) := by
  unfold fP_overall qOverall
  refine kT_callE (P_noKey hk σ) ?_
  by_cases c2 : nK k
  · rw [if_pos c2, if_pos c2]
    exact kT_eqf (by omega) (by omega) (by omega) (kT_ri ⟨rfl, h⟩)
  · rw [if_neg c2, if_neg c2]
    refine kT_eqt rfl (by omega) (kT_callT (C_freshFits hb h) (fun r τ2 hz => ?_))
    obtain ⟨hC2, hW2, hP2⟩ := hz
    exact kT_callE (P_keyOfRank (by omega) (by omega) (fun k a c => fA_r hb ⟨a, c⟩) hP2.2.1) (kT_ri ⟨rfl, hC2⟩)
theorem M_overall {b : KB} {σ : KM} (hb : kB b) (hm : mB b σ) {k : Int} (hk : i32 k) : kT (fM_overall k σ) (fun z => z.1 = qOverall b k) := by
  unfold fM_overall qOverall
  refine kT_wf ?_
  have hm1 := hm.th
  generalize ks σ 10 0 0 = M at hm1 ⊢
  refine kT_callE (M_isKey hk M) ?_
  by_cases c2 : nK k
  · rw [if_pos c2, if_pos c2]
    exact kT_eqt rfl (by omega) (kT_ri rfl)
  · rw [if_neg c2, if_neg c2]
    have er := eS_r hb
    refine kT_eqf (by omega) (by omega) (by omega) (kT_callE (M_theEnd hm1.1 hb.1) ?_)
    have e1 : fM_counted 0 (endS (bt b) (bl b) (bn b)) M = some (0, mMem M (ca b) (ta b)) := M_counted hm1.1 hb.1 (by omega) (by unfold eS at er; omega)
    have hm2 : mB b (mMem M (ca b) (ta b)) := by
      have e := rfM_counted 0 (endS (bt b) (bl b) (bn b)) M
      rw [e1] at e
      exact hm1.fr (e _ rfl) rfl
    refine kT_callE e1 ?_
    exact kT_callE (M_rankedNow (t := ta b) (by omega) (ca_gOK hb) hb.2.2.1 (fun y a c => mMem_i ⟨a, c⟩) hm2.2.2.1 mMem_t) (kT_ri rfl)
def qChord (b : KB) (w : Int) : Int := if nW b w then -2 else hw b w
theorem C_chord {b : KB} {σ : KM} (hb : kB b) (h : CI b σ) {w : Int} (hw : i32 w) : kT (fP_chord w σ) (fun z => z.1 = qChord b w ∧ CI b z.2) := by
  have hwr := wnS_r hb
  unfold fP_chord fP_chord_J22 qChord
  refine kT_callT (C_noWindow hb h hw) (fun r τ hz => ?_)
  obtain ⟨hr, hC, hW⟩ := hz
  dsimp only at hr hC hW
  rw [hr]
  by_cases c : nW b w
  · rw [if_pos c, if_pos c]
    exact kT_eqf (by omega) (by omega) (by omega) (kT_ri ⟨rfl, hC⟩)
  · rw [if_neg c, if_neg c]
    exact kT_eqt rfl (by omega) (kT_rd (by omega) (kT_ri ⟨(hW.2.2.1 w (by omega) (by omega)).2, hC⟩))
theorem M_chordIn {b : KB} {σ : KM} (hb : kB b) (w : Int) : fM_chordNow (mMem σ (cw b w) (tw b w)) = some (hw b w, mMem σ (cw b w) (tw b w)) := M_chordNow (fun y => cw_r hb w y) (fun y a c => mMem_i ⟨a, c⟩) mMem_t (tw_r hb w)
theorem M_chord {b : KB} {σ : KM} (hb : kB b) (hm : mB b σ) {w : Int} (hw : i32 w) : kT (fM_chord w σ) (fun z => z.1 = qChord b w) := by
  have hwr := wnS_r hb
  unfold fM_chord qChord
  refine kT_wf ?_
  have hm1 := hm.th
  generalize ks σ 10 0 0 = M at hm1 ⊢
  refine kT_callE (M_isWindow hb hm1 hw) ?_
  by_cases c : nW b w
  · rw [if_pos c, if_pos c]
    exact kT_eqt rfl (by omega) (kT_ri rfl)
  · rw [if_neg c, if_neg c]
    refine kT_eqf (by omega) (by omega) (by omega) (kT_callE (M_countedIn hb hm1 (by omega)) ?_)
    exact kT_callE (M_chordIn hb w) (kT_ri rfl)
def foS (g : Int → Int) (k : Int) : Nat → Int
  | 0 => 0
  | t + 1 => foS g k t + (if dgOn t k = -1 then g t else 0)
theorem foS_r {g : Int → Int} (hg : ∀ y, 0 ≤ g y ∧ g y ≤ 6400) (k : Int) : ∀ t : Nat, 0 ≤ foS g k t ∧ foS g k t ≤ 6400 * t
  | 0 => by simp [foS]
  | t + 1 => by
    have := foS_r hg k t
    have := hg t
    rw [foS]
    split <;> omega
theorem dgOn_r {t k : Int} (h1 : 0 ≤ t ∧ t < 12) (h2 : 0 ≤ k ∧ k < 24) : -1 ≤ dgOn t k ∧ dgOn t k ≤ 7 := by
  rcases (show k = 0 ∨ k = 1 ∨ k = 2 ∨ k = 3 ∨ k = 4 ∨ k = 5 ∨ k = 6 ∨ k = 7 ∨ k = 8 ∨ k = 9 ∨ k = 10 ∨ k = 11 ∨ k = 12 ∨ k = 13 ∨ k = 14 ∨ k = 15 ∨ k = 16 ∨ k = 17 ∨ k = 18 ∨ k = 19 ∨ k = 20 ∨ k = 21 ∨ k = 22 ∨ k = 23 by omega) with rfl | rfl | rfl | rfl | rfl | rfl | rfl | rfl | rfl | rfl | rfl | rfl | rfl | rfl | rfl | rfl | rfl | rfl | rfl | rfl | rfl | rfl | rfl | rfl
  all_goals (rcases (show t = 0 ∨ t = 1 ∨ t = 2 ∨ t = 3 ∨ t = 4 ∨ t = 5 ∨ t = 6 ∨ t = 7 ∨ t = 8 ∨ t = 9 ∨ t = 10 ∨ t = 11 by omega) with rfl | rfl | rfl | rfl | rfl | rfl | rfl | rfl | rfl | rfl | rfl | rfl <;> decide)
def qForeign (b : KB) (w k : Int) : Int := if nW b w then -2 else if nK k then -2 else foS (cw b w) k 12
theorem C_foreign {b : KB} {σ : KM} (hb : kB b) (h : CI b σ) {w k : Int} (hw : i32 w) (hk : i32 k) : kT (fP_foreign w k σ) (fun z => z.1 = qForeign b w k ∧ CI b z.2) := by
  have hwr := wnS_r hb
  unfold fP_foreign fP_foreign_J15 qForeign
  refine kT_callT (C_noWindow hb h hw) (fun r τ hz => ?_)
  obtain ⟨hr, hC, hW⟩ := hz
  dsimp only at hr hC hW
  rw [hr]
  by_cases c : nW b w
  · rw [if_pos c, if_pos c]
    exact kT_eqf (by omega) (by omega) (by omega) (kT_ri ⟨rfl, hC⟩)
  · rw [if_neg c, if_neg c]
    refine kT_eqt rfl (by omega) (kT_callE (P_noKey hk τ) ?_)
    by_cases c2 : nK k
    · rw [if_pos c2, if_pos c2]
      exact kT_eqf (by omega) (by omega) (by omega) (kT_ri ⟨rfl, hC⟩)
    · rw [if_neg c2, if_neg c2]
      refine kT_eqt rfl (by omega) ?_
      unfold fP_foreign_L23
      refine kT_for (fun i s => s = (foS (cw b w) k i, (i : Int), τ)) 12 ?_ ?_ 0 (by omega) kF _ rfl (kF_lt (by omega))
      · rintro i s hi rfl
        have dr := dgOn_r (t := i) (k := k) (by omega) (by omega)
        show kT (fP_foreign_B23 w k (foS (cw b w) k i) i τ) _
        unfold fP_foreign_B23 fP_foreign_J58
        refine kT_ltt (by omega) (by omega) (kT_callE (P_degreeOn (by omega) (by omega) τ) (kT_eq (by omega) (by omega) (fun d => ?_) (fun d => ?_)))
        · refine kT_rd (by omega) (kT_let (kT_let (kT_inl ?_)))
          rw [hW.2.1 w i (by omega) (by omega) (by omega) (by omega), foS, if_pos d]
          rfl
        · refine kT_let (kT_inl ?_)
          rw [foS, if_neg d, Int.add_zero]
          rfl
      · rintro s rfl
        show kT (fP_foreign_B23 w k (foS (cw b w) k 12) 12 τ) _
        unfold fP_foreign_B23 fP_foreign_J64
        exact kT_ltf (by omega) (by omega) (kT_exit (kT_ri ⟨rfl, hC⟩))
theorem M_foreign {b : KB} {σ : KM} (hb : kB b) (hm : mB b σ) {w k : Int} (hw : i32 w) (hk : i32 k) : kT (fM_foreign w k σ) (fun z => z.1 = qForeign b w k) := by
  have hwr := wnS_r hb
  unfold fM_foreign fM_foreign_J20 qForeign
  refine kT_wf ?_
  have hm1 := hm.th
  generalize ks σ 10 0 0 = M at hm1 ⊢
  refine kT_callE (M_isWindow hb hm1 hw) ?_
  by_cases c : nW b w
  · rw [if_pos c, if_pos c]
    exact kT_eqt rfl (by omega) (kT_ri rfl)
  · rw [if_neg c, if_neg c]
    refine kT_eqf (by omega) (by omega) (by omega) (kT_callE (M_isKey hk M) ?_)
    by_cases c2 : nK k
    · rw [if_pos c2, if_pos c2]
      exact kT_eqt rfl (by omega) (kT_ri rfl)
    · rw [if_neg c2, if_neg c2]
      refine kT_eqf (by omega) (by omega) (by omega) (kT_callE (M_countedIn hb hm1 (by omega)) ?_)
      have g55 : ∀ y, 0 ≤ y → y < 12 → mMem M (cw b w) (tw b w) 55 y = cw b w y := fun y a c => mMem_i ⟨a, c⟩
      generalize mMem M (cw b w) (tw b w) = N at g55 ⊢
      unfold fM_foreign_L33
      refine kT_for (fun i s => s = (foS (cw b w) k i, (i : Int), N)) 12 ?_ ?_ 0 (by omega) kF _ rfl (kF_lt (by omega))
      · rintro i s hi rfl
        have io := M_isOn (t := i) (k := k) (by omega) (by omega) N
        have fin : ∀ e, e = (if k < 12 then (0 : Int) else 1) → kT (fM_foreign_J65 k i e (((i : Int) - k % 12 + 12) % 12) (foS (cw b w) k i) N) (kS (fun s => s = (foS (cw b w) k (i + 1), ((i + 1 : Nat) : Int), N)) (fun z => z.1 = foS (cw b w) k 12)) := by
          rintro e rfl
          unfold fM_foreign_J65 fM_foreign_J82
          refine kT_callE io ?_
          by_cases d : dgOn i k = -1
          · rw [if_pos d]
            refine kT_eqt rfl (by omega) (kT_rd (by omega) (kT_let (kT_let (kT_inl ?_))))
            rw [g55 i (by omega) (by omega), foS, if_pos d]
            rfl
          · rw [if_neg d]
            refine kT_eqf (by omega) (by omega) (by omega) (kT_let (kT_let (kT_inl ?_)))
            rw [foS, if_neg d]
            rfl
        show kT (fM_foreign_B33 k (foS (cw b w) k i) i N) _
        unfold fM_foreign_B33
        refine kT_ltt (by omega) (by omega) (kT_rm (by omega) (by omega) (by omega) ?_)
        rw [tmod_e (by omega)]
        refine kT_rm (by omega) (by omega) (by omega) ?_
        rw [tmod_e (by omega)]
        refine kT_lt (by omega) (by omega) (fun d => ?_) (fun d => ?_)
        · exact fin 0 (by rw [if_pos d])
        · exact fin 1 (by rw [if_neg (by omega)])
      · rintro s rfl
        show kT (fM_foreign_B33 k (foS (cw b w) k 12) 12 N) _
        unfold fM_foreign_B33 fM_foreign_J90
        exact kT_ltf (by omega) (by omega) (kT_exit (kT_ri rfl))
theorem C_distance {b : KB} {σ : KM} (hb : kB b) (h : CI b σ) {x y : Int} (hx : i32 x) (hy : i32 y) : kT (fP_distance x y σ) (fun z => z.1 = qDist b x y ∧ CI b z.2) := by
  unfold fP_distance fP_distance_J14 qDist
  refine kT_callE (P_noKey hx σ) ?_
  by_cases c : x < 0 ∨ 23 < x
  · rw [if_pos c, if_pos (Or.inl c)]
    exact kT_eqf (by omega) (by omega) (by omega) (kT_ri ⟨rfl, h⟩)
  · rw [if_neg c]
    refine kT_eqt rfl (by omega) (kT_callE (P_noKey hy σ) ?_)
    by_cases c2 : y < 0 ∨ 23 < y
    · rw [if_pos c2, if_pos (Or.inr c2)]
      exact kT_eqf (by omega) (by omega) (by omega) (kT_ri ⟨rfl, h⟩)
    · rw [if_neg c2, if_neg (by omega)]
      refine kT_eqt rfl (by omega) (kT_callT (C_refresh hb h) (fun r τ hz => ?_))
      obtain ⟨hC, hN⟩ := hz
      dsimp only at hC hN
      refine kT_rd (by omega) (kT_ri ⟨?_, hC⟩)
      dsimp only
      rw [(hN x y (by omega) (by omega) (by omega) (by omega)).2, hC.1.2.2.2.2.2.2.2]
theorem C_way {b : KB} {σ : KM} (hb : kB b) (h : CI b σ) {x y k : Int} (hx : i32 x) (hy : i32 y) (hk : i32 k) : kT (fP_way x y k σ) (fun z => z.1 = qWay b x y k ∧ CI b z.2) := by
  unfold fP_way fP_way_J14 qWay
  refine kT_callE (P_noKey hx σ) ?_
  by_cases c : x < 0 ∨ 23 < x
  · rw [if_pos c, if_pos (Or.inl c)]
    exact kT_eqf (by omega) (by omega) (by omega) (kT_ri ⟨rfl, h⟩)
  · rw [if_neg c]
    refine kT_eqt rfl (by omega) (kT_callE (P_noKey hy σ) ?_)
    by_cases c2 : y < 0 ∨ 23 < y
    · rw [if_pos c2, if_pos (Or.inr c2)]
      exact kT_eqf (by omega) (by omega) (by omega) (kT_ri ⟨rfl, h⟩)
    · rw [if_neg c2, if_neg (show ¬ ((x < 0 ∨ 23 < x) ∨ (y < 0 ∨ 23 < y)) by omega)]
      unfold i32 at hk
      refine kT_eqt rfl (by omega) (kT_lt (by omega) (by omega) (fun c3 => ?_) (fun c3 => ?_))
      · rw [if_pos c3]
        exact kT_ri ⟨rfl, h⟩
      · rw [if_neg (by omega)]
        refine kT_callT (C_refresh hb h) (fun r τ hz => ?_)
        obtain ⟨hC, hN⟩ := hz
        dsimp only at hC hN
        exact kT_callE (P_keyOnWay hb hC.1 hN (by omega) (by omega) (by omega)) (kT_ri ⟨rfl, hC⟩)
