/-! ===== segments, roman, outside, learnt, count, note, fault ===== -/
theorem mP.g {b : KB} (hb : kB b) {σ : KM} (h : mP b σ) (hl : hP b) : σ 10 37 = (nB b : Int) ∧ ∀ w : Nat, w < nB b → σ 63 w = pB b w ∧ 0 ≤ pB b w ∧ pB b w < 24 :=
  ⟨by rw [nB_i hb]; exact h.2.1.1, fun w hw => ⟨h.w hl hw, pB_r hb hl hw⟩⟩
theorem nB_48 {b : KB} (hb : kB b) : nB b ≤ 48 := (XP_v hb).1
def sB (b : KB) : Int := sgS (pB b) (nB b)
theorem sB_r {b : KB} (hb : kB b) : 0 ≤ sB b ∧ sB b ≤ 48 := by
  have := sgS_r (pB b) (nB b)
  have := nB_48 hb
  unfold sB
  omega
def fW (b : KB) (seg : Int) : Int := fiW (pB b) (nB b) seg
def qSegs (b : KB) : Int := if hP b then sB b else -5
theorem C_segments {b : KB} {σ : KM} (hb : kB b) (h : CI b σ) : kT (fP_segments σ) (fun z => z.1 = qSegs b ∧ CI b z.2) := by
  unfold fP_segments fP_segments_J19 qSegs
  refine kT_callT (C_noPath hb h) (fun r τ hz => ?_)
  obtain ⟨hr, hC, hF, hW⟩ := hz
  dsimp only at hr hC hF hW
  rw [hr]
  by_cases c : hP b
  · rw [if_pos c, if_pos c]
    exact kT_eqt rfl (by omega) (kT_ri ⟨(hF.p c).2.1, hC⟩)
  · rw [if_neg c, if_neg c]
    exact kT_eqf (by omega) (by omega) (by omega) (kT_ri ⟨rfl, hC⟩)
theorem M_segments {b : KB} {σ : KM} (hb : kB b) (hm : mB b σ) : kT (fM_segments σ) (fun z => z.1 = qSegs b) := by
  unfold fM_segments fM_segments_J21 qSegs
  refine kT_wf (kT_callT (M_has hb hm.th) (fun r τ hz => ?_))
  obtain ⟨hr, hp⟩ := hz
  dsimp only at hr hp
  rw [hr]
  by_cases c : hP b
  · rw [if_pos c, if_pos c]
    have g := hp.g hb c
    exact kT_eqf (by omega) (by omega) (by omega) (kT_callE (M_segmentsNow (nB_48 hb) g.1 g.2) (kT_ri rfl))
  · rw [if_neg c, if_neg c]
    exact kT_eqt rfl (by omega) (kT_ri rfl)
def qSeg (b : KB) (seg x : Int) : Int := if hP b then (if seg < 0 ∨ sB b - 1 < seg then -2 else if x < 0 ∨ 3 < x then -2 else if x = 0 then fW b seg else if x = 1 then fW b (seg + 1) - 1 else if x = 2 then pB b (fW b seg).toNat else bh b * fW b seg) else -5
theorem C_segment {b : KB} {σ : KM} (hb : kB b) (h : CI b σ) {seg x : Int} (hs : i32 seg) (hx : i32 x) : kT (fP_segment seg x σ) (fun z => z.1 = qSeg b seg x ∧ CI b z.2) := by
  unfold fP_segment fP_segment_J25 qSeg
  unfold i32 at hs
  refine kT_callT (C_noPath hb h) (fun r τ hz => ?_)
  obtain ⟨hr, hC, hF, hW⟩ := hz
  dsimp only at hr hC hF hW
  rw [hr]
  have n48 := nB_48 hb
  by_cases c : hP b
  · rw [if_pos c, if_pos c]
    have sr := sB_r hb
    have e12 : τ 8 12 = sB b := (hF.p c).2.1
    refine kT_eqt rfl (by omega) (kT_lt (by omega) (by omega) (fun d => ?_) (fun d => ?_))
    · rw [if_pos (by omega)]
      exact kT_ri ⟨rfl, hC⟩
    · rw [e12]
      refine kT_lt (by omega) (by omega) (fun d2 => ?_) (fun d2 => ?_)
      · rw [if_neg (by omega)]
        have hq : 0 ≤ seg ∧ seg < sgS (pB b) (nB b) := ⟨d, d2⟩
        have eF := P_firsts hF c hq
        have fr := fiW_r (pa := pB b) (n := nB b) (seg := seg) ⟨hq.1, by omega⟩
        have fr2 := fr.2.2.1 hq.2
        refine kT_rd (by omega) ?_
        rw [eF]
        by_cases d3 : x < 0 ∨ 3 < x
        · rw [if_pos d3]
          exact kT_swe hx (by simp; omega) (kT_ri ⟨rfl, hC⟩)
        · rw [if_neg d3]
          refine kT_swi hx ⟨by omega, by simp; omega⟩ ?_
          rcases (show x = 0 ∨ x = 1 ∨ x = 2 ∨ x = 3 by omega) with rfl | rfl | rfl | rfl
          · exact kT_ri ⟨rfl, hC⟩
          · exact kT_callE (P_lastOf hb hF c hq) (kT_ri ⟨rfl, hC⟩)
          · show kT (kRd τ 39 48 (fiW (pB b) (nB b) seg) (fun y6 => kRetI y6 τ)) _
            refine kT_rd (by omega) (kT_ri ⟨?_, hC⟩)
            have := (hF.p c).1 (fiW (pB b) (nB b) seg).toNat (by omega)
            rw [show (((fiW (pB b) (nB b) seg).toNat : Nat) : Int) = fiW (pB b) (nB b) seg by omega] at this
            exact this
          · refine kT_ri ⟨?_, hC⟩
            show fiW (pB b) (nB b) seg * τ 5 1 = bh b * fW b seg
            rw [hC.1.2.1.2, Int.mul_comm]
            rfl
      · rw [if_pos (by omega)]
        exact kT_ri ⟨rfl, hC⟩
  · rw [if_neg c, if_neg c]
    exact kT_eqf (by omega) (by omega) (by omega) (kT_ri ⟨rfl, hC⟩)
theorem M_segment {b : KB} {σ : KM} (hb : kB b) (hm : mB b σ) {seg x : Int} (hs : i32 seg) (hx : i32 x) : kT (fM_segment seg x σ) (fun z => z.1 = qSeg b seg x) := by
  unfold fM_segment fM_segment_J43 fM_segment_J97 qSeg
  have n48 := nB_48 hb
  refine kT_wf (kT_callT (M_has hb hm.th) (fun r τ hz => ?_))
  obtain ⟨hr, hp⟩ := hz
  dsimp only at hr hp
  rw [hr]
  by_cases c : hP b
  · rw [if_pos c, if_pos c]
    have g := hp.g hb c
    have sr := sB_r hb
    refine kT_eqf (by omega) (by omega) (by omega) (kT_ck hs (kT_callE (M_segmentsNow n48 g.1 g.2) ?_))
    change kT (kCk (sB b - 1) (kCall (fM_isIn seg 0 (sB b - 1) τ) _)) _
    refine kT_ck (by omega) (kT_callE (M_isIn (by omega) (by omega) hs τ) ?_)
    by_cases d : seg < 0 ∨ sB b - 1 < seg
    · rw [if_pos d, if_pos d]
      exact kT_eqt rfl (by omega) (kT_ri rfl)
    · rw [if_neg d, if_neg d]
      refine kT_eqf (by omega) (by omega) (by omega) (kT_ck hx (kT_callE (M_isIn (by omega) (by omega) hx τ) ?_))
      by_cases d3 : x < 0 ∨ 3 < x
      · rw [if_pos d3, if_pos d3]
        exact kT_eqt rfl (by omega) (kT_ri rfl)
      · rw [if_neg d3, if_neg d3]
        have hq : 0 ≤ seg ∧ seg < sgS (pB b) (nB b) := ⟨by omega, by unfold sB at d; omega⟩
        have fr := fiW_r (pa := pB b) (n := nB b) (seg := seg) ⟨hq.1, by omega⟩
        have fr2 := fr.2.2.1 hq.2
        refine kT_eqf (by omega) (by omega) (by omega) (kT_callE (M_firstOf n48 g.1 g.2 (seg := seg) ⟨hq.1, by omega⟩) ?_)
        rcases (show x = 0 ∨ x = 1 ∨ x = 2 ∨ x = 3 by omega) with rfl | rfl | rfl | rfl
        · exact kT_eqt rfl (by omega) (kT_ri rfl)
        · exact kT_eqf (by omega) (by omega) (by omega) (kT_eqt rfl (by omega) (kT_callE (M_firstOf n48 g.1 g.2 (seg := seg + 1) ⟨by omega, by omega⟩) (kT_ri rfl)))
        · refine kT_eqf (by omega) (by omega) (by omega) (kT_eqf (by omega) (by omega) (by omega) (kT_eqt rfl (by omega) (kT_rd (by omega) (kT_ri ?_))))
          have := (g.2 (fiW (pB b) (nB b) seg).toNat (by omega)).1
          rw [show (((fiW (pB b) (nB b) seg).toNat : Nat) : Int) = fiW (pB b) (nB b) seg by omega] at this
          exact this
        · refine kT_eqf (by omega) (by omega) (by omega) (kT_eqf (by omega) (by omega) (by omega) (kT_eqf (by omega) (by omega) (by omega) (kT_ri ?_)))
          show τ 10 12 * fiW (pB b) (nB b) seg = bh b * fW b seg
          rw [hp.1.2.1.2]
          rfl
  · rw [if_neg c, if_neg c]
    exact kT_eqt rfl (by omega) (kT_ri rfl)
/-! roman -/
def rmS (b : KB) (w : Int) : Int := if hw b w = -1 then -1 else dgS (hw b w) (pB b w.toNat)
theorem rmS_r {b : KB} (hb : kB b) (hl : hP b) {w : Int} (h : 0 ≤ w ∧ w < wnS b) : -1 ≤ rmS b w ∧ rmS b w ≤ 7 := by
  have eN := nB_i hb
  have h1 := hw_r hb w
  have h2 := pB_r hb hl (w := w.toNat) (by omega)
  unfold rmS
  split
  · omega
  · exact dgS_r _ _ (by omega) h2
theorem P_romanOf {b : KB} (hb : kB b) {σ : KM} (hF : frC b σ) (hW : wOK b σ) (hl : hP b) {w : Int} (h : 0 ≤ w ∧ w < wnS b) : fP_romanOf w σ = some (rmS b w, σ) := by
  refine kT.eq ?_
  have eN := nB_i hb
  have n48 := nB_48 hb
  have h1 := hw_r hb w
  have h2 := pB_r hb hl (w := w.toNat) (by omega)
  have e39 := (hF.p hl).1 w.toNat (by omega)
  rw [show ((w.toNat : Nat) : Int) = w by omega] at e39
  unfold fP_romanOf fP_romanOf_J32 rmS
  refine kT_rd (by omega) ?_
  rw [(hW.2.2.1 w h.1 h.2).2]
  refine kT_eq (by omega) (by omega) (fun c => ?_) (fun c => ?_)
  · rw [if_pos c]; exact kT_ri rfl
  · rw [if_neg c]
    refine kT_rd (by omega) ?_
    rw [e39]
    exact kT_callE (P_degreeOf (by omega) h2 σ) (kT_ri rfl)
theorem M_romanNow {b : KB} (hb : kB b) {σ : KM} (hp : mP b σ) (hl : hP b) {w : Int} (h : 0 ≤ w ∧ w < wnS b) : fM_romanNow w σ = some (rmS b w, mMem σ (cw b w) (tw b w)) := by
  refine kT.eq ?_
  have eN := nB_i hb
  have n48 := nB_48 hb
  have h1 := hw_r hb w
  have tr := tw_r hb w
  have h2 := pB_r hb hl (w := w.toNat) (by omega)
  have hp2 := hp.in hb (w := w) (by omega)
  have e63 := hp2.w hl (w := w.toNat) (by omega)
  rw [show ((w.toNat : Nat) : Int) = w by omega] at e63
  unfold fM_romanNow fM_romanNow_J29 rmS
  refine kT_callE (M_countedIn hb hp.1 (by omega)) ?_
  rw [mMem_t]
  refine kT_eq (by omega) (by omega) (fun c => ?_) (fun c => ?_)
  · rw [if_pos (h1.2.2.mpr c)]; exact kT_ri rfl
  · rw [if_neg (fun e => c (h1.2.2.mp e))]
    have : hw b w ≠ -1 := fun e => c (h1.2.2.mp e)
    refine kT_callE (M_chordIn hb w) (kT_rd (by omega) ?_)
    rw [e63]
    exact kT_callE (M_degreeOf (by omega) h2 _) (kT_ri rfl)
def qRoman (b : KB) (w : Int) : Int := if nW b w then -2 else if hP b then rmS b w else -5
theorem C_roman {b : KB} {σ : KM} (hb : kB b) (h : CI b σ) {w : Int} (hw : i32 w) : kT (fP_roman w σ) (fun z => z.1 = qRoman b w ∧ CI b z.2) := by
  unfold fP_roman fP_roman_J28 qRoman
  refine kT_callT (C_noWindow hb h hw) (fun r τ hz => ?_)
  obtain ⟨hr, hC, hW⟩ := hz
  dsimp only at hr hC hW
  rw [hr]
  by_cases c : nW b w
  · rw [if_pos c, if_pos c]
    exact kT_eqf (by omega) (by omega) (by omega) (kT_ri ⟨rfl, hC⟩)
  · rw [if_neg c, if_neg c]
    refine kT_eqt rfl (by omega) (kT_callT (C_noPath hb hC) (fun r τ2 hz => ?_))
    obtain ⟨hr, hC, hF, hW⟩ := hz
    dsimp only at hr hC hF hW
    rw [hr]
    by_cases c : hP b
    · rw [if_pos c, if_pos c]
      exact kT_eqt rfl (by omega) (kT_callE (P_romanOf hb hF hW c (by omega)) (kT_ri ⟨rfl, hC⟩))
    · rw [if_neg c, if_neg c]
      exact kT_eqf (by omega) (by omega) (by omega) (kT_ri ⟨rfl, hC⟩)
theorem M_roman {b : KB} {σ : KM} (hb : kB b) (hm : mB b σ) {w : Int} (hw : i32 w) : kT (fM_roman w σ) (fun z => z.1 = qRoman b w) := by
  unfold fM_roman fM_roman_J33 qRoman
  refine kT_wf ?_
  have hm1 := hm.th
  generalize ks σ 10 0 0 = M at hm1 ⊢
  refine kT_callE (M_isWindow hb hm1 hw) ?_
  by_cases c : nW b w
  · rw [if_pos c, if_pos c]
    exact kT_eqt rfl (by omega) (kT_ri rfl)
  · rw [if_neg c, if_neg c]
    refine kT_eqf (by omega) (by omega) (by omega) (kT_callT (M_has hb hm1) (fun r τ hz => ?_))
    obtain ⟨hr, hp⟩ := hz
    dsimp only at hr hp
    rw [hr]
    by_cases c : hP b
    · rw [if_pos c, if_pos c]
      exact kT_eqf (by omega) (by omega) (by omega) (kT_callE (M_romanNow hb hp c (by omega)) (kT_ri rfl))
    · rw [if_neg c, if_neg c]
      exact kT_eqt rfl (by omega) (kT_ri rfl)
def ouS (b : KB) : Nat → Int
  | 0 => 0
  | w + 1 => if hw b w ≠ -1 ∧ rmS b w = -1 then ouS b w + 1 else ouS b w
theorem ouS_r (b : KB) : ∀ w : Nat, 0 ≤ ouS b w ∧ ouS b w ≤ w
  | 0 => by simp [ouS]
  | w + 1 => by
    have := ouS_r b w
    rw [ouS]
    split <;> omega
def qOutside (b : KB) : Int := if hP b then ouS b (nB b) else -5
theorem C_outside {b : KB} {σ : KM} (hb : kB b) (h : CI b σ) : kT (fP_outside σ) (fun z => z.1 = qOutside b ∧ CI b z.2) := by
  have eN := nB_i hb
  have n48 := nB_48 hb
  unfold fP_outside qOutside
  refine kT_callT (C_noPath hb h) (fun r τ hz => ?_)
  obtain ⟨hr, hC, hF, hW⟩ := hz
  dsimp only at hr hC hF hW
  rw [hr]
  by_cases c : hP b
  · rw [if_pos c, if_pos c]
    refine kT_eqt rfl (by omega) ?_
    unfold fP_outside_L14
    refine kT_for (fun i s => s = (ouS b i, (i : Int), τ)) (nB b) ?_ ?_ 0 (by omega) kF _ rfl (kF_lt (by omega))
    · rintro i s hi rfl
      have h1 := hw_r hb i
      have h2 := rmS_r hb c (w := i) (by omega)
      have h3 := ouS_r b i
      show kT (fP_outside_B14 (ouS b i) i τ) _
      unfold fP_outside_B14 fP_outside_J50
      rw [hW.1]
      refine kT_ltt (by omega) (by omega) (kT_rd (by omega) ?_)
      rw [(hW.2.2.1 i (by omega) (by omega)).2]
      refine kT_eq (by omega) (by omega) (fun d => ?_) (fun d => ?_)
      · refine kT_let (kT_inl ?_)
        rw [ouS, if_neg (fun h => h.1 d)]
        rfl
      · refine kT_callE (P_romanOf hb hF hW c (by omega)) (kT_eq (by omega) (by omega) (fun d2 => ?_) (fun d2 => ?_))
        · refine kT_let (kT_let (kT_inl ?_))
          rw [ouS, if_pos ⟨d, d2⟩]
          rfl
        · refine kT_let (kT_inl ?_)
          rw [ouS, if_neg (fun h => d2 h.2)]
          rfl
    · rintro s rfl
      show kT (fP_outside_B14 (ouS b (nB b)) (nB b : Nat) τ) _
      unfold fP_outside_B14 fP_outside_J56
      rw [hW.1]
      exact kT_ltf (by omega) (by omega) (kT_exit (kT_ri ⟨rfl, hC⟩))
  · rw [if_neg c, if_neg c]
    exact kT_eqf (by omega) (by omega) (by omega) (kT_ri ⟨rfl, hC⟩)
theorem M_outside {b : KB} {σ : KM} (hb : kB b) (hm : mB b σ) : kT (fM_outside σ) (fun z => z.1 = qOutside b) := by
  have eN := nB_i hb
  have n48 := nB_48 hb
  unfold fM_outside qOutside
  refine kT_wf (kT_callT (M_has hb hm.th) (fun r τ hz => ?_))
  obtain ⟨hr, hp⟩ := hz
  dsimp only at hr hp
  rw [hr]
  by_cases c : hP b
  · rw [if_pos c, if_pos c]
    refine kT_eqf (by omega) (by omega) (by omega) ?_
    unfold fM_outside_L19
    refine kT_for (fun i s => ∃ N, s = (ouS b i, (i : Int), N) ∧ mP b N) (nB b) ?_ ?_ 0 (by omega) kF _ ⟨τ, rfl, hp⟩ (kF_lt (by omega))
    · rintro i s hi ⟨N, rfl, hN⟩
      have h1 := hw_r hb i
      have h2 := rmS_r hb c (w := i) (by omega)
      have h3 := ouS_r b i
      have h64 := hN.2.1.2.2.1 i (by omega) (by omega)
      show kT (fM_outside_B19 (ouS b i) i N) _
      unfold fM_outside_B19 fM_outside_J50 fM_outside_J51
      rw [hN.2.1.1]
      refine kT_ltt (by omega) (by omega) (kT_rd (by omega) ?_)
      rw [h64]
      by_cases d : tw b i = 0
      · rw [if_pos d]
        refine kT_eqf (by omega) (by omega) (by omega) (kT_let (kT_let (kT_inl ⟨N, ?_, hN⟩)))
        rw [ouS, if_neg (fun h => h.1 (h1.2.2.mpr d)), Int.add_zero]
        rfl
      · rw [if_neg d]
        have d1 : hw b i ≠ -1 := fun e => d (h1.2.2.mp e)
        refine kT_eqt rfl (by omega) (kT_callE (M_romanNow hb hN c (by omega)) (kT_eq (by omega) (by omega) (fun d2 => ?_) (fun d2 => ?_)))
        · refine kT_let (kT_let (kT_inl ⟨_, ?_, hN.in hb (w := i) (by omega)⟩))
          rw [ouS, if_pos ⟨d1, d2⟩]
          rfl
        · refine kT_let (kT_let (kT_inl ⟨_, ?_, hN.in hb (w := i) (by omega)⟩))
          rw [ouS, if_neg (fun h => d2 h.2), Int.add_zero]
          rfl
    · rintro s ⟨N, rfl, hN⟩
      show kT (fM_outside_B19 (ouS b (nB b)) (nB b : Nat) N) _
      unfold fM_outside_B19 fM_outside_J59
      rw [hN.2.1.1]
      exact kT_ltf (by omega) (by omega) (kT_exit (kT_ri rfl))
  · rw [if_neg c, if_neg c]
    exact kT_eqt rfl (by omega) (kT_ri rfl)
def leP (b : KB) (m s : Int) : Nat → Int
  | 0 => 0
  | w + 1 => if (if pB b w < 12 then (0 : Int) else 1) = m then leP b m s w + cw b w ((pB b w + s) % 12) else leP b m s w
def leA (b : KB) (m : Int) : Nat → Int
  | 0 => 0
  | w + 1 => if (if pB b w < 12 then (0 : Int) else 1) = m then leA b m w + tw b w else leA b m w
theorem le_r {b : KB} (hb : kB b) (m s : Int) : ∀ w : Nat, (0 ≤ leP b m s w ∧ leP b m s w ≤ 6400 * w) ∧ (0 ≤ leA b m w ∧ leA b m w ≤ 6400 * w)
  | 0 => by simp [leP, leA]
  | w + 1 => by
    have h1 := le_r hb m s w
    have h2 := cw_r hb w ((pB b w + s) % 12)
    have h3 := tw_r hb w
    rw [leP, leA]
    by_cases c : (if pB b w < 12 then (0 : Int) else 1) = m
    · rw [if_pos c, if_pos c]; omega
    · rw [if_neg c, if_neg c]; omega
def qLearnt (b : KB) (m s : Int) : Int := if m < 0 ∨ 1 < m then -2 else if s < 0 ∨ 11 < s then -2 else if hP b then (if leA b m (nB b) = 0 then -1 else (100 * leP b m s (nB b)).tdiv (leA b m (nB b))) else -5
theorem C_learnt {b : KB} {σ : KM} (hb : kB b) (h : CI b σ) {m s : Int} (h1 : i32 m) (h2 : i32 s) : kT (fP_learnt m s σ) (fun z => z.1 = qLearnt b m s ∧ CI b z.2) := by
  have eN := nB_i hb
  have n48 := nB_48 hb
  unfold fP_learnt fP_learnt_J14 qLearnt
  refine kT_callE (P_noMode h1 σ) ?_
  by_cases c : m < 0 ∨ 1 < m
  · rw [if_pos c, if_pos c]
    exact kT_eqf (by omega) (by omega) (by omega) (kT_ri ⟨rfl, h⟩)
  rw [if_neg c, if_neg c]
  refine kT_eqt rfl (by omega) (kT_callE (P_noTone h2 σ) ?_)
  by_cases c2 : s < 0 ∨ 11 < s
  · rw [if_pos c2, if_pos c2]
    exact kT_eqf (by omega) (by omega) (by omega) (kT_ri ⟨rfl, h⟩)
  rw [if_neg c2, if_neg c2]
  refine kT_eqt rfl (by omega) (kT_callT (C_noPath hb h) (fun r τ hz => ?_))
  obtain ⟨hr, hC, hF, hW⟩ := hz
  dsimp only at hr hC hF hW
  rw [hr]
  by_cases c : hP b
  · rw [if_pos c, if_pos c]
    refine kT_eqt rfl (by omega) ?_
    unfold fP_learnt_L35
    refine kT_for (fun i s' => s' = (leP b m s i, leA b m i, (i : Int), τ)) (nB b) ?_ ?_ 0 (by omega) kF _ rfl (kF_lt (by omega))
    · rintro i s' hi rfl
      have pr := pB_r hb c hi
      have h3 := le_r hb m s i
      show kT (fP_learnt_B35 m s (leP b m s i) (leA b m i) i τ) _
      unfold fP_learnt_B35 fP_learnt_J107
      rw [hW.1]
      refine kT_ltt (by omega) (by omega) (kT_rd (by omega) ?_)
      rw [(hF.p c).1 i hi]
      refine kT_callE (P_modeOf (by omega) τ) ?_
      have mr : (if pB b i < 12 then (0 : Int) else 1) = 0 ∨ (if pB b i < 12 then (0 : Int) else 1) = 1 := by split <;> omega
      refine kT_eq (by omega) (by omega) (fun d => ?_) (fun d => ?_)
      · refine kT_rm (by omega) (by omega) (by omega) ?_
        rw [tmod_e (by omega)]
        refine kT_rd (by omega) (kT_let (kT_rd (by omega) (kT_let (kT_let (kT_inl ?_)))))
        rw [hW.2.1 i ((pB b i + s) % 12) (by omega) (by omega) (by omega) (by omega), (hW.2.2.1 i (by omega) (by omega)).1, leP, leA, if_pos d, if_pos d]
        rfl
      · refine kT_let (kT_inl ?_)
        rw [leP, leA, if_neg d, if_neg d]
        rfl
    · rintro s' rfl
      have h3 := le_r hb m s (nB b)
      show kT (fP_learnt_B35 m s (leP b m s (nB b)) (leA b m (nB b)) (nB b : Nat) τ) _
      unfold fP_learnt_B35 fP_learnt_J113 fP_learnt_J129
      rw [hW.1]
      refine kT_ltf (by omega) (by omega) (kT_exit (kT_eq (by omega) (by omega) (fun d => ?_) (fun d => ?_)))
      · rw [if_pos d]; exact kT_ri ⟨rfl, hC⟩
      · rw [if_neg d]; exact kT_dv (by omega) (by omega) d (kT_ri ⟨rfl, hC⟩)
  · rw [if_neg c, if_neg c]
    exact kT_eqf (by omega) (by omega) (by omega) (kT_ri ⟨rfl, hC⟩)
theorem M_learnt {b : KB} {σ : KM} (hb : kB b) (hm : mB b σ) {m s : Int} (h1 : i32 m) (h2 : i32 s) : kT (fM_learnt m s σ) (fun z => z.1 = qLearnt b m s) := by
  have eN := nB_i hb
  have n48 := nB_48 hb
  unfold fM_learnt fM_learnt_J24 qLearnt
  refine kT_wf ?_
  have hm1 := hm.th
  generalize ks σ 10 0 0 = M at hm1 ⊢
  refine kT_callE (M_isMode h1 M) ?_
  by_cases c : m < 0 ∨ 1 < m
  · rw [if_pos c, if_pos c]
    exact kT_eqt rfl (by omega) (kT_ri rfl)
  rw [if_neg c, if_neg c]
  refine kT_eqf (by omega) (by omega) (by omega) (kT_ck h2 (kT_callE (M_isIn (by omega) (by omega) h2 M) ?_))
  by_cases c2 : s < 0 ∨ 11 < s
  · rw [if_pos c2, if_pos c2]
    exact kT_eqt rfl (by omega) (kT_ri rfl)
  rw [if_neg c2, if_neg c2]
  refine kT_eqf (by omega) (by omega) (by omega) (kT_callT (M_has hb hm1) (fun r τ hz => ?_))
  obtain ⟨hr, hp⟩ := hz
  dsimp only at hr hp
  rw [hr]
  by_cases c : hP b
  · rw [if_pos c, if_pos c]
    refine kT_eqf (by omega) (by omega) (by omega) ?_
    unfold fM_learnt_L45
    refine kT_for (fun i s' => ∃ N, s' = (leP b m s i, leA b m i, (i : Int), N) ∧ mP b N) (nB b) ?_ ?_ 0 (by omega) kF _ ⟨τ, rfl, hp⟩ (kF_lt (by omega))
    · rintro i s' hi ⟨N, rfl, hN⟩
      have pr := pB_r hb c hi
      have h3 := le_r hb m s i
      have hN2 := hN.in hb (w := i) (by omega)
      show kT (fM_learnt_B45 m s (leP b m s i) (leA b m i) i N) _
      unfold fM_learnt_B45 fM_learnt_J106
      rw [hN.2.1.1]
      refine kT_ltt (by omega) (by omega) (kT_rd (by omega) ?_)
      rw [hN.w c hi]
      refine kT_dv (by omega) (by omega) (by omega) ?_
      rw [tdiv_e (by omega)]
      have em : pB b i / 12 = if pB b i < 12 then (0 : Int) else 1 := by split <;> omega
      rw [em]
      have mr : (if pB b i < 12 then (0 : Int) else 1) = 0 ∨ (if pB b i < 12 then (0 : Int) else 1) = 1 := by split <;> omega
      refine kT_eq (by omega) (by omega) (fun d => ?_) (fun d => ?_)
      · refine kT_callE (M_countedIn hb hN.1 (by omega)) (kT_rd (by omega) ?_)
        rw [hN2.w c hi]
        refine kT_rm (by omega) (by omega) (by omega) ?_
        rw [tmod_e (by omega)]
        refine kT_rd (by omega) (kT_let (kT_let (kT_let (kT_inl ⟨_, ?_, hN2⟩))))
        rw [mMem_i (by omega), mMem_t, leP, leA, if_pos d, if_pos d]
        rfl
      · refine kT_let (kT_inl ⟨N, ?_, hN⟩)
        rw [leP, leA, if_neg d, if_neg d]
        rfl
    · rintro s' ⟨N, rfl, hN⟩
      have h3 := le_r hb m s (nB b)
      show kT (fM_learnt_B45 m s (leP b m s (nB b)) (leA b m (nB b)) (nB b : Nat) N) _
      unfold fM_learnt_B45 fM_learnt_J112 fM_learnt_J132
      rw [hN.2.1.1]
      refine kT_ltf (by omega) (by omega) (kT_exit (kT_eq (by omega) (by omega) (fun d => ?_) (fun d => ?_)))
      · rw [if_pos d]; exact kT_ri rfl
      · rw [if_neg d]; exact kT_ck (by omega) (kT_ck (by omega) (kT_dv6 (by omega) (by omega) d (kT_ri rfl)))
  · rw [if_neg c, if_neg c]
    exact kT_eqt rfl (by omega) (kT_ri rfl)
