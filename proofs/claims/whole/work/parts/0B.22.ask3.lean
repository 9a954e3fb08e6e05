/-! ===== what is asked of THE PATH ===== -/
def nB (b : KB) : Nat := (wnS b).toNat
theorem nB_i {b : KB} (hb : kB b) : ((nB b : Nat) : Int) = wnS b := XP_n hb
def pB (b : KB) : Nat → Int := paS (XP b)
abbrev hP (b : KB) : Prop := lsS (XP b) < 1000000000
theorem pB_r {b : KB} (hb : kB b) (hl : hP b) {w : Nat} (hw : w < nB b) : 0 ≤ pB b w ∧ pB b w < 24 := (paS_r (XP_v hb) hl w hw).1
/-- the class, once there is a path -/
theorem frC.p {b : KB} {σ : KM} (h : frC b σ) (hl : hP b) : (∀ w : Nat, w < nB b → σ 39 w = pB b w) ∧ σ 8 12 = sgS (pB b) (nB b) ∧ (∀ w : Nat, w < nB b → stW (pB b) w → σ 40 (sgS (pB b) w) = w) := h.2.1.2.2.2.2.1 hl
/-- the reference, once there is a path -/
def mP (b : KB) (σ : KM) : Prop := mB b σ ∧ mO b σ ∧ pM (XP b) σ
theorem pM.fr {X : KX} {W : List (Nat × Option Int)} {σ τ : KM} (h : pM X σ) (hf : kFr W σ τ) (hk : kKeep W [61, 62, 63] [(10, 38)] = true) : pM X τ := by
  have c61 := kKeep.cell hk hf (c := 61) (by decide)
  have c62 := kKeep.cell hk hf (c := 62) (by decide)
  have c63 := kKeep.cell hk hf (c := 63) (by decide)
  have f38 := kKeep.fld hk hf (c := 10) (i := 38) (by decide)
  unfold pM
  rw [c61, c62, c63, f38]
  exact h
theorem mP.fr {b : KB} {W : List (Nat × Option Int)} {σ τ : KM} (h : mP b σ) (hf : kFr W σ τ) (h1 : kKeep W [45, 46, 47, 52, 53] [(10, 7), (10, 11), (10, 12), (10, 13), (10, 14), (10, 15), (10, 16)] = true) (h2 : kKeep W [58, 59, 64] [(10, 37)] = true) (h3 : kKeep W [61, 62, 63] [(10, 38)] = true) : mP b τ := ⟨h.1.fr hf h1, h.2.1.fr hf h2, h.2.2.fr hf h3⟩
theorem mP.in {b : KB} {σ : KM} (hb : kB b) (h : mP b σ) {w : Int} (hw : 0 ≤ w ∧ w < 48) : mP b (mMem σ (cw b w) (tw b w)) := by
  have e := rfM_countedIn w σ
  rw [M_countedIn hb h.1 hw] at e
  exact h.fr (e _ rfl) rfl rfl rfl
theorem mP.w {b : KB} {σ : KM} (h : mP b σ) (hl : hP b) {w : Nat} (hw : w < nB b) : σ 63 w = pB b w := h.2.2.2.2 hl w hw
theorem M_has {b : KB} (hb : kB b) {σ : KM} (hm : mB b σ) : kT (fM_hasPath σ) (fun z => z.1 = (if hP b then 1 else 0) ∧ mP b z.2) :=
  (M_hasPath hb hm).mono (fun _ hz => ⟨hz.1.1, hm.fr hz.2 rfl, hz.1.2.1, hz.1.2.2⟩)
def qCost (b : KB) : Int := if hP b then lsS (XP b) else -5
theorem C_cost {b : KB} {σ : KM} (hb : kB b) (h : CI b σ) : kT (fP_cost σ) (fun z => z.1 = qCost b ∧ CI b z.2) := by
  unfold fP_cost fP_cost_J19 qCost
  refine kT_callT (C_noPath hb h) (fun r τ hz => ?_)
  obtain ⟨hr, hC, hF, hW⟩ := hz
  dsimp only at hr hC hF hW
  rw [hr]
  by_cases c : hP b
  · rw [if_pos c, if_pos c]
    exact kT_eqt rfl (by omega) (kT_ri ⟨hF.2.1.2.2.2.1.1, hC⟩)
  · rw [if_neg c, if_neg c]
    exact kT_eqf (by omega) (by omega) (by omega) (kT_ri ⟨rfl, hC⟩)
theorem M_cost {b : KB} {σ : KM} (hb : kB b) (hm : mB b σ) : kT (fM_cost σ) (fun z => z.1 = qCost b) := by
  unfold fM_cost fM_cost_J21 qCost
  refine kT_wf (kT_callT (M_has hb hm.th) (fun r τ hz => ?_))
  obtain ⟨hr, hp⟩ := hz
  dsimp only at hr hp
  rw [hr]
  by_cases c : hP b
  · rw [if_pos c, if_pos c]
    exact kT_eqf (by omega) (by omega) (by omega) (kT_ri hp.2.2.2.1)
  · rw [if_neg c, if_neg c]
    exact kT_eqt rfl (by omega) (kT_ri rfl)
def qKey (b : KB) (w : Int) : Int := if nW b w then -2 else if hP b then pB b w.toNat else -5
theorem C_key {b : KB} {σ : KM} (hb : kB b) (h : CI b σ) {w : Int} (hw : i32 w) : kT (fP_key w σ) (fun z => z.1 = qKey b w ∧ CI b z.2) := by
  have hwr := wnS_r hb
  have eN := nB_i hb
  unfold fP_key fP_key_J32 qKey
  refine kT_callT (C_noWindow hb h hw) (fun r τ hz => ?_)
  obtain ⟨hr, hC, hW⟩ := hz
  dsimp only at hr hC hW
  rw [hr]
  by_cases c : nW b w
  · rw [if_pos c, if_pos c]
    exact kT_eqf (by omega) (by omega) (by omega) (kT_ri ⟨rfl, hC⟩)
  · rw [if_neg c, if_neg c]
    refine kT_eqt rfl (by omega) (kT_callT (C_noPath hb hC) (fun r τ2 hz => ?_))
    obtain ⟨hr, hC, hF, hW⟩ := hz
    dsimp only at hr hC hF hW
    rw [hr]
    by_cases c : hP b
    · rw [if_pos c, if_pos c]
      refine kT_eqt rfl (by omega) (kT_rd (by omega) (kT_ri ⟨?_, hC⟩))
      have := (hF.p c).1 w.toNat (by omega)
      rw [show ((w.toNat : Nat) : Int) = w by omega] at this
      exact this
    · rw [if_neg c, if_neg c]
      exact kT_eqf (by omega) (by omega) (by omega) (kT_ri ⟨rfl, hC⟩)
theorem M_key {b : KB} {σ : KM} (hb : kB b) (hm : mB b σ) {w : Int} (hw : i32 w) : kT (fM_key w σ) (fun z => z.1 = qKey b w) := by
  have hwr := wnS_r hb
  have eN := nB_i hb
  unfold fM_key fM_key_J34 qKey
  refine kT_wf ?_
  have hm1 := hm.th
  generalize ks σ 10 0 0 = M at hm1 ⊢
  refine kT_callE (M_isWindow hb hm1 hw) ?_
  by_cases c : nW b w
  · rw [if_pos c, if_pos c]
    exact kT_eqt rfl (by omega) (kT_ri rfl)
  · rw [if_neg c, if_neg c]
    refine kT_eqf (by omega) (by omega) (by omega) (kT_callT (M_has hb hm1) (fun r τ hz => ?_))
    obtain ⟨hr, hp⟩ := hz
    dsimp only at hr hp
    rw [hr]
    by_cases c : hP b
    · rw [if_pos c, if_pos c]
      refine kT_eqf (by omega) (by omega) (by omega) (kT_rd (by omega) (kT_ri ?_))
      have := hp.w c (w := w.toNat) (by omega)
      rw [show ((w.toNat : Nat) : Int) = w by omega] at this
      exact this
    · rw [if_neg c, if_neg c]
      exact kT_eqt rfl (by omega) (kT_ri rfl)
def qTies (b : KB) : Int := if hP b then tdS (XP b) else -5
theorem C_ties {b : KB} {σ : KM} (hb : kB b) (h : CI b σ) : kT (fP_ties σ) (fun z => z.1 = qTies b ∧ CI b z.2) := by
  unfold fP_ties fP_ties_J19 qTies
  refine kT_callT (C_noPath hb h) (fun r τ hz => ?_)
  obtain ⟨hr, hC, hF, hW⟩ := hz
  dsimp only at hr hC hF hW
  rw [hr]
  by_cases c : hP b
  · rw [if_pos c, if_pos c]
    exact kT_eqt rfl (by omega) (kT_ri ⟨hF.2.1.2.2.2.1.2.1 c, hC⟩)
  · rw [if_neg c, if_neg c]
    exact kT_eqf (by omega) (by omega) (by omega) (kT_ri ⟨rfl, hC⟩)
/-- the reference adds up the ties as long as they are few -/
def rtS (p t : Int → Int) (L : Int) : Nat → Int
  | 0 => 0
  | j + 1 => if p j = L ∧ rtS p t L j < 1000000 then rtS p t L j + t j else rtS p t L j
theorem rt_tf {p t : Int → Int} {L : Int} (hL : L < 1000000000) (hp : ∀ k : Int, 0 ≤ k → k < 24 → L ≤ p k) (ht : ∀ k : Int, 0 ≤ k → k < 24 → p k < 1000000000 → 1 ≤ t k ∧ t k ≤ 1000000) : ∀ j : Nat, j ≤ 24 → (0 ≤ rtS p t L j ∧ rtS p t L j ≤ 2000000) ∧ ((mnS p j = L ∧ tfS p t j = if 1000000 < rtS p t L j then 1000000 else rtS p t L j) ∨ (L < mnS p j ∧ rtS p t L j = 0))
  | 0, _ => ⟨by simp [rtS], Or.inr ⟨by simp [mnS]; exact hL, rfl⟩⟩
  | j + 1, hj => by
    obtain ⟨h1, h2⟩ := rt_tf hL hp ht j (by omega)
    have pj := hp j (by omega) (by omega)
    have tj := ht j (by omega) (by omega)
    rw [rtS]
    by_cases c : p j = L
    · have t1 := tj (by omega)
      rcases h2 with ⟨m, e⟩ | ⟨m, e⟩
      · have e1 : mnS p (j + 1) = L := by rw [mnS_f (by omega)]; exact m
        have e2 := tfS_e (p := p) (t := t) (j := j) (by omega) (by omega)
        by_cases c2 : rtS p t L j < 1000000
        · rw [if_pos ⟨c, c2⟩]
          rw [if_neg (by omega)] at e
          rw [e] at e2
          exact ⟨by omega, Or.inl ⟨e1, e2⟩⟩
        · rw [if_neg (fun h => c2 h.2)]
          refine ⟨h1, Or.inl ⟨e1, ?_⟩⟩
          have e3 : tfS p t j = 1000000 := by rw [e]; split <;> omega
          rw [e2, e3, if_pos (by omega)]
          split <;> omega
      · have e1 : mnS p (j + 1) = L := by rw [mnS_t (by omega)]; exact c
        have e2 := tfS_t (p := p) (t := t) (j := j) (by omega)
        rw [if_pos ⟨c, by omega⟩]
        refine ⟨by omega, Or.inl ⟨e1, ?_⟩⟩
        rw [e2, e, if_neg (by omega)]
        omega
    · rw [if_neg (fun h => c h.1)]
      refine ⟨h1, ?_⟩
      rcases h2 with ⟨m, e⟩ | ⟨m, e⟩
      · exact Or.inl ⟨by rw [mnS_f (by omega)]; exact m, by rw [tfS_f (by omega)]; exact e⟩
      · refine Or.inr ⟨?_, e⟩
        rw [mnS]
        split <;> omega
theorem M_ties {b : KB} {σ : KM} (hb : kB b) (hm : mB b σ) : kT (fM_ties σ) (fun z => z.1 = qTies b) := by
  have hwr := wnS_r hb
  have eN := nB_i hb
  have hv := XP_v hb
  have hn := hv.1
  unfold fM_ties qTies
  refine kT_wf (kT_callT (M_has hb hm.th) (fun r τ hz => ?_))
  obtain ⟨hr, hp⟩ := hz
  dsimp only at hr hp
  rw [hr]
  by_cases c : hP b
  · rw [if_pos c, if_pos c, hp.2.1.1]
    refine kT_eqf (by omega) (by omega) (by omega) (kT_eq (by omega) (by omega) (fun c0 => ?_) (fun c0 => ?_))
    · refine kT_ri ?_
      unfold tdS
      rw [if_pos (show xn (XP b) = 0 by show nB b = 0; omega)]
    · have n0 : xn (XP b) ≠ 0 := by show nB b ≠ 0; omega
      have eT : tdS (XP b) = tfS (bhS (XP b) (xn (XP b) - 1)) (tiS (XP b) (xn (XP b) - 1)) 24 := by unfold tdS; rw [if_neg n0]
      have eL : lsS (XP b) = mnS (bhS (XP b) (xn (XP b) - 1)) 24 := by unfold lsS; rw [if_neg n0]
      have hL : lsS (XP b) < 1000000000 := c
      have ht := fun k a d e => tiS_r hv (xn (XP b) - 1) k a d e
      have rt := rt_tf (p := bhS (XP b) (xn (XP b) - 1)) (t := tiS (XP b) (xn (XP b) - 1)) hL (fun k a d => by rw [eL]; exact mnS_lo _ 24 k a (by omega)) ht
      have lr := lsS_r hv
      unfold fM_ties_L28
      refine kT_for (fun j s => s = (rtS (bhS (XP b) (xn (XP b) - 1)) (tiS (XP b) (xn (XP b) - 1)) (lsS (XP b)) j, (j : Int), τ)) 24 ?_ ?_ 0 (by omega) kF _ rfl (kF_lt (by omega))
      · rintro j s hj rfl
        have r1 := rt j (by omega)
        have q := hp.2.2.1 0 j (by omega) (by omega) (by omega)
        rw [show (24 * ((0 : Nat) : Int) + j) = j by omega, Nat.sub_zero] at q
        have rb := bhS_r hv (xn (XP b) - 1) j (by omega) (by omega)
        have tj := ht j (by omega) (by omega)
        have e38 : τ 10 38 = lsS (XP b) := hp.2.2.2.1
        generalize hR : rtS (bhS (XP b) (xn (XP b) - 1)) (tiS (XP b) (xn (XP b) - 1)) (lsS (XP b)) j = R at r1 ⊢
        show kT (fM_ties_B28 R j τ) _
        unfold fM_ties_B28 fM_ties_J64 fM_ties_J65
        refine kT_ltt (by omega) (by omega) (kT_rd (by omega) ?_)
        rw [q.1, e38]
        refine kT_eq (by omega) (by omega) (fun d => ?_) (fun d => ?_)
        · refine kT_lt (by omega) (by omega) (fun d2 => ?_) (fun d2 => ?_)
          · refine kT_rd (by omega) (kT_let (kT_let (kT_inl ?_)))
            rw [q.2 (by omega), rtS, hR, if_pos ⟨d, d2⟩]
            rfl
          · refine kT_let (kT_let (kT_inl ?_))
            rw [rtS, hR, if_neg (by omega), Int.add_zero]
            rfl
        · refine kT_let (kT_let (kT_inl ?_))
          rw [rtS, hR, if_neg (fun h => d h.1), Int.add_zero]
          rfl
      · rintro s rfl
        have r1 := rt 24 (by omega)
        rw [← eL, ← eT] at r1
        generalize rtS (bhS (XP b) (xn (XP b) - 1)) (tiS (XP b) (xn (XP b) - 1)) (lsS (XP b)) 24 = R at r1 ⊢
        show kT (fM_ties_B28 R 24 τ) _
        unfold fM_ties_B28 fM_ties_J73 fM_ties_J87
        refine kT_ltf (by omega) (by omega) (kT_exit ?_)
        have e9 : tdS (XP b) = if 1000000 < R then 1000000 else R := by
          rcases r1.2 with h | h
          · exact h.2
          · omega
        rw [e9]
        refine kT_lt (by omega) (by omega) (fun d => ?_) (fun d => ?_)
        · rw [if_pos d]; exact kT_ri rfl
        · rw [if_neg (by omega)]; exact kT_ri rfl
  · rw [if_neg c, if_neg c]
    exact kT_eqt rfl (by omega) (kT_ri rfl)
/-! segments -/
theorem M_segmentsNow {pa : Nat → Int} {n : Nat} (hn : n ≤ 48) {σ : KM} (h37 : σ 10 37 = n) (h63 : ∀ w : Nat, w < n → σ 63 w = pa w ∧ 0 ≤ pa w ∧ pa w < 24) : fM_segmentsNow σ = some (sgS pa n, σ) := by
  refine kP ?_ (rfM_segmentsNow σ)
  unfold fM_segmentsNow fM_segmentsNow_J12
  rw [h37]
  refine kT_eq (by omega) (by omega) (fun c => ?_) (fun c => ?_)
  · have n0 : n = 0 := by omega
    subst n0
    unfold fM_segmentsNow_L15
    refine kT_for (fun i s => s = ((0 : Int), (1 : Int), σ)) 0 (fun i s hi => by omega) ?_ 0 (by omega) kF _ rfl (kF_lt (by omega))
    rintro s rfl
    show kT (fM_segmentsNow_B15 0 1 σ) _
    unfold fM_segmentsNow_B15 fM_segmentsNow_J54
    rw [h37]
    exact kT_ltf (by omega) (by omega) (kT_exit (kT_ri rfl))
  · unfold fM_segmentsNow_L15
    refine kT_for (fun i s => s = (sgS pa (i + 1), ((i + 1 : Nat) : Int), σ)) (n - 1) ?_ ?_ 0 (by omega) kF _ ?_ (kF_lt (by omega))
    · rintro i s hi rfl
      have p1 := h63 (i + 1) (by omega)
      have p2 := h63 i (by omega)
      have sr := sgS_r pa (i + 1)
      show kT (fM_segmentsNow_B15 (sgS pa (i + 1)) ((i + 1 : Nat) : Int) σ) _
      unfold fM_segmentsNow_B15 fM_segmentsNow_J46
      rw [h37]
      refine kT_ltt (by omega) (by omega) (kT_rd (by omega) (kT_rd (by omega) ?_))
      rw [show ((i + 1 : Nat) : Int) - 1 = i by omega, p1.1, p2.1]
      refine kT_eq (by omega) (by omega) (fun d => ?_) (fun d => ?_)
      · refine kT_let (kT_let (kT_inl ?_))
        rw [sgS_f (w := i + 1) (fun h => by rcases h with h | h; omega; exact h d), Int.add_zero]
        rfl
      · refine kT_let (kT_let (kT_inl ?_))
        rw [sgS_t (w := i + 1) (Or.inr d)]
        rfl
    · rintro s rfl
      show kT (fM_segmentsNow_B15 (sgS pa (n - 1 + 1)) ((n - 1 + 1 : Nat) : Int) σ) _
      unfold fM_segmentsNow_B15 fM_segmentsNow_J54
      rw [h37]
      refine kT_ltf (by omega) (by omega) (kT_exit (kT_ri ?_))
      rw [show n - 1 + 1 = n by omega]
    · show ((1 : Int), (1 : Int), σ) = _
      rw [sgS_t (w := 0) (Or.inl rfl)]
      rfl
def fsS (pa : Nat → Int) (seg : Int) : Nat → Int
  | 0 => -1
  | w + 1 => if fsS pa seg w = -1 then (if stW pa w ∧ sgS pa w = seg then (w : Int) else -1) else fsS pa seg w
def fiW (pa : Nat → Int) (n : Nat) (seg : Int) : Int := if fsS pa seg n = -1 then n else fsS pa seg n
theorem fsS_n {pa : Nat → Int} {seg : Int} : ∀ j : Nat, (∀ w : Nat, w < j → ¬ (stW pa w ∧ sgS pa w = seg)) → fsS pa seg j = -1
  | 0, _ => rfl
  | j + 1, h => by rw [fsS, if_pos (fsS_n j (fun w hw => h w (by omega))), if_neg (h j (by omega))]
theorem fsS_k {pa : Nat → Int} {seg : Int} {i : Nat} (h : fsS pa seg i ≠ -1) : ∀ j : Nat, fsS pa seg (i + j) = fsS pa seg i
  | 0 => rfl
  | j + 1 => by
    have := fsS_k h j
    show fsS pa seg ((i + j) + 1) = _
    rw [fsS, if_neg (by rw [this]; exact h)]
    exact this
theorem fiW_at {pa : Nat → Int} {n w : Nat} (hw : w < n) (hs : stW pa w) : fiW pa n (sgS pa w) = w := by
  have e0 : fsS pa (sgS pa w) w = -1 := fsS_n w (fun v hv h => by have := sgS_lt h.1 hv; omega)
  have e1 : fsS pa (sgS pa w) (w + 1) = w := by rw [fsS, if_pos e0, if_pos ⟨hs, rfl⟩]
  have e2 := fsS_k (pa := pa) (seg := sgS pa w) (i := w + 1) (by rw [e1]; omega) (n - (w + 1))
  rw [show w + 1 + (n - (w + 1)) = n by omega, e1] at e2
  unfold fiW
  rw [e2, if_neg (by omega)]
theorem fiW_end {pa : Nat → Int} {n : Nat} : fiW pa n (sgS pa n) = n := by
  unfold fiW
  rw [fsS_n n (fun w hw h => by have := sgS_lt h.1 hw; omega), if_pos rfl]
theorem sg_ex {pa : Nat → Int} : ∀ (n : Nat) (seg : Int), 0 ≤ seg → seg < sgS pa n → ∃ w : Nat, w < n ∧ stW pa w ∧ sgS pa w = seg
  | 0, seg, a, c => by simp [sgS] at c; omega
  | n + 1, seg, a, c => by
    by_cases d : seg < sgS pa n
    · obtain ⟨w, h1, h2⟩ := sg_ex n seg a d
      exact ⟨w, by omega, h2⟩
    · by_cases e : stW pa n
      · rw [sgS_t e] at c
        exact ⟨n, by omega, e, by omega⟩
      · rw [sgS_f e] at c
        omega
theorem fiW_r {pa : Nat → Int} {n : Nat} {seg : Int} (h : 0 ≤ seg ∧ seg ≤ sgS pa n) : 0 ≤ fiW pa n seg ∧ fiW pa n seg ≤ n ∧ (seg < sgS pa n → fiW pa n seg < n) ∧ (0 < seg → 0 < fiW pa n seg) := by
  by_cases c : seg < sgS pa n
  · obtain ⟨w, h1, h2, h3⟩ := sg_ex n seg h.1 c
    have e := fiW_at h1 h2
    rw [h3] at e
    rw [e]
    refine ⟨by omega, by omega, fun _ => by omega, fun hs => ?_⟩
    by_cases w0 : w = 0
    · subst w0; simp [sgS] at h3; omega
    · omega
  · have e : seg = sgS pa n := by omega
    rw [e, fiW_end]
    have := sgS_r pa n
    exact ⟨by omega, by omega, fun h => by omega, fun h => by omega⟩
theorem M_firstOf {pa : Nat → Int} {n : Nat} (hn : n ≤ 48) {σ : KM} (h37 : σ 10 37 = n) (h63 : ∀ w : Nat, w < n → σ 63 w = pa w ∧ 0 ≤ pa w ∧ pa w < 24) {seg : Int} (hs : 0 ≤ seg ∧ seg ≤ sgS pa n) : fM_firstOf seg σ = some (fiW pa n seg, σ) := by
  refine kP ?_ (rfM_firstOf seg σ)
  unfold fM_firstOf fM_firstOf_L4
  have sn := sgS_r pa n
  refine kT_for (fun i s => ∃ lf : Int, s = (lf, (i : Int), σ) ∧ 0 ≤ lf ∧ lf ≤ seg ∧ ((i < n ∧ lf = seg + 1 - sgS pa (i + 1) ∧ (lf = 0 → stW pa i)) ∨ (i = n ∧ lf = seg - sgS pa n))) n ?_ ?_ 0 (by omega) kF _ ?_ (kF_lt (by omega))
  · rintro i s hi ⟨lf, rfl, l0, l1, hq⟩
    have hq : lf = seg + 1 - sgS pa (i + 1) ∧ (lf = 0 → stW pa i) := by rcases hq with h | h; exact h.2; omega
    show kT (fM_firstOf_B4 lf i σ) _
    unfold fM_firstOf_B4 fM_firstOf_J44 fM_firstOf_J50
    rw [h37]
    refine kT_ltt (by omega) (by omega) (kT_lt (by omega) (by omega) (fun c => ?_) (fun c => ?_))
    · refine kT_let (kT_eq (by omega) (by omega) (fun d => ?_) (fun d => ?_))
      · refine kT_let (kT_inl ⟨lf + -1, rfl, by omega, by omega, Or.inr ⟨by omega, ?_⟩⟩)
        rw [show i + 1 = n by omega] at hq
        omega
      · have p1 := h63 (i + 1) (by omega)
        have p2 := h63 i (by omega)
        rw [show ((i + 1 : Nat) : Int) = (i : Int) + 1 by omega] at p1
        refine kT_rd (by omega) (kT_rd (by omega) ?_)
        rw [show (i : Int) + 1 - 1 = i by omega, p1.1, p2.1]
        refine kT_eq (by omega) (by omega) (fun d2 => ?_) (fun d2 => ?_)
        · refine kT_inl ⟨lf, rfl, l0, l1, Or.inl ⟨by omega, ?_, fun h => by omega⟩⟩
          rw [sgS_f (w := i + 1) (fun h => by rcases h with h | h; omega; exact h d2)]
          exact hq.1
        · refine kT_let (kT_inl ⟨lf + -1, rfl, by omega, by omega, Or.inl ⟨by omega, ?_, fun h => Or.inr d2⟩⟩)
          rw [sgS_t (w := i + 1) (Or.inr d2)]
          omega
    · refine kT_exit (kT_ri ?_)
      have st := hq.2 (by omega)
      have e := sgS_t st
      have e2 : seg = sgS pa i := by omega
      rw [e2, fiW_at hi st]
  · rintro s ⟨lf, rfl, l0, l1, hq⟩
    have hq : lf = seg - sgS pa n := by rcases hq with h | h; omega; exact h.2
    show kT (fM_firstOf_B4 lf (n : Nat) σ) _
    unfold fM_firstOf_B4 fM_firstOf_J50
    rw [h37]
    refine kT_ltf (by omega) (by omega) (kT_exit (kT_ri ?_))
    rw [show seg = sgS pa n by omega, fiW_end]
  · refine ⟨seg, rfl, hs.1, Int.le_refl _, ?_⟩
    by_cases n0 : n = 0
    · subst n0
      exact Or.inr ⟨rfl, by simp [sgS]⟩
    · refine Or.inl ⟨by omega, ?_, fun _ => Or.inl rfl⟩
      rw [sgS_t (w := 0) (Or.inl rfl)]
      simp [sgS]
theorem P_firsts {b : KB} {σ : KM} (h : frC b σ) (hl : hP b) {seg : Int} (hs : 0 ≤ seg ∧ seg < sgS (pB b) (nB b)) : σ 40 seg = fiW (pB b) (nB b) seg := by
  obtain ⟨w, h1, h2, h3⟩ := sg_ex (nB b) seg hs.1 hs.2
  have e := (h.p hl).2.2 w h1 h2
  have e2 := fiW_at h1 h2
  rw [h3] at e e2
  rw [e, e2]
theorem P_lastOf {b : KB} (hb : kB b) {σ : KM} (h : frC b σ) (hl : hP b) {seg : Int} (hs : 0 ≤ seg ∧ seg < sgS (pB b) (nB b)) : fFi_lastOf seg σ = some (fiW (pB b) (nB b) (seg + 1) - 1, σ) := by
  refine kT.eq ?_
  have hn := (XP_v hb).1
  have hn2 : nB b ≤ 48 := hn
  have sr := sgS_r (pB b) (nB b)
  have e1 : σ 8 1 = (nB b : Int) := h.2.1.1.1
  unfold fFi_lastOf fFi_lastOf_J29
  rw [(h.p hl).2.1, e1]
  refine kT_lt (by omega) (by omega) (fun c => ?_) (fun c => ?_)
  · refine kT_rd (by omega) (kT_ri ?_)
    rw [P_firsts h hl (by omega)]
  · refine kT_ri ?_
    rw [show seg + 1 = sgS (pB b) (nB b) by omega, fiW_end]
