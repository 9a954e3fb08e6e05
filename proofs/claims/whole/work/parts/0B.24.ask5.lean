/-! ===== confirmed, close ===== -/
def ocS (b : KB) (its first : Int) : Nat → Int
  | 0 => -1
  | v + 1 => if (v : Int) < first then -1 else if hw b v ≠ -1 ∧ hw b v ≠ its then (v : Int) else ocS b its first v
theorem ocS_r (b : KB) (its first : Int) : ∀ v : Nat, ocS b its first v = -1 ∨ (0 ≤ ocS b its first v ∧ first ≤ ocS b its first v ∧ ocS b its first v < v ∧ hw b (ocS b its first v) ≠ -1 ∧ hw b (ocS b its first v) ≠ its)
  | 0 => Or.inl rfl
  | v + 1 => by
    rw [ocS]
    by_cases c : (v : Int) < first
    · rw [if_pos c]; exact Or.inl rfl
    · rw [if_neg c]
      by_cases d : hw b v ≠ -1 ∧ hw b v ≠ its
      · rw [if_pos d]; exact Or.inr ⟨by omega, by omega, by omega, d.1, d.2⟩
      · rw [if_neg d]
        rcases ocS_r b its first v with h | h
        · exact Or.inl h
        · exact Or.inr ⟨h.1, h.2.1, by omega, h.2.2.2.1, h.2.2.2.2⟩
theorem P_otherChordAhead {b : KB} (hb : kB b) {σ : KM} (hW : wOK b σ) {w : Nat} (hw0 : (w : Int) < wnS b) {first : Int} (hf : 0 ≤ first ∧ first ≤ 48) : fWi_otherChordAhead w first σ = some (ocS b (hw b w) first w, σ) := by
  refine kP ?_ (rfWi_otherChordAhead w first σ)
  have wr := wnS_r hb
  have hi := hw_r hb w
  unfold fWi_otherChordAhead fWi_otherChordAhead_L4
  refine kT_let ?_
  refine kT_for (fun i s => s = ((w : Int) - 1 - i, σ) ∧ ocS b (hw b w) first (w - i) = ocS b (hw b w) first w) w ?_ ?_ 0 (by omega) kF _ ⟨by simp, rfl⟩ (kF_lt (by omega))
  · rintro i s hi0 ⟨rfl, ho⟩
    have e : w - i = (w - 1 - i) + 1 := by omega
    have ev : ((w - 1 - i : Nat) : Int) = (w : Int) - 1 - i := by omega
    have h2 := hw_r hb ((w : Int) - 1 - i)
    rw [e, ocS, ev] at ho
    show kT (fWi_otherChordAhead_B4 w first ((w : Int) - 1 - i) σ) _
    unfold fWi_otherChordAhead_B4 fWi_otherChordAhead_J42 fWi_otherChordAhead_J36 fWi_otherChordAhead_J34
    refine kT_lt (by omega) (by omega) (fun c => ?_) (fun c => ?_)
    · rw [if_pos c] at ho
      exact kT_exit (kT_ri ho)
    · rw [if_neg (by omega)] at ho
      refine kT_rd (by omega) ?_
      rw [(hW.2.2.1 ((w : Int) - 1 - i) (by omega) (by omega)).2]
      refine kT_eq (by omega) (by omega) (fun d => ?_) (fun d => ?_)
      · rw [if_neg (fun h => h.1 d)] at ho
        refine kT_let (kT_inl ⟨?_, ?_⟩)
        · refine Prod.ext ?_ rfl
          dsimp only
          omega
        · rw [show w - (i + 1) = w - 1 - i by omega]; exact ho
      · refine kT_rd (by omega) (kT_rd (by omega) ?_)
        rw [(hW.2.2.1 ((w : Int) - 1 - i) (by omega) (by omega)).2, (hW.2.2.1 w (by omega) (by omega)).2]
        refine kT_eq (by omega) (by omega) (fun d2 => ?_) (fun d2 => ?_)
        · rw [if_neg (fun h => h.2 d2)] at ho
          refine kT_let (kT_inl ⟨?_, ?_⟩)
          · refine Prod.ext ?_ rfl
            dsimp only
            omega
          · rw [show w - (i + 1) = w - 1 - i by omega]; exact ho
        · rw [if_pos ⟨d, d2⟩] at ho
          exact kT_exit (kT_ri ho)
  · rintro s ⟨rfl, ho⟩
    rw [Nat.sub_self, ocS] at ho
    show kT (fWi_otherChordAhead_B4 w first ((w : Int) - 1 - (w : Nat)) σ) _
    unfold fWi_otherChordAhead_B4 fWi_otherChordAhead_J42
    exact kT_ltt (by omega) (by omega) (kT_exit (kT_ri ho))
def bfS (b : KB) (first : Int) (w : Nat) : Int := if ocS b (hw b w) first w = -1 then 0 else if rmS b (ocS b (hw b w) first w) = 5 then 1 else 0
theorem M_isBehindFifth {b : KB} (hb : kB b) {σ : KM} (hp : mP b σ) (hl : hP b) {w : Nat} (hw0 : (w : Int) < wnS b) {first : Int} (hf : 0 ≤ first ∧ first ≤ 48) : kT (fM_isBehindFifth first w σ) (fun z => z.1 = bfS b first w ∧ mP b z.2) := by
  have wr := wnS_r hb
  have eN := nB_i hb
  have hi := hw_r hb w
  unfold fM_isBehindFifth
  refine kT_callE (M_countedIn hb hp.1 (by omega)) (kT_callE (M_chordIn hb w) (kT_let ?_))
  have hp1 := hp.in hb (w := w) (by omega)
  generalize mMem σ (cw b w) (tw b w) = M0 at hp1 ⊢
  unfold fM_isBehindFifth_L15
  refine kT_for (fun i s => ∃ M, s = ((w : Int) - 1 - i, M) ∧ mP b M ∧ ocS b (hw b w) first (w - i) = ocS b (hw b w) first w) w ?_ ?_ 0 (by omega) kF _ ⟨M0, by simp, hp1, rfl⟩ (kF_lt (by omega))
  · rintro i s hi0 ⟨M, rfl, hM, ho⟩
    have e : w - i = (w - 1 - i) + 1 := by omega
    have ev : ((w - 1 - i : Nat) : Int) = (w : Int) - 1 - i := by omega
    rw [e, ocS, ev] at ho
    show kT (fM_isBehindFifth_B15 first (hw b w) ((w : Int) - 1 - i) M) _
    unfold fM_isBehindFifth_B15 fM_isBehindFifth_J72 fM_isBehindFifth_J66
    refine kT_lt (by omega) (by omega) (fun c => ?_) (fun c => ?_)
    · rw [if_pos c] at ho
      refine kT_exit (kT_rz (by omega) ⟨?_, hM⟩)
      unfold bfS
      rw [if_pos ho.symm]
    · rw [if_neg (by omega)] at ho
      have h2 := hw_r hb ((w : Int) - 1 - i)
      have tr := tw_r hb ((w : Int) - 1 - i)
      have hM2 := hM.in hb (w := (w : Int) - 1 - i) (by omega)
      refine kT_callE (M_countedIn hb hM.1 (by omega)) ?_
      rw [mMem_t]
      refine kT_lt (by omega) (by omega) (fun d => ?_) (fun d => ?_)
      · have d1 : hw b ((w : Int) - 1 - i) ≠ -1 := fun e => by have := h2.2.2.mp e; omega
        refine kT_callE (M_chordIn hb ((w : Int) - 1 - i)) (kT_eq (by omega) (by omega) (fun d2 => ?_) (fun d2 => ?_))
        · rw [if_neg (fun h => h.2 d2)] at ho
          refine kT_let (kT_inl ⟨_, ?_, hM2, ?_⟩)
          · refine Prod.ext ?_ rfl
            dsimp only
            omega
          · rw [show w - (i + 1) = w - 1 - i by omega]; exact ho
        · rw [if_pos ⟨d1, d2⟩] at ho
          have e63 := hM2.w hl (w := w - 1 - i) (by omega)
          have pr := pB_r hb hl (w := w - 1 - i) (by omega)
          rw [ev] at e63
          have er : rmS b ((w : Int) - 1 - i) = dgS (hw b ((w : Int) - 1 - i)) (pB b (w - 1 - i)) := by
            unfold rmS
            rw [if_neg d1, show ((w : Int) - 1 - i).toNat = w - 1 - i by omega]
          have dr := dgS_r (hw b ((w : Int) - 1 - i)) (pB b (w - 1 - i)) (by omega) pr
          refine kT_exit ?_
          unfold fM_isBehindFifth_J42 fM_isBehindFifth_J65
          refine kT_callE (M_chordIn hb ((w : Int) - 1 - i)) (kT_rd (by omega) ?_)
          rw [e63]
          refine kT_callE (M_degreeOf (by omega) pr _) ?_
          unfold bfS
          rw [← ho, if_neg (by omega), er]
          refine kT_eq (by omega) (by omega) (fun d3 => ?_) (fun d3 => ?_)
          · rw [if_pos d3]; exact kT_rz (by omega) ⟨rfl, hM2⟩
          · rw [if_neg d3]; exact kT_rz (by omega) ⟨rfl, hM2⟩
      · have d1 : hw b ((w : Int) - 1 - i) = -1 := h2.2.2.mpr (by omega)
        rw [if_neg (fun h => h.1 d1)] at ho
        refine kT_let (kT_inl ⟨_, ?_, hM2, ?_⟩)
        · refine Prod.ext ?_ rfl
          dsimp only
          omega
        · rw [show w - (i + 1) = w - 1 - i by omega]; exact ho
  · rintro s ⟨M, rfl, hM, ho⟩
    rw [Nat.sub_self, ocS] at ho
    show kT (fM_isBehindFifth_B15 first (hw b w) ((w : Int) - 1 - (w : Nat)) M) _
    unfold fM_isBehindFifth_B15 fM_isBehindFifth_J72
    refine kT_ltt (by omega) (by omega) (kT_exit (kT_rz (by omega) ⟨?_, hM⟩))
    unfold bfS
    rw [if_pos ho.symm]
def cfS (b : KB) (first : Int) : Nat → Int
  | 0 => -1
  | w + 1 => if cfS b first w = -1 then (if first ≤ (w : Int) ∧ rmS b w = 1 ∧ bfS b first w = 1 then (w : Int) else -1) else cfS b first w
theorem cfS_k {b : KB} {first : Int} {i : Nat} (h : cfS b first i ≠ -1) : ∀ j : Nat, cfS b first (i + j) = cfS b first i
  | 0 => rfl
  | j + 1 => by
    have := cfS_k h j
    show cfS b first ((i + j) + 1) = _
    rw [cfS, if_neg (by rw [this]; exact h)]
    exact this
theorem cfS_0 {b : KB} {first : Int} : ∀ w : Nat, (w : Int) ≤ first → cfS b first w = -1
  | 0, _ => rfl
  | w + 1, h => by rw [cfS, if_pos (cfS_0 w (by omega)), if_neg (by omega)]
theorem cfS_y {b : KB} {first : Int} {w n : Nat} (hn : w < n) (h : cfS b first w = -1) (c : first ≤ (w : Int) ∧ rmS b w = 1 ∧ bfS b first w = 1) : cfS b first n = w := by
  have e1 : cfS b first (w + 1) = w := by rw [cfS, if_pos h, if_pos c]
  have e2 := cfS_k (b := b) (first := first) (i := w + 1) (by rw [e1]; omega) (n - (w + 1))
  rw [show w + 1 + (n - (w + 1)) = n by omega, e1] at e2
  exact e2
theorem cfS_no {b : KB} {first : Int} {w : Nat} (h : cfS b first w = -1) (c : ¬ (rmS b w = 1 ∧ bfS b first w = 1)) : cfS b first (w + 1) = -1 := by
  rw [cfS, if_pos h, if_neg (fun h => c h.2)]
def qConf (b : KB) (seg : Int) : Int := if hP b then (if seg < 0 ∨ sB b - 1 < seg then -2 else cfS b (fW b seg) (fW b (seg + 1)).toNat) else -5
theorem fW_r {b : KB} {seg : Int} (h : 0 ≤ seg ∧ seg < sB b) : (0 ≤ fW b seg ∧ fW b seg < nB b) ∧ (0 < fW b (seg + 1) ∧ fW b (seg + 1) ≤ nB b) ∧ fW b seg < fW b (seg + 1) := by
  have h1 := fiW_r (pa := pB b) (n := nB b) (seg := seg) ⟨h.1, by have := h.2; unfold sB at this; omega⟩
  have h2 := fiW_r (pa := pB b) (n := nB b) (seg := seg + 1) ⟨by omega, by have := h.2; unfold sB at this; omega⟩
  have h3 := h1.2.2.1 h.2
  refine ⟨⟨h1.1, h3⟩, ⟨h2.2.2.2 (by omega), h2.2.1⟩, ?_⟩
  obtain ⟨w, w1, w2, w3⟩ := sg_ex (nB b) seg h.1 h.2
  have e := fiW_at w1 w2
  rw [w3] at e
  unfold fW
  rw [e]
  by_cases c : seg + 1 < sgS (pB b) (nB b)
  · obtain ⟨v, v1, v2, v3⟩ := sg_ex (nB b) (seg + 1) (by omega) c
    have e2 := fiW_at v1 v2
    rw [v3] at e2
    rw [e2]
    by_cases d : v ≤ w
    · have := sgS_m (pB b) v (w - v)
      rw [show v + (w - v) = w by omega] at this
      omega
    · omega
  · have e3 : seg + 1 = sgS (pB b) (nB b) := by have := h.2; unfold sB at this; omega
    rw [e3, fiW_end]
    omega
theorem C_confirmed {b : KB} {σ : KM} (hb : kB b) (h : CI b σ) {seg : Int} (hs : i32 seg) : kT (fP_confirmed seg σ) (fun z => z.1 = qConf b seg ∧ CI b z.2) := by
  have eN := nB_i hb
  have n48 := nB_48 hb
  unfold fP_confirmed fP_confirmed_J25 qConf
  unfold i32 at hs
  refine kT_callT (C_noPath hb h) (fun r τ hz => ?_)
  obtain ⟨hr, hC, hF, hW⟩ := hz
  dsimp only at hr hC hF hW
  rw [hr]
  by_cases c : hP b
  · rw [if_pos c, if_pos c]
    have sr := sB_r hb
    have e12 : τ 8 12 = sB b := (hF.p c).2.1
    refine kT_eqt rfl (by omega) (kT_lt (by omega) (by omega) (fun d => ?_) (fun d => ?_))
    · rw [if_pos (by omega)]
      exact kT_ri ⟨rfl, hC⟩
    · rw [e12]
      refine kT_lt (by omega) (by omega) (fun d2 => ?_) (fun d2 => ?_)
      · rw [if_neg (by omega)]
        have hq : 0 ≤ seg ∧ seg < sgS (pB b) (nB b) := ⟨d, d2⟩
        have fr := fW_r (b := b) ⟨d, d2⟩
        refine kT_rd (by omega) ?_
        rw [P_firsts hF c hq]
        refine kT_callE (P_lastOf hb hF c hq) ?_
        change kT (fP_confirmed_L50 (fW b seg) (fW b (seg + 1) - 1) (fW b seg) τ) _
        generalize fW b seg = f1 at fr ⊢
        generalize fW b (seg + 1) = f2 at fr ⊢
        unfold fP_confirmed_L50
        refine kT_for (fun i s => s = (f1 + i, τ) ∧ cfS b f1 (f1.toNat + i) = -1) (f2 - f1).toNat ?_ ?_ 0 (by omega) kF _ ⟨by simp, cfS_0 _ (by omega)⟩ (kF_lt (by omega))
        · rintro i s hi ⟨rfl, hcf⟩
          have ew : f1 + (i : Int) = ((f1.toNat + i : Nat) : Int) := by omega
          have rr := rmS_r hb c (w := ((f1.toNat + i : Nat) : Int)) (by omega)
          have oc := ocS_r b (hw b ((f1.toNat + i : Nat) : Int)) f1 (f1.toNat + i)
          show kT (fP_confirmed_B50 f1 (f2 - 1) (f1 + i) τ) _
          unfold fP_confirmed_B50 fP_confirmed_J97 fP_confirmed_J94
          rw [ew]
          refine kT_ltf (by omega) (by omega) (kT_callE (P_otherChordAhead hb hW (by omega) (by omega)) ?_)
          refine kT_callE (P_romanOf hb hF hW c (by omega)) (kT_eq (by omega) (by omega) (fun k1 => ?_) (fun k1 => ?_))
          · refine kT_eq (by omega) (by omega) (fun k2 => ?_) (fun k2 => ?_)
            · refine kT_let (kT_inl ⟨Prod.ext (by dsimp only; omega) rfl, cfS_no (w := f1.toNat + i) hcf (fun hh => ?_)⟩)
              have := hh.2
              unfold bfS at this
              rw [if_pos k2] at this
              omega
            · have r2 := rmS_r hb c (w := ocS b (hw b ((f1.toNat + i : Nat) : Int)) f1 (f1.toNat + i)) (by omega)
              refine kT_callE (P_romanOf hb hF hW c (by omega)) (kT_eq (by omega) (by omega) (fun k3 => ?_) (fun k3 => ?_))
              · refine kT_exit (kT_ri ⟨?_, hC⟩)
                refine (cfS_y (by omega) hcf ⟨by omega, k1, ?_⟩).symm
                unfold bfS
                rw [if_neg k2, if_pos k3]
              · refine kT_let (kT_inl ⟨Prod.ext (by dsimp only; omega) rfl, cfS_no (w := f1.toNat + i) hcf (fun hh => ?_)⟩)
                have := hh.2
                unfold bfS at this
                rw [if_neg k2, if_neg k3] at this
                omega
          · exact kT_let (kT_inl ⟨Prod.ext (by dsimp only; omega) rfl, cfS_no (w := f1.toNat + i) hcf (fun hh => k1 hh.1)⟩)
        · rintro s ⟨rfl, hcf⟩
          show kT (fP_confirmed_B50 f1 (f2 - 1) (f1 + ((f2 - f1).toNat : Nat)) τ) _
          unfold fP_confirmed_B50 fP_confirmed_J103
          rw [show f1.toNat + (f2 - f1).toNat = f2.toNat by omega] at hcf
          exact kT_ltt (by omega) (by omega) (kT_exit (kT_ri ⟨hcf.symm, hC⟩))
      · rw [if_pos (by omega)]
        exact kT_ri ⟨rfl, hC⟩
  · rw [if_neg c, if_neg c]
    exact kT_eqf (by omega) (by omega) (by omega) (kT_ri ⟨rfl, hC⟩)
theorem M_confirmed {b : KB} {σ : KM} (hb : kB b) (hm : mB b σ) {seg : Int} (hs : i32 seg) : kT (fM_confirmed seg σ) (fun z => z.1 = qConf b seg) := by
  have eN := nB_i hb
  have n48 := nB_48 hb
  unfold fM_confirmed qConf
  refine kT_wf (kT_callT (M_has hb hm.th) (fun r τ hz => ?_))
  obtain ⟨hr, hp⟩ := hz
  dsimp only at hr hp
  rw [hr]
  by_cases c : hP b
  · rw [if_pos c, if_pos c]
    have g := hp.g hb c
    have sr := sB_r hb
    refine kT_eqf (by omega) (by omega) (by omega) (kT_ck hs (kT_callE (M_segmentsNow n48 g.1 g.2) ?_))
    change kT (kCk (sB b - 1) (kCall (fM_isIn seg 0 (sB b - 1) τ) _)) _
    refine kT_ck (by omega) (kT_callE (M_isIn (by omega) (by omega) hs τ) ?_)
    by_cases d : seg < 0 ∨ sB b - 1 < seg
    · rw [if_pos d, if_pos d]
      exact kT_eqt rfl (by omega) (kT_ri rfl)
    · rw [if_neg d, if_neg d]
      have hq : 0 ≤ seg ∧ seg < sgS (pB b) (nB b) := ⟨by omega, by unfold sB at d; omega⟩
      have fr := fW_r (b := b) hq
      refine kT_eqf (by omega) (by omega) (by omega) (kT_callE (M_firstOf n48 g.1 g.2 (seg := seg) ⟨hq.1, by omega⟩) (kT_callE (M_firstOf n48 g.1 g.2 (seg := seg + 1) ⟨by omega, by omega⟩) ?_))
      change kT (fM_confirmed_L51 (fW b seg) (fW b (seg + 1)) (fW b seg) τ) _
      generalize fW b seg = f1 at fr ⊢
      generalize fW b (seg + 1) = f2 at fr ⊢
      unfold fM_confirmed_L51
      refine kT_for (fun i s => ∃ M, s = (f1 + i, M) ∧ mP b M ∧ cfS b f1 (f1.toNat + i) = -1) (f2 - f1).toNat ?_ ?_ 0 (by omega) kF _ ⟨τ, by simp, hp, cfS_0 _ (by omega)⟩ (kF_lt (by omega))
      · rintro i s hi ⟨M, rfl, hM, hcf⟩
        have ew : f1 + (i : Int) = ((f1.toNat + i : Nat) : Int) := by omega
        have rr := rmS_r hb c (w := ((f1.toNat + i : Nat) : Int)) (by omega)
        show kT (fM_confirmed_B51 f1 f2 (f1 + i) M) _
        unfold fM_confirmed_B51 fM_confirmed_J80 fM_confirmed_J77
        rw [ew]
        have hM1 := hM.in hb (w := ((f1.toNat + i : Nat) : Int)) (by omega)
        refine kT_ltt (by omega) (by omega) (kT_callE (M_romanNow hb hM c (by omega)) (kT_eq (by omega) (by omega) (fun k1 => ?_) (fun k1 => ?_)))
        · refine kT_callT (M_isBehindFifth hb hM1 c (by omega) (by omega)) (fun r τ2 hz => ?_)
          obtain ⟨hr2, hM2⟩ := hz
          dsimp only at hr2 hM2
          rw [hr2]
          have br2 : bfS b f1 (f1.toNat + i) = 0 ∨ bfS b f1 (f1.toNat + i) = 1 := by
            unfold bfS
            split
            · exact Or.inl rfl
            · split
              · exact Or.inr rfl
              · exact Or.inl rfl
          refine kT_eq (by omega) (by omega) (fun k2 => ?_) (fun k2 => ?_)
          · exact kT_let (kT_inl ⟨_, Prod.ext (by dsimp only; omega) rfl, hM2, cfS_no (w := f1.toNat + i) hcf (fun hh => by omega)⟩)
          · refine kT_exit (kT_ri ?_)
            exact (cfS_y (by omega) hcf ⟨by omega, k1, by omega⟩).symm
        · exact kT_let (kT_inl ⟨_, Prod.ext (by dsimp only; omega) rfl, hM1, cfS_no (w := f1.toNat + i) hcf (fun hh => k1 hh.1)⟩)
      · rintro s ⟨M, rfl, hM, hcf⟩
        show kT (fM_confirmed_B51 f1 f2 (f1 + ((f2 - f1).toNat : Nat)) M) _
        unfold fM_confirmed_B51 fM_confirmed_J86
        rw [show f1.toNat + (f2 - f1).toNat = f2.toNat by omega] at hcf
        exact kT_ltf (by omega) (by omega) (kT_exit (kT_ri hcf.symm))
  · rw [if_neg c, if_neg c]
    exact kT_eqt rfl (by omega) (kT_ri rfl)
