/-! ===== pivot ===== -/
def rnS (g : Int → Int) (t : Int) : Nat → Int
  | 0 => g (tonS t 0)
  | l + 1 => if g (tonS t ((l + 1 : Nat) : Int)) < rnS g t l then g (tonS t ((l + 1 : Nat) : Int)) else rnS g t l
def snS (g : Int → Int) (t : Int) : Nat → Int
  | 0 => 1000000000
  | l + 1 => if g (tonS t (l : Int)) < snS g t l then g (tonS t (l : Int)) else snS g t l
theorem rnS_r {g : Int → Int} (hg : ∀ y, 0 ≤ g y ∧ g y ≤ 12800) (t : Int) : ∀ l : Nat, 0 ≤ rnS g t l ∧ rnS g t l ≤ 12800
  | 0 => hg _
  | l + 1 => by
    have := rnS_r hg t l
    have := hg (tonS t ((l + 1 : Nat) : Int))
    rw [rnS]
    split <;> omega
theorem snS_e {g : Int → Int} (hg : ∀ y, 0 ≤ g y ∧ g y ≤ 12800) (t : Int) : ∀ l : Nat, snS g t (l + 1) = rnS g t l
  | 0 => by
    have := hg (tonS t 0)
    show (if g (tonS t 0) < 1000000000 then g (tonS t 0) else 1000000000) = _
    rw [if_pos (by omega)]
    rfl
  | l + 1 => by rw [snS, snS_e hg t l, rnS]
def sdS (g : Int → Int) (t : Int) : Int := rnS g t 2
def pvS (g : Int → Int) (ka kb : Int) : Nat → Int × Int
  | 0 => (-1, 0)
  | t + 1 => if dgS t ka = -1 ∨ dgS t kb = -1 then pvS g ka kb t else if (pvS g ka kb t).2 < sdS g t then ((t : Int), sdS g t) else pvS g ka kb t
theorem sdS_r {g : Int → Int} (hg : ∀ y, 0 ≤ g y ∧ g y ≤ 12800) (t : Int) : 0 ≤ sdS g t ∧ sdS g t ≤ 12800 := rnS_r hg t 2
theorem pvS_r {g : Int → Int} (hg : ∀ y, 0 ≤ g y ∧ g y ≤ 12800) (ka kb : Int) : ∀ t : Nat, (-1 ≤ (pvS g ka kb t).1 ∧ (pvS g ka kb t).1 < t ∨ (pvS g ka kb t).1 = -1) ∧ (0 ≤ (pvS g ka kb t).2 ∧ (pvS g ka kb t).2 ≤ 12800) ∧ ((pvS g ka kb t).1 ≠ -1 → (pvS g ka kb t).2 = sdS g (pvS g ka kb t).1)
  | 0 => by simp [pvS]
  | t + 1 => by
    have h1 := pvS_r hg ka kb t
    have h2 := sdS_r hg t
    rw [pvS]
    split
    · omega
    · split
      · dsimp only
        exact ⟨Or.inl ⟨by omega, by omega⟩, h2, fun _ => rfl⟩
      · omega
def gB (b : KB) (w : Int) : Int → Int := fun t => cw b w t + cw b (w + 1) t
theorem gB_r {b : KB} (hb : kB b) (w y : Int) : 0 ≤ gB b w y ∧ gB b w y ≤ 12800 := by
  have := cw_r hb w y
  have := cw_r hb (w + 1) y
  unfold gB
  omega
theorem P_sound {b : KB} (hb : kB b) {σ : KM} (hW : wOK b σ) {w t : Int} (hw0 : 0 ≤ w ∧ w + 1 < wnS b) (ht : 0 ≤ t ∧ t < 36) : fWi_sound w t σ = some (sdS (gB b w) t, σ) := by
  refine kP ?_ (rfWi_sound w t σ)
  have wr := wnS_r hb
  have st : ∀ (i x : Int), 0 ≤ i → i < 3 → 0 ≤ x → x ≤ 1000000000 → fWi_sound_B6 w t x i σ = some (.inl (if gB b w (tonS t i) < x then gB b w (tonS t i) else x, i + 1, σ)) := by
    intro i x i0 i1 x0 x1
    refine kT.eq ?_
    have tr := tonS_r t i
    have gr := gB_r hb w (tonS t i)
    unfold fWi_sound_B6
    refine kT_ltt (by omega) (by omega) (kT_callE (P_toneOf ht (by omega) σ) (kT_rd (by omega) (kT_rd (by omega) (kT_let ?_))))
    rw [hW.2.1 w (tonS t i) (by omega) (by omega) tr.1 tr.2, hW.2.1 (w + 1) (tonS t i) (by omega) (by omega) tr.1 tr.2]
    change kT (kMn x (gB b w (tonS t i)) _) _
    exact kT_mn (by omega) (by omega) (kT_let ⟨_, rfl, rfl⟩)
  unfold fWi_sound fWi_sound_L6
  have sr : ∀ i : Nat, 0 ≤ snS (gB b w) t i ∧ snS (gB b w) t i ≤ 1000000000 := fun i => by
    cases i with
    | zero => rw [snS]; omega
    | succ i => rw [snS_e (fun y => gB_r hb w y)]; have := rnS_r (fun y => gB_r hb w y) t i; omega
  refine kT_for (fun i s => s = (snS (gB b w) t i, (i : Int), σ)) 3 ?_ ?_ 0 (by omega) kF _ rfl (kF_lt (by omega))
  · rintro i s hi rfl
    show kT (fWi_sound_B6 w t (snS (gB b w) t i) i σ) _
    rw [st i _ (by omega) (by omega) (sr i).1 (sr i).2]
    exact kT_inl rfl
  · rintro s rfl
    have e := snS_e (fun y => gB_r hb w y) t 2
    show kT (fWi_sound_B6 w t (snS (gB b w) t 3) 3 σ) _
    unfold fWi_sound_B6 fWi_sound_J62
    exact kT_ltf (by omega) (by omega) (kT_exit (kT_ri e))
theorem P_pivotTriad {b : KB} (hb : kB b) {σ : KM} (hW : wOK b σ) {w ka kb : Int} (hw0 : 0 ≤ w ∧ w + 1 < wnS b) (h1 : 0 ≤ ka ∧ ka < 24) (h2 : 0 ≤ kb ∧ kb < 24) : fWi_pivotTriad w ka kb σ = some ((pvS (gB b w) ka kb 36).1, σ) := by
  refine kP ?_ (rfWi_pivotTriad w ka kb σ)
  have gr := fun y => gB_r hb w y
  unfold fWi_pivotTriad fWi_pivotTriad_L9
  refine kT_for (fun i s => s = ((pvS (gB b w) ka kb i).1, (pvS (gB b w) ka kb i).2, (i : Int), σ)) 36 ?_ ?_ 0 (by omega) kF _ rfl (kF_lt (by omega))
  · rintro i s hi rfl
    have r1 := pvS_r gr ka kb i
    have r2 := sdS_r gr i
    have d1 := dgS_r i ka (by omega) h1
    have d2 := dgS_r i kb (by omega) h2
    show kT (fWi_pivotTriad_B9 w ka kb (pvS (gB b w) ka kb i).1 (pvS (gB b w) ka kb i).2 i σ) _
    unfold fWi_pivotTriad_B9 fWi_pivotTriad_J63
    refine kT_ltt (by omega) (by omega) (kT_callE (P_degreeOf (by omega) h1 σ) (kT_eq (by omega) (by omega) (fun c => ?_) (fun c => ?_)))
    · refine kT_let (kT_inl ?_)
      rw [pvS, if_pos (Or.inl c)]
      rfl
    · refine kT_callE (P_degreeOf (by omega) h2 σ) (kT_eq (by omega) (by omega) (fun c2 => ?_) (fun c2 => ?_))
      · refine kT_let (kT_inl ?_)
        rw [pvS, if_pos (Or.inr c2)]
        rfl
      · refine kT_callE (P_sound hb hW hw0 (by omega)) (kT_lt (by omega) (by omega) (fun c3 => ?_) (fun c3 => ?_))
        · refine kT_let (kT_inl ?_)
          rw [pvS, if_neg (by omega), if_pos c3]
          rfl
        · refine kT_let (kT_inl ?_)
          rw [pvS, if_neg (by omega), if_neg (by omega)]
          rfl
  · rintro s rfl
    show kT (fWi_pivotTriad_B9 w ka kb (pvS (gB b w) ka kb 36).1 (pvS (gB b w) ka kb 36).2 36 σ) _
    unfold fWi_pivotTriad_B9 fWi_pivotTriad_J69
    exact kT_ltf (by omega) (by omega) (kT_exit (kT_ri rfl))
def pvA (b : KB) (n1 : Nat) (x : Int) : Int := if (pvS (gB b ((n1 : Int) - 1)) (pB b (n1 - 1)) (pB b n1) 36).1 = -1 then -1 else if x = 0 then (pvS (gB b ((n1 : Int) - 1)) (pB b (n1 - 1)) (pB b n1) 36).1 else if x = 1 then dgS (pvS (gB b ((n1 : Int) - 1)) (pB b (n1 - 1)) (pB b n1) 36).1 (pB b (n1 - 1)) else if x = 2 then dgS (pvS (gB b ((n1 : Int) - 1)) (pB b (n1 - 1)) (pB b n1) 36).1 (pB b n1) else (pvS (gB b ((n1 : Int) - 1)) (pB b (n1 - 1)) (pB b n1) 36).2
def qPivot (b : KB) (seg x : Int) : Int := if hP b then (if seg < 0 ∨ sB b - 2 < seg then -2 else if x < 0 ∨ 3 < x then -2 else pvA b (fW b (seg + 1)).toNat x) else -5
theorem C_pivot {b : KB} {σ : KM} (hb : kB b) (h : CI b σ) {seg x : Int} (hs : i32 seg) (hx : i32 x) : kT (fP_pivot seg x σ) (fun z => z.1 = qPivot b seg x ∧ CI b z.2) := by
  have eN := nB_i hb
  have n48 := nB_48 hb
  unfold fP_pivot fP_pivot_J36 qPivot
  unfold i32 at hs
  refine kT_callT (C_noPath hb h) (fun r τ hz => ?_)
  obtain ⟨hr, hC, hF, hW⟩ := hz
  dsimp only at hr hC hF hW
  rw [hr]
  by_cases c : hP b
  · rw [if_pos c, if_pos c]
    have sr := sB_r hb
    have e12 : τ 8 12 = sB b := (hF.p c).2.1
    refine kT_eqt rfl (by omega) (kT_lt (by omega) (by omega) (fun d => ?_) (fun d => ?_))
    · rw [if_pos (by omega)]
      exact kT_ri ⟨rfl, hC⟩
    · rw [e12]
      refine kT_lt (by omega) (by omega) (fun d2 => ?_) (fun d2 => ?_)
      · rw [if_neg (by omega)]
        have hq : 0 ≤ seg ∧ seg < sgS (pB b) (nB b) := ⟨d, by unfold sB at d2; omega⟩
        have fr := fW_r (b := b) (seg := seg + 1) ⟨by omega, by omega⟩
        have fr0 := fW_r (b := b) (seg := seg) ⟨by omega, by omega⟩
        refine kT_callE (P_outOf (by omega) (by omega) hx τ) ?_
        by_cases d3 : x < 0 ∨ 3 < x
        · rw [if_pos d3, if_pos d3]
          exact kT_eqf (by omega) (by omega) (by omega) (kT_ri ⟨rfl, hC⟩)
        · rw [if_neg d3, if_neg d3]
          refine kT_eqt rfl (by omega) (kT_callE (P_lastOf hb hF c hq) ?_)
          rw [show fiW (pB b) (nB b) (seg + 1) = fW b (seg + 1) from rfl]
          have el : fW b (seg + 1) = (((fW b (seg + 1)).toNat : Nat) : Int) := by omega
          generalize (fW b (seg + 1)).toNat = n1 at el
          rw [el] at fr fr0 ⊢
          have p1 := pB_r hb c (w := n1 - 1) (by omega)
          have p2 := pB_r hb c (w := n1) (by omega)
          have e1 := (hF.p c).1 (n1 - 1) (by omega)
          have e2 := (hF.p c).1 n1 (by omega)
          rw [show ((n1 - 1 : Nat) : Int) = (n1 : Int) - 1 by omega] at e1
          refine kT_rd (by omega) ?_
          refine kT_rd (by omega) ?_
          rw [e1, show (n1 : Int) - 1 + 1 = n1 by omega, e2]
          have pr := pvS_r (g := gB b ((n1 : Int) - 1)) (fun y => gB_r hb ((n1 : Int) - 1) y) (pB b (n1 - 1)) (pB b n1) 36
          refine kT_callE (P_pivotTriad hb hW (by omega) p1 p2) ?_
          unfold pvA
          refine kT_eq (by omega) (by omega) (fun k1 => ?_) (fun k1 => ?_)
          · rw [if_pos k1]; exact kT_ri ⟨rfl, hC⟩
          · rw [if_neg k1]
            by_cases x3 : x = 3
            · subst x3
              refine kT_swe hx (fun hh => absurd hh.2 (by simp)) ?_
              refine kT_callE (P_sound hb hW (by omega) (by omega)) (kT_ri ⟨?_, hC⟩)
              exact (pr.2.2 k1).symm
            · refine kT_swi hx ⟨by omega, by simp; omega⟩ ?_
              rcases (show x = 0 ∨ x = 1 ∨ x = 2 by omega) with rfl | rfl | rfl
              · exact kT_ri ⟨rfl, hC⟩
              · exact kT_callE (P_degreeOf (by omega) p1 τ) (kT_ri ⟨rfl, hC⟩)
              · exact kT_callE (P_degreeOf (by omega) p2 τ) (kT_ri ⟨rfl, hC⟩)
      · rw [if_pos (by omega)]
        exact kT_ri ⟨rfl, hC⟩
  · rw [if_neg c, if_neg c]
    exact kT_eqf (by omega) (by omega) (by omega) (kT_ri ⟨rfl, hC⟩)
theorem M_pivot {b : KB} {σ : KM} (hb : kB b) (hm : mB b σ) {seg x : Int} (hs : i32 seg) (hx : i32 x) : kT (fM_pivot seg x σ) (fun z => z.1 = qPivot b seg x) := by
  have eN := nB_i hb
  have n48 := nB_48 hb
  unfold fM_pivot fM_pivot_J43 qPivot
  refine kT_wf (kT_callT (M_has hb hm.th) (fun r τ hz => ?_))
  obtain ⟨hr, hp⟩ := hz
  dsimp only at hr hp
  rw [hr]
  by_cases c : hP b
  · rw [if_pos c, if_pos c]
    have g := hp.g hb c
    have sr := sB_r hb
    refine kT_eqf (by omega) (by omega) (by omega) (kT_ck hs (kT_callE (M_segmentsNow n48 g.1 g.2) ?_))
    change kT (kCk (sB b - 2) (kCall (fM_isIn seg 0 (sB b - 2) τ) _)) _
    refine kT_ck (by omega) (kT_callE (M_isIn (by omega) (by omega) hs τ) ?_)
    by_cases d : seg < 0 ∨ sB b - 2 < seg
    · rw [if_pos d, if_pos d]
      exact kT_eqt rfl (by omega) (kT_ri rfl)
    rw [if_neg d, if_neg d]
    refine kT_eqf (by omega) (by omega) (by omega) (kT_ck hx (kT_callE (M_isIn (by omega) (by omega) hx τ) ?_))
    by_cases d3 : x < 0 ∨ 3 < x
    · rw [if_pos d3, if_pos d3]
      exact kT_eqt rfl (by omega) (kT_ri rfl)
    rw [if_neg d3, if_neg d3]
    have fr := fW_r (b := b) (seg := seg + 1) ⟨by omega, by omega⟩
    have fr0 := fW_r (b := b) (seg := seg) ⟨by omega, by omega⟩
    refine kT_eqf (by omega) (by omega) (by omega) (kT_callE (M_firstOf n48 g.1 g.2 (seg := seg + 1) ⟨by omega, by unfold sB at d; omega⟩) ?_)
    change kT (kCall (fM_countedIn (fW b (seg + 1) - 1) τ) fun _ τ12 => fM_pivot_L64 x (fW b (seg + 1)) 0 τ12) _
    have el : fW b (seg + 1) = (((fW b (seg + 1)).toNat : Nat) : Int) := by omega
    generalize (fW b (seg + 1)).toNat = n1 at el
    rw [el] at fr fr0 ⊢
    have p1 := pB_r hb c (w := n1 - 1) (by omega)
    have p2 := pB_r hb c (w := n1) (by omega)
    refine kT_callE (M_countedIn hb hp.1 (by omega)) ?_
    have hp1 := hp.in hb (w := (n1 : Int) - 1) (by omega)
    have g55 : ∀ y, 0 ≤ y → y < 12 → mMem τ (cw b ((n1 : Int) - 1)) (tw b ((n1 : Int) - 1)) 55 y = cw b ((n1 : Int) - 1) y := fun y a c => mMem_i ⟨a, c⟩
    generalize mMem τ (cw b ((n1 : Int) - 1)) (tw b ((n1 : Int) - 1)) = M0 at hp1 g55 ⊢
    unfold fM_pivot_L64
    refine kT_for (fun i s => ∃ M, s = ((i : Int), M) ∧ mP b M ∧ M 55 = M0 55 ∧ ∀ y : Int, 0 ≤ y → y < i → M 67 y = cw b ((n1 : Int) - 1) y) 12 ?_ ?_ 0 (by omega) kF _ ⟨M0, rfl, hp1, rfl, fun y _ h => by omega⟩ (kF_lt (by omega))
    · rintro i s hi ⟨M, rfl, hM, e55, h67⟩
      show kT (fM_pivot_B64 x n1 i M) _
      unfold fM_pivot_B64
      refine kT_ltt (by omega) (by omega) (kT_rd (by omega) (kT_wr (by omega) (kT_let (kT_inl ⟨_, rfl, hM.fr (W := [(67, none)]) (kFr.rf.put rfl) rfl rfl rfl, e55, fun y a0 a1 => ?_⟩))))
      by_cases e : y = i
      · rw [e, ks_s, e55]; exact g55 i (by omega) (by omega)
      · rw [ks_i e]; exact h67 y a0 (by omega)
    rintro s ⟨M, rfl, hM, e55, h67⟩
    show kT (fM_pivot_B64 x n1 12 M) _
    unfold fM_pivot_B64 fM_pivot_J91
    refine kT_ltf (by omega) (by omega) (kT_exit (kT_callE (M_countedIn hb hM.1 (by omega)) ?_))
    have hM1 := hM.in hb (w := (n1 : Int)) (by omega)
    have k55 : ∀ y, 0 ≤ y → y < 12 → mMem M (cw b n1) (tw b n1) 55 y = cw b n1 y := fun y a c => mMem_i ⟨a, c⟩
    have k67 : mMem M (cw b n1) (tw b n1) 67 = M 67 := rfl
    generalize mMem M (cw b n1) (tw b n1) = M1 at hM1 k55 k67 ⊢
    unfold fM_pivot_L99
    refine kT_for (fun i s => ∃ N, s = ((i : Int), N) ∧ mP b N ∧ N 55 = M1 55 ∧ (∀ y : Int, 0 ≤ y → y < i → N 67 y = gB b ((n1 : Int) - 1) y) ∧ ∀ y : Int, (i : Int) ≤ y → N 67 y = M1 67 y) 12 ?_ ?_ 0 (by omega) kF _ ⟨M1, rfl, hM1, rfl, fun y _ h => by omega, fun y _ => rfl⟩ (kF_lt (by omega))
    · rintro i s hi ⟨N, rfl, hN, e55, h67a, h67b⟩
      show kT (fM_pivot_B99 x n1 i N) _
      unfold fM_pivot_B99
      refine kT_ltt (by omega) (by omega) (kT_rd (by omega) (kT_rd (by omega) (kT_wr (by omega) (kT_let (kT_inl ⟨_, rfl, hN.fr (W := [(67, none)]) (kFr.rf.put rfl) rfl rfl rfl, e55, fun y a0 a1 => ?_, fun y a0 => ?_⟩)))))
      · by_cases e : y = i
        · rw [e, ks_s, e55, k55 i (by omega) (by omega), h67b i (by omega), k67, h67 i (by omega) (by omega)]
          unfold gB
          rw [show (n1 : Int) - 1 + 1 = n1 by omega]
        · rw [ks_i e]; exact h67a y a0 (by omega)
      · rw [ks_i (by omega)]; exact h67b y (by omega)
    rintro s ⟨N, rfl, hN, e55b, h67a, h67b⟩
    show kT (fM_pivot_B99 x n1 12 N) _
    unfold fM_pivot_B99 fM_pivot_J129 fM_pivot_L138
    refine kT_ltf (by omega) (by omega) (kT_exit ?_)
    have gr := fun y => gB_r hb ((n1 : Int) - 1) y
    have q1 := hN.w c (w := n1 - 1) (by omega)
    have q2 := hN.w c (w := n1) (by omega)
    rw [show ((n1 - 1 : Nat) : Int) = (n1 : Int) - 1 by omega] at q1
    unfold pvA
    generalize gB b ((n1 : Int) - 1) = gg at h67a gr ⊢
    generalize pB b (n1 - 1) = ka at p1 q1 ⊢
    generalize pB b n1 = kb at p2 q2 ⊢
    refine kT_for (fun i s => s = ((pvS gg ka kb i).1, (pvS gg ka kb i).2, (i : Int), N)) 36 ?_ ?_ 0 (by omega) kF _ rfl (kF_lt (by omega))
    · rintro i s hi rfl
      have r1 := pvS_r gr ka kb i
      have r2 := sdS_r gr i
      have d1 := dgS_r i ka (by omega) p1
      have d2 := dgS_r i kb (by omega) p2
      show kT (fM_pivot_B138 x n1 (pvS gg ka kb i).1 (pvS gg ka kb i).2 i N) _
      unfold fM_pivot_B138 fM_pivot_J262
      refine kT_ltt (by omega) (by omega) (kT_rd (by omega) ?_)
      rw [q1]
      refine kT_callE (M_degreeOf (by omega) p1 N) (kT_eq (by omega) (by omega) (fun c => ?_) (fun c => ?_))
      · refine kT_let (kT_inl ?_)
        rw [pvS, if_pos (Or.inl c)]
        rfl
      · refine kT_rd (by omega) ?_
        rw [q2]
        refine kT_callE (M_degreeOf (by omega) p2 N) (kT_eq (by omega) (by omega) (fun c2 => ?_) (fun c2 => ?_))
        · refine kT_let (kT_inl ?_)
          rw [pvS, if_pos (Or.inr c2)]
          rfl
        · have t0 := tonS_r i 0
          have t1 := tonS_r i 1
          have t2 := tonS_r i 2
          have g0 := gr (tonS i 0)
          have g1 := gr (tonS i 1)
          have g2 := gr (tonS i 2)
          refine kT_callE (M_toneOf (by omega) (by omega) N) (kT_rd (by omega) ?_)
          rw [h67a (tonS i 0) t0.1 t0.2]
          unfold fM_pivot_L196
          have stp : ∀ (j v : Int), 1 ≤ j → j < 3 → 0 ≤ v ∧ v ≤ 12800 → fM_pivot_B196 x n1 (pvS gg ka kb i).1 (pvS gg ka kb i).2 i v j N = some (.inl (if gg (tonS i j) < v then gg (tonS i j) else v, j + 1, N)) := by
            intro j v j0 j1 hv
            have tj := tonS_r i j
            have gj := gr (tonS i j)
            refine kT.eq ?_
            unfold fM_pivot_B196 fM_pivot_J236
            refine kT_ltt (by omega) (by omega) (kT_callE (M_toneOf (by omega) (by omega) N) (kT_rd (by omega) ?_))
            rw [h67a (tonS i j) tj.1 tj.2]
            refine kT_lt (by omega) (by omega) (fun k1 => ?_) (fun k1 => ?_)
            · refine kT_callE (M_toneOf (by omega) (by omega) N) (kT_rd (by omega) ?_)
              rw [h67a (tonS i j) tj.1 tj.2, if_pos k1]
              exact kT_let ⟨_, rfl, rfl⟩
            · rw [if_neg (by omega)]
              exact kT_let ⟨_, rfl, rfl⟩
          refine kT_for (fun l s => s = (rnS gg i l, ((l + 1 : Nat) : Int), N)) 2 ?_ ?_ 0 (by omega) kF _ rfl (kF_lt (by omega))
          · rintro l s hl rfl
            show kT (fM_pivot_B196 x n1 (pvS gg ka kb i).1 (pvS gg ka kb i).2 i (rnS gg i l) ((l + 1 : Nat) : Int) N) _
            rw [stp _ _ (by omega) (by omega) (rnS_r gr i l)]
            exact kT_inl rfl
          · rintro s rfl
            show kT (fM_pivot_B196 x n1 (pvS gg ka kb i).1 (pvS gg ka kb i).2 i (sdS gg i) 3 N) _
            unfold fM_pivot_B196 fM_pivot_J244 fM_pivot_J262
            refine kT_ltf (by omega) (by omega) (kT_exit (kT_lt (by omega) (by omega) (fun c3 => ?_) (fun c3 => ?_)))
            · refine kT_let (kT_inl ?_)
              rw [pvS, if_neg (by omega), if_pos c3]
              rfl
            · refine kT_let (kT_inl ?_)
              rw [pvS, if_neg (by omega), if_neg (by omega)]
              rfl
    · rintro s rfl
      have pr := pvS_r gr ka kb 36
      show kT (fM_pivot_B138 x n1 (pvS gg ka kb 36).1 (pvS gg ka kb 36).2 36 N) _
      unfold fM_pivot_B138 fM_pivot_J268 fM_pivot_J327
      refine kT_ltf (by omega) (by omega) (kT_exit (kT_eq (by omega) (by omega) (fun k1 => ?_) (fun k1 => ?_)))
      · rw [if_pos k1]; exact kT_ri rfl
      · rw [if_neg k1]
        rcases (show x = 0 ∨ x = 1 ∨ x = 2 ∨ x = 3 by omega) with rfl | rfl | rfl | rfl
        · exact kT_eqt rfl (by omega) (kT_ri rfl)
        · refine kT_eqf (by omega) (by omega) (by omega) (kT_eqt rfl (by omega) (kT_rd (by omega) ?_))
          rw [q1]
          exact kT_callE (M_degreeOf (by omega) p1 N) (kT_ri rfl)
        · refine kT_eqf (by omega) (by omega) (by omega) (kT_eqf (by omega) (by omega) (by omega) (kT_eqt rfl (by omega) (kT_rd (by omega) ?_)))
          rw [q2]
          exact kT_callE (M_degreeOf (by omega) p2 N) (kT_ri rfl)
        · exact kT_eqf (by omega) (by omega) (by omega) (kT_eqf (by omega) (by omega) (by omega) (kT_eqf (by omega) (by omega) (by omega) (kT_ri rfl)))
  · rw [if_neg c, if_neg c]
    exact kT_eqt rfl (by omega) (kT_ri rfl)
