/-! ===== count, note, fault ===== -/
def siS (b : KB) : Nat → Int
  | 0 => 0
  | w + 1 => if tw b w = 0 then siS b w + 1 else siS b w
theorem siS_r (b : KB) : ∀ w : Nat, 0 ≤ siS b w ∧ siS b w ≤ w
  | 0 => by simp [siS]
  | w + 1 => by
    have := siS_r b w
    rw [siS]
    split <;> omega
def qCount (b : KB) (hn tn x : Int) : Int := if x < 0 ∨ 11 < x then -1 else ([(bn b : Int), wnS b, eS b, hn, tn, bw b, bh b, siS b (nB b), bf b, br b, ba b, bx b] : List Int).getD x.toNat 0
theorem P_silentOnes {b : KB} (hb : kB b) {σ : KM} (hW : wOK b σ) : fWi_silentOnes σ = some (siS b (nB b), σ) := by
  refine kP ?_ (rfWi_silentOnes σ)
  have eN := nB_i hb
  have n48 := nB_48 hb
  unfold fWi_silentOnes fWi_silentOnes_L4
  refine kT_for (fun i s => s = (siS b i, (i : Int), σ)) (nB b) ?_ ?_ 0 (by omega) kF _ rfl (kF_lt (by omega))
  · rintro i s hi rfl
    have tr := tw_r hb i
    show kT (fWi_silentOnes_B4 (siS b i) i σ) _
    unfold fWi_silentOnes_B4 fWi_silentOnes_J24
    rw [hW.1]
    refine kT_ltt (by omega) (by omega) (kT_rd (by omega) ?_)
    rw [(hW.2.2.1 i (by omega) (by omega)).1]
    refine kT_eq (by omega) (by omega) (fun d => ?_) (fun d => ?_)
    · refine kT_let (kT_let (kT_inl ?_))
      rw [siS, if_pos d]
      rfl
    · refine kT_let (kT_inl ?_)
      rw [siS, if_neg d]
      rfl
  · rintro s rfl
    show kT (fWi_silentOnes_B4 (siS b (nB b)) (nB b : Nat) σ) _
    unfold fWi_silentOnes_B4 fWi_silentOnes_J30
    rw [hW.1]
    exact kT_ltf (by omega) (by omega) (kT_exit (kT_ri rfl))
theorem C_count {b : KB} {σ : KM} (hb : kB b) (h : CI b σ) {hn tn x : Int} (h4 : σ 4 5 = hn) (h1 : σ 1 1 = tn) (hx : i32 x) : kT (fP_count x σ) (fun z => z.1 = qCount b hn tn x ∧ CI b z.2) := by
  unfold fP_count qCount
  refine kT_callT (kT.fr (C_freshWindows hb h) (rfP_freshWindows σ)) (fun r τ hz => ?_)
  obtain ⟨⟨hC, hW⟩, hf⟩ := hz
  dsimp only at hC hW hf
  have e4 : τ 4 5 = hn := by rw [← h4]; exact hf.slot rfl
  have e1 : τ 1 1 = tn := by rw [← h1]; exact hf.slot rfl
  by_cases c : x < 0 ∨ 11 < x
  · rw [if_pos c]
    exact kT_swe hx (by simp; omega) (kT_ri ⟨rfl, hC⟩)
  · rw [if_neg c]
    refine kT_swi hx ⟨by omega, by simp; omega⟩ ?_
    rcases (show x = 0 ∨ x = 1 ∨ x = 2 ∨ x = 3 ∨ x = 4 ∨ x = 5 ∨ x = 6 ∨ x = 7 ∨ x = 8 ∨ x = 9 ∨ x = 10 ∨ x = 11 by omega) with rfl | rfl | rfl | rfl | rfl | rfl | rfl | rfl | rfl | rfl | rfl | rfl
    · exact kT_ri ⟨hC.1.1.1, hC⟩
    · exact kT_ri ⟨hW.1, hC⟩
    · exact kT_callE (P_end hC.1.1 hb.1) (kT_ri ⟨rfl, hC⟩)
    · exact kT_ri ⟨e4, hC⟩
    · exact kT_ri ⟨e1, hC⟩
    · exact kT_ri ⟨hC.1.2.1.1, hC⟩
    · exact kT_ri ⟨hC.1.2.1.2, hC⟩
    · exact kT_callE (P_silentOnes hb hW) (kT_ri ⟨rfl, hC⟩)
    · exact kT_ri ⟨hC.1.2.2.2.2.1, hC⟩
    · exact kT_ri ⟨hC.1.2.2.2.2.2.1, hC⟩
    · exact kT_ri ⟨hC.1.2.2.2.2.2.2.1, hC⟩
    · exact kT_ri ⟨hC.1.2.2.2.2.2.2.2, hC⟩
theorem M_count {b : KB} {σ : KM} (hb : kB b) (hm : mB b σ) {hn tn x : Int} (h4 : σ 10 10 = hn) (h1 : σ 10 20 = tn) (hx : i32 x) : kT (fM_count x σ) (fun z => z.1 = qCount b hn tn x) := by
  have eN := nB_i hb
  have n48 := nB_48 hb
  unfold fM_count qCount
  refine kT_wf ?_
  have hm1 := hm.th
  have e4 : ks σ 10 0 0 10 10 = hn := by rw [ks_i (by decide)]; exact h4
  have e1 : ks σ 10 0 0 10 20 = tn := by rw [ks_i (by decide)]; exact h1
  generalize ks σ 10 0 0 = M at hm1 e4 e1 ⊢
  by_cases c : x < 0 ∨ 11 < x
  · rw [if_pos c]
    exact kT_swe hx (by simp; omega) (kT_ri rfl)
  · rw [if_neg c]
    refine kT_swi hx ⟨by omega, by simp; omega⟩ ?_
    rcases (show x = 0 ∨ x = 1 ∨ x = 2 ∨ x = 3 ∨ x = 4 ∨ x = 5 ∨ x = 6 ∨ x = 7 ∨ x = 8 ∨ x = 9 ∨ x = 10 ∨ x = 11 by omega) with rfl | rfl | rfl | rfl | rfl | rfl | rfl | rfl | rfl | rfl | rfl | rfl
    · exact kT_ri hm1.1.1
    · exact kT_callE (M_windowMany hb hm1) (kT_ri rfl)
    · exact kT_callE (M_theEnd hm1.1 hb.1) (kT_ri rfl)
    · exact kT_ri e4
    · exact kT_ri e1
    · exact kT_ri hm1.2.1.1
    · exact kT_ri hm1.2.1.2
    · show kT (fM_count_L107 0 0 M) (fun z => z.1 = siS b (nB b))
      unfold fM_count_L107
      refine kT_for (fun i s => ∃ N, s = (siS b i, (i : Int), N) ∧ mB b N) (nB b) ?_ ?_ 0 (by omega) kF _ ⟨M, rfl, hm1⟩ (kF_lt (by omega))
      · rintro i s hi ⟨N, rfl, hN⟩
        have tr := tw_r hb i
        have hN2 := hN.in hb (w := (i : Int)) (by omega)
        show kT (fM_count_B107 (siS b i) i N) _
        unfold fM_count_B107 fM_count_J133
        refine kT_callE (M_windowMany hb hN) (kT_ltt (by omega) (by omega) (kT_callE (M_countedIn hb hN (by omega)) ?_))
        rw [mMem_t]
        refine kT_eq (by omega) (by omega) (fun d => ?_) (fun d => ?_)
        · refine kT_let (kT_let (kT_inl ⟨_, ?_, hN2⟩))
          rw [siS, if_pos d]
          rfl
        · refine kT_let (kT_let (kT_inl ⟨_, ?_, hN2⟩))
          rw [siS, if_neg d, Int.add_zero]
          rfl
      · rintro s ⟨N, rfl, hN⟩
        show kT (fM_count_B107 (siS b (nB b)) (nB b : Nat) N) _
        unfold fM_count_B107 fM_count_J141
        exact kT_callE (M_windowMany hb hN) (kT_ltf (by omega) (by omega) (kT_exit (kT_ri rfl)))
    · exact kT_ri hm1.2.2.2.2.1
    · exact kT_ri hm1.2.2.2.2.2.1
    · exact kT_ri hm1.2.2.2.2.2.2.1
    · exact kT_ri hm1.2.2.2.2.2.2.2
def qNote (b : KB) (i x : Int) : Int := if i < 0 ∨ (bn b : Int) - 1 < i then -2 else if x < 0 ∨ 3 < x then -2 else if x = 0 then bt b i else if x = 1 then bl b i else if x = 2 then bp b i else bp b i % 12
theorem C_note {b : KB} {σ : KM} (hb : kB b) (h : CI b σ) {i x : Int} (hi : i32 i) (hx : i32 x) : fP_note i x σ = some (qNote b i x, σ) := by
  refine kT.eq ?_
  have n100 := hb.1.1
  unfold i32 at hi
  unfold fP_note fP_note_J15 qNote
  refine kT_lt (by omega) (by omega) (fun c => ?_) (fun c => ?_)
  · rw [if_pos (by omega)]; exact kT_ri rfl
  · rw [h.1.1.1]
    refine kT_lt (by omega) (by omega) (fun c2 => ?_) (fun c2 => ?_)
    · rw [if_neg (by omega)]
      have q := h.1.1.2 i (by omega) (by omega)
      have v := hb.1.2 i (by omega) (by omega)
      by_cases d : x < 0 ∨ 3 < x
      · rw [if_pos d]
        exact kT_swe hx (by simp; omega) (kT_ri rfl)
      · rw [if_neg d]
        refine kT_swi hx ⟨by omega, by simp; omega⟩ ?_
        rcases (show x = 0 ∨ x = 1 ∨ x = 2 ∨ x = 3 by omega) with rfl | rfl | rfl | rfl
        · show kT (kRd σ 16 100 i fun y1 => kRetI y1 σ) _
          refine kT_rd (by omega) (kT_ri ?_)
          rw [q.1, if_pos rfl]
        · show kT (kRd σ 17 100 i fun y1 => kRetI y1 σ) _
          refine kT_rd (by omega) (kT_ri ?_)
          rw [q.2.1, if_neg (by omega), if_pos rfl]
        · show kT (kRd σ 18 100 i fun y1 => kRetI y1 σ) _
          refine kT_rd (by omega) (kT_ri ?_)
          rw [q.2.2, if_neg (by omega), if_neg (by omega), if_pos rfl]
        · show kT (kRd σ 18 100 i fun y4 => kRm y4 12 fun y5 => kRetI y5 σ) _
          refine kT_rd (by omega) (kT_rm (by omega) (by omega) (by omega) (kT_ri ?_))
          rw [q.2.2, tmod_e (by omega), if_neg (by omega), if_neg (by omega), if_neg (by omega)]
    · rw [if_pos (by omega)]; exact kT_ri rfl
theorem M_isNote {b : KB} {σ : KM} (hb : kB b) (hm : mB b σ) {i : Int} (hi : i32 i) : fM_isNote i σ = some (if i < 0 ∨ (bn b : Int) - 1 < i then 0 else 1, σ) := by
  refine kT.eq ?_
  have n100 := hb.1.1
  unfold fM_isNote
  rw [hm.1.1]
  refine kT_ck hi (kT_ck (by omega) (kT_callE (M_isIn (by omega) (by omega) hi σ) (kT_rz ?_ rfl)))
  split <;> omega
theorem M_note {b : KB} {σ : KM} (hb : kB b) (hm : mB b σ) {i x : Int} (hi : i32 i) (hx : i32 x) : kT (fM_note i x σ) (fun z => z.1 = qNote b i x) := by
  have n100 := hb.1.1
  unfold fM_note fM_note_J25 fM_note_J78 qNote
  refine kT_wf ?_
  have hm1 := hm.th
  generalize ks σ 10 0 0 = M at hm1 ⊢
  refine kT_callE (M_isNote hb hm1 hi) ?_
  by_cases c : i < 0 ∨ (bn b : Int) - 1 < i
  · rw [if_pos c, if_pos c]
    exact kT_eqt rfl (by omega) (kT_ri rfl)
  · rw [if_neg c, if_neg c]
    have q := hm1.1.2 i (by omega) (by omega)
    have v := hb.1.2 i (by omega) (by omega)
    refine kT_eqf (by omega) (by omega) (by omega) (kT_ck hx (kT_callE (M_isIn (by omega) (by omega) hx M) ?_))
    by_cases d : x < 0 ∨ 3 < x
    · rw [if_pos d, if_pos d]
      exact kT_eqt rfl (by omega) (kT_ri rfl)
    · rw [if_neg d, if_neg d]
      refine kT_eqf (by omega) (by omega) (by omega) ?_
      rcases (show x = 0 ∨ x = 1 ∨ x = 2 ∨ x = 3 by omega) with rfl | rfl | rfl | rfl
      · exact kT_eqt rfl (by omega) (kT_rd (by omega) (kT_ri q.1))
      · exact kT_eqf (by omega) (by omega) (by omega) (kT_eqt rfl (by omega) (kT_rd (by omega) (kT_ri q.2.1)))
      · exact kT_eqf (by omega) (by omega) (by omega) (kT_eqf (by omega) (by omega) (by omega) (kT_eqt rfl (by omega) (kT_rd (by omega) (kT_ri q.2.2))))
      · refine kT_eqf (by omega) (by omega) (by omega) (kT_eqf (by omega) (by omega) (by omega) (kT_eqf (by omega) (by omega) (by omega) (kT_rd (by omega) (kT_rm (by omega) (by omega) (by omega) (kT_ri ?_)))))
        dsimp only
        rw [q.2.2, tmod_e (by omega)]
        rfl
def qFault (wr wa x : Int) : Int := if x = 0 then wr else if x = 1 then wa else -1
theorem C_fault {σ : KM} {x : Int} (hx : i32 x) : fP_fault x σ = some (qFault (σ 1 3) (σ 1 4) x, σ) := by
  refine kT.eq ?_
  unfold i32 at hx
  unfold fP_fault fP_fault_J28 qFault
  refine kT_eq (by omega) (by omega) (fun c => ?_) (fun c => ?_)
  · rw [if_pos c]; exact kT_ri rfl
  · rw [if_neg c]
    refine kT_eq (by omega) (by omega) (fun c2 => ?_) (fun c2 => ?_)
    · rw [if_pos c2]; exact kT_ri rfl
    · rw [if_neg c2]; exact kT_ri rfl
theorem M_fault {σ : KM} {x : Int} (hx : i32 x) : kT (fM_fault x σ) (fun z => z.1 = qFault (σ 10 23) (σ 10 24) x) := by
  unfold i32 at hx
  unfold fM_fault fM_fault_J29 qFault
  refine kT_wf ?_
  rw [ks_i (show (23 : Int) ≠ 0 by decide), ks_i (show (24 : Int) ≠ 0 by decide)]
  refine kT_eq (by omega) (by omega) (fun c => ?_) (fun c => ?_)
  · rw [if_pos c]; exact kT_ri rfl
  · rw [if_neg c]
    refine kT_eq (by omega) (by omega) (fun c2 => ?_) (fun c2 => ?_)
    · rw [if_pos c2]; exact kT_ri rfl
    · rw [if_neg c2]; exact kT_ri rfl
