/-! ===== shift, undo, feed ===== -/
def qShift (S : KSt) (d : Int) : Int := if d < -127 ∨ 127 < d then -3 else if okM (nl (sb S)) d (bn (sb S)) = true then (bn (sb S) : Int) else -3
def sShift (S : KSt) (d : Int) : KSt := if d < -127 ∨ 127 < d then S else if okM (nl (sb S)) d (bn (sb S)) = true then sNew S (mvN (nl (sb S)) d) else S
theorem kSt_shift {S : KSt} (h : kSt S) (d : Int) : kSt (sShift S d) := by
  unfold sShift
  split
  · exact h
  · split
    · exact kSt_new h (vN_mv (A := nl (sb S)) h.1.1 (by assumption))
    · exact h
theorem C_shift {S : KSt} {σ : KM} (hS : kSt S) (h : cS S σ) {d : Int} (hd : i32 d) : kT (fP_shift d σ) (fun z => z.1 = qShift S d ∧ cS (sShift S d) z.2) := by
  have hN : cNt (nl (sb S)) σ := h.1.1.1
  have hv : vN (nl (sb S)) := hS.1.1
  have n100 : bn (sb S) ≤ 100 := hv.1
  unfold i32 at hd
  unfold fP_shift fP_shift_J23 qShift sShift
  refine kT_lt (by omega) (by omega) (fun c1 => ?_) (fun c1 => ?_)
  · rw [if_pos (Or.inl c1), if_pos (Or.inl c1)]
    exact kT_ri ⟨rfl, h⟩
  refine kT_lt (by omega) (by omega) (fun c2 => ?_) (fun c2 => ?_)
  · rw [if_pos (Or.inr c2), if_pos (Or.inr c2)]
    exact kT_ri ⟨rfl, h⟩
  have cc : ¬ (d < -127 ∨ 127 < d) := by omega
  rw [if_neg cc, if_neg cc]
  refine kT_callE (P_canMove hN hv (by omega)) ?_
  change kT (kEq (if okM (nl (sb S)) d (bn (sb S)) = true then 1 else 0) 0 _ _) _
  by_cases c3 : okM (nl (sb S)) d (bn (sb S)) = true
  · rw [if_pos c3, if_pos c3, if_pos c3]
    refine kT_eqf (by omega) (by omega) (by omega) ?_
    refine kT_callT (kT.fr (P_move hN n100 d) (rfNo_move _ σ)) (fun r τ hz => ?_)
    obtain ⟨z1, z2⟩ := hz
    dsimp only at z1 z2
    refine kT_callT (kT.fr (P_remember (B := mvN (nl (sb S)) d) (h.2.1.fr z2 rfl) hS.2.1.1 (k := 2) (q := 0) (t := 0) (l := 0) (p := d) ?_) (rfHi_remember _ _ _ _ _ τ)) (fun r τ2 hz => ?_)
    · rw [hS.2.1.2.1]
      exact Or.inr (Or.inr ⟨rfl, mv_mv⟩)
    · obtain ⟨y1, y2⟩ := hz
      dsimp only at y1 y2
      have hf : kFr wfP_put σ τ2 := (z2.mono rfl).trans (y2.mono rfl)
      have hN2 : cNt (mvN (nl (sb S)) d) τ2 := by
        have c16 : τ2 16 = τ 16 := y2.cell rfl
        have c17 : τ2 17 = τ 17 := y2.cell rfl
        have c18 : τ2 18 = τ 18 := y2.cell rfl
        have f33 : τ2 3 3 = τ 3 3 := y2.slot rfl
        unfold cNt kN
        rw [c16, c17, c18, f33]
        exact z1
      exact kT_callE C_notesChanged (kT_ri ⟨hN2.1, cS_new h hf rfl rfl rfl rfl rfl hN2 y1⟩)
  · rw [if_neg c3, if_neg c3, if_neg c3]
    exact kT_eqt rfl (by omega) (kT_ri ⟨rfl, h⟩)
theorem M_shift {S : KSt} {σ : KM} (hS : kSt S) (h : mS S σ) {d : Int} (hd : i32 d) : kT (fM_shift d σ) (fun z => z.1 = qShift S d ∧ mS (sShift S d) z.2) := by
  have hv : vN (nl (sb S)) := hS.1.1
  have n100 : bn (sb S) ≤ 100 := hv.1
  unfold fM_shift qShift sShift
  refine kT_wf ?_
  have h1 := h.th
  generalize ks σ 10 0 0 = M at h1 ⊢
  have hN : mNt (nl (sb S)) M := h1.1.1
  have e7 : M 10 7 = (bn (sb S) : Int) := hN.1
  refine kT_ck hd (kT_callE (M_isIn (by omega) (by omega) hd M) ?_)
  by_cases cc : d < -127 ∨ 127 < d
  · rw [if_pos cc, if_pos cc, if_pos cc]
    exact kT_eqt rfl (by omega) (kT_ri ⟨rfl, h1⟩)
  rw [if_neg cc, if_neg cc, if_neg cc]
  refine kT_eqf (by omega) (by omega) (by omega) ?_
  unfold fM_shift_L24
  refine kT_for (fun i s => s = ((i : Int), M) ∧ okM (nl (sb S)) d i = true) (bn (sb S)) ?_ ?_ 0 (by omega) kF _ ⟨rfl, rfl⟩ (kF_lt (by omega))
  · rintro i s hi ⟨rfl, ho⟩
    obtain ⟨g1, g2, g3⟩ := hN.2 i (by omega) (by show (i : Int) < ((bn (sb S) : Nat) : Int); omega)
    have g := hv.2 i (by omega) (by show (i : Int) < ((bn (sb S) : Nat) : Int); omega)
    show kT (fM_shift_B24 d i M) _
    unfold fM_shift_B24 fM_shift_J51
    rw [e7]
    refine kT_ltt (by omega) (by omega) (kT_rd (by omega) ?_)
    rw [g3]
    refine kT_ck (by omega) (kT_callE (M_isIn (by omega) (by omega) (by omega) M) ?_)
    by_cases c : (nl (sb S)).2.2.2 i + d < 0 ∨ 127 < (nl (sb S)).2.2.2 i + d
    · rw [if_pos c]
      refine kT_eqt rfl (by omega) (kT_exit (kT_ri ?_))
      have ef : okM (nl (sb S)) d (bn (sb S)) = false := okM_n hi (by omega)
      rw [ef]
      exact ⟨rfl, h1⟩
    · rw [if_neg c]
      exact kT_eqf (by omega) (by omega) (by omega) (kT_let (kT_inl ⟨rfl, okM_s ho (by omega)⟩))
  · rintro s ⟨rfl, ho⟩
    show kT (fM_shift_B24 d (bn (sb S) : Nat) M) _
    unfold fM_shift_B24 fM_shift_J60
    rw [e7, if_pos ho, if_pos ho]
    refine kT_ltf (by omega) (by omega) (kT_exit ?_)
    refine kT_callT (kT.fr (M_notesAct h1.2.1 hS.2.1.1 (by rw [hS.2.1.2.1]; exact hN) hS.2.1.2.2 (mvN (nl (sb S)) d)) (rfM_notesAct M)) (fun r τ hz => ?_)
    obtain ⟨z1, z2⟩ := hz
    dsimp only at z1 z2
    have hN2 := hN.fr z2 rfl
    have f7 : τ 10 7 = (bn (sb S) : Int) := hN2.1
    unfold fM_shift_L66
    refine kT_for (fun i s => ∃ T : KM, s = ((i : Int), T) ∧ kFr [(47, none)] τ T ∧ (∀ j : Int, 0 ≤ j → j < i → T 47 j = bp (sb S) j + d) ∧ ∀ j : Int, i ≤ j → j < bn (sb S) → T 47 j = bp (sb S) j) (bn (sb S)) ?_ ?_ 0 (by omega) kF _ ⟨τ, rfl, kFr.rf, fun j a c => by omega, fun j a c => (hN2.2 j (by omega) c).2.2⟩ (kF_lt (by omega))
    · rintro i s hi ⟨T, rfl, hf, ta, tb⟩
      have t7 : T 10 7 = τ 10 7 := hf.slot rfl
      show kT (fM_shift_B66 d i T) _
      unfold fM_shift_B66
      rw [t7, f7]
      refine kT_ltt (by omega) (by omega) (kT_rd (by omega) (kT_wr (by omega) (kT_let (kT_inl ⟨_, rfl, hf.put rfl, fun j a c => ?_, fun j a c => ?_⟩))))
      · by_cases e : j = i
        · rw [e, ks_s, tb i (by omega) (by omega)]
        · rw [ks_i e]; exact ta j a (by omega)
      · rw [ks_i (by omega)]; exact tb j (by omega) c
    · rintro s ⟨T, rfl, hf, ta, tb⟩
      have t7 : T 10 7 = τ 10 7 := hf.slot rfl
      have c45 : T 45 = τ 45 := hf.cell rfl
      have c46 : T 46 = τ 46 := hf.cell rfl
      have hf2 : kFr wfM_put M T := (z2.mono rfl).trans (hf.mono rfl)
      show kT (fM_shift_B66 d (bn (sb S) : Nat) T) _
      unfold fM_shift_B66 fM_shift_J90
      rw [t7, f7]
      refine kT_ltf (by omega) (by omega) (kT_exit (kT_ri ⟨rfl, mS_new h1 hf2 rfl rfl rfl ⟨by dsimp only; rw [t7]; exact hN2.1, fun k a c => ?_⟩ (z1.fr hf rfl)⟩))
      dsimp only
      rw [c45, c46]
      exact ⟨(hN2.2 k a c).1, (hN2.2 k a c).2.1, ta k a c⟩
/-! undo -/
def qUndo (S : KSt) : Int := if shn S = 0 then -5 else (shn S : Int) - 1
def sUndo (S : KSt) : KSt := if shn S = 0 then S else (bN (sb S) (sH S (shn S - 1)), (shn S - 1, sH S), S.2.2)
theorem kSt_undo {S : KSt} (h : kSt S) : kSt (sUndo S) := by
  unfold sUndo
  split
  · exact h
  · obtain ⟨h1, ⟨h2, h3, h4⟩, h5⟩ := h
    refine ⟨kB_N h1 (h4 _ (by omega)), ⟨?_, rfl, fun j hj => h4 j ?_⟩, h5⟩
    · show shn S - 1 ≤ 10
      omega
    · have hj' : j ≤ shn S - 1 := hj
      omega
theorem C_undo {S : KSt} {σ : KM} (hS : kSt S) (h : cS S σ) : kT (fP_undo σ) (fun z => z.1 = qUndo S ∧ cS (sUndo S) z.2) := by
  have hN : cNt (nl (sb S)) σ := h.1.1.1
  have h10 := hS.2.1.1
  unfold fP_undo qUndo sUndo
  rw [h.2.1.1]
  by_cases c : shn S = 0
  · rw [if_pos c, if_pos c]
    exact kT_eqt (by omega) (by omega) (kT_ri ⟨rfl, h⟩)
  rw [if_neg c, if_neg c]
  refine kT_eqf (by omega) (by omega) (by omega) ?_
  obtain ⟨n, hn⟩ : ∃ n, shn S = n + 1 := ⟨shn S - 1, by omega⟩
  have hH := h.2.1
  rw [hn] at hH
  have eA := hS.2.1.2.1
  rw [hn] at eA
  refine kT_callT (kT.fr (P_takeBack hH (by omega) (by rw [eA]; exact hN) (hS.2.1.2.2 (n + 1) (by omega))) (rfHi_takeBack σ)) (fun r τ hz => ?_)
  obtain ⟨⟨z1, z2⟩, z3⟩ := hz
  dsimp only at z1 z2 z3
  have hf : kFr wfP_put σ τ := z3.mono rfl
  have f13 : τ 1 3 = σ 1 3 := hf.slot rfl
  have f14 : τ 1 4 = σ 1 4 := hf.slot rfl
  refine kT_callE C_notesChanged (kT_ri ⟨?_, ?_⟩)
  · show τ 4 5 = _
    rw [z1.1, hn]
    omega
  · dsimp only
    rw [hn, show n + 1 - 1 = n by omega]
    refine ⟨CI_notes h.1 hf rfl rfl rfl z2, z1, (by have q := h.2.2.1.fr hf rfl; exact q), ?_, ?_⟩
    · show τ 1 3 = swr S
      rw [f13]; exact h.2.2.2.1
    · show τ 1 4 = swa S
      rw [f14]; exact h.2.2.2.2
theorem M_undo {S : KSt} {σ : KM} (hS : kSt S) (h : mS S σ) : kT (fM_undo σ) (fun z => z.1 = qUndo S ∧ mS (sUndo S) z.2) := by
  have h10 := hS.2.1.1
  unfold fM_undo qUndo sUndo
  refine kT_wf ?_
  have h1 := h.th
  generalize ks σ 10 0 0 = M at h1 ⊢
  rw [h1.2.1.1]
  by_cases c : shn S = 0
  · rw [if_pos c, if_pos c]
    exact kT_eqt (by omega) (by omega) (kT_ri ⟨rfl, h1⟩)
  rw [if_neg c, if_neg c]
  refine kT_eqf (by omega) (by omega) (by omega) (kT_wf ?_)
  obtain ⟨n, hn⟩ : ∃ n, shn S = n + 1 := ⟨shn S - 1, by omega⟩
  have hs := h1.2.1.2 n (by omega)
  have hv := hS.2.1.2.2 n (by omega)
  have n100 := hv.1
  rw [hn, show ((n + 1 : Nat) : Int) - 1 = n by omega, show n + 1 - 1 = n by omega]
  have e10 : ks M 10 10 n 10 10 = (n : Int) := ks_s _ _ _ _
  have c51 : ks M 10 10 n 51 = M 51 := rfl
  rw [e10]
  refine kT_let (kT_rd (by omega) (kT_wf ?_))
  rw [c51, hs.1]
  unfold fM_undo_L46
  refine kT_for (fun i s => ∃ T : KM, s = ((i : Int), T) ∧ kFr [(10, some 7), (10, some 10), (45, none), (46, none), (47, none)] M T ∧ T 10 10 = n ∧ T 10 7 = ((sH S n).1 : Int) ∧ ∀ k : Int, 0 ≤ k → k < i → T 45 k = M 51 (301 * (n : Int) + 1 + k) ∧ T 46 k = M 51 (301 * (n : Int) + 101 + k) ∧ T 47 k = M 51 (301 * (n : Int) + 201 + k)) 100 ?_ ?_ 0 (by omega) kF _ ⟨_, rfl, (kFr.rf.putf rfl).putf rfl, ?_, ks_s _ _ _ _, fun k _ h => by omega⟩ (kF_lt (by omega))
  · rintro i s hi ⟨T, rfl, hf, t10, t7, tc⟩
    have t51 : T 51 = M 51 := hf.cell rfl
    show kT (fM_undo_B46 (301 * (n : Int)) i T) _
    unfold fM_undo_B46
    refine kT_ltt (by omega) (by omega) (kT_rd (by omega) (kT_wr (by omega) (kT_rd (by omega) (kT_wr (by omega) (kT_rd (by omega) (kT_wr (by omega) (kT_let (kT_inl ⟨_, rfl, ((hf.put rfl).put rfl).put rfl, t10, t7, fun k a d => ?_⟩))))))))
    show ks T 45 i (T 51 (301 * (n : Int) + 1 + i)) 45 k = _ ∧ ks T 46 i (T 51 (301 * (n : Int) + 101 + i)) 46 k = _ ∧ ks T 47 i (T 51 (301 * (n : Int) + 201 + i)) 47 k = _
    by_cases e : k = i
    · rw [e, ks_s, ks_s, ks_s, t51]
      exact ⟨rfl, rfl, rfl⟩
    · rw [ks_i e, ks_i e, ks_i e]
      exact tc k a (by omega)
  · rintro s ⟨T, rfl, hf, t10, t7, tc⟩
    show kT (fM_undo_B46 (301 * (n : Int)) 100 T) _
    unfold fM_undo_B46 fM_undo_J109
    rw [t10]
    have f13 : T 10 23 = M 10 23 := hf.slot rfl
    have f14 : T 10 24 = M 10 24 := hf.slot rfl
    have c51 : T 51 = M 51 := hf.cell rfl
    refine kT_ltf (by omega) (by omega) (kT_exit (kT_ri ⟨rfl, mB_notes h1.1 hf rfl ⟨t7, fun k a d => ?_⟩, ⟨t10, fun j hj => ?_⟩, h1.2.2.1.fr hf rfl, by dsimp only; rw [f13]; exact h1.2.2.2.1, by dsimp only; rw [f14]; exact h1.2.2.2.2⟩))
    · have q := tc k a (by omega)
      dsimp only
      rw [q.1, q.2.1, q.2.2]
      exact hs.2 k a d
    · have hj' : j < n := hj
      have q := h1.2.1.2 j (by omega)
      show snpS T j (sH S j)
      unfold snpS
      rw [c51]
      exact q
  · rw [ks_i (by decide), ks_s]
/-! feed -/
def byV (v : Int) (k : Int) : Int := (v % 4294967296) / (if k = 0 then 16777216 else if k = 1 then 65536 else if k = 2 then 256 else 1) % 256
theorem byV_r (v k : Int) : 0 ≤ byV v k ∧ byV v k < 256 := by
  unfold byV
  omega
theorem byV_u (v : Int) {i : Nat} (hi : i < 4) : (v % 4294967296) / 2 ^ (24 - 8 * (i : Int)).toNat % (255 + 1) = byV v i := by
  rcases (show i = 0 ∨ i = 1 ∨ i = 2 ∨ i = 3 by omega) with rfl | rfl | rfl | rfl <;> rfl
theorem byV_s (v : Int) {i : Nat} (hi : i < 4) : kI2b (v / 2 ^ (24 - 8 * (i : Int)).toNat) = sbv (byV v i) := by
  have key : ∀ x y : Int, x % 256 = y % 256 → kI2b x = sbv (y % 256) := by
    intro x y h
    unfold kI2b sbv
    split <;> omega
  rcases (show i = 0 ∨ i = 1 ∨ i = 2 ∨ i = 3 by omega) with rfl | rfl | rfl | rfl
  · exact key (v / 16777216) ((v % 4294967296) / 16777216) (by omega)
  · exact key (v / 65536) ((v % 4294967296) / 65536) (by omega)
  · exact key (v / 256) ((v % 4294967296) / 256) (by omega)
  · exact key (v / 1) ((v % 4294967296) / 1) (by omega)
def fdV (a b c d e : Int) (k : Int) : Int := byV (if k < 4 then a else if k < 8 then b else if k < 12 then c else if k < 16 then d else e) (k % 4)
theorem P_append {n : Nat} {tp : Int → Int} {σ : KM} (h : tC n tp σ) (hn : n + 4 ≤ 700) (v : Int) : kT (fTR_append v σ) (fun z => tC (n + 4) (fun i => if i < n then tp i else byV v (i - n)) z.2) := by
  unfold fTR_append fTR_append_L3
  refine kT_for (fun i s => ∃ M : KM, s = (24 - 8 * (i : Int), M) ∧ tC (n + i) (fun i => if i < n then tp i else byV v (i - n)) M) 4 ?_ ?_ 0 (by omega) kF _ ⟨σ, rfl, h.1, fun i a c => ?_⟩ (kF_lt (by omega))
  · rintro i s hi ⟨M, rfl, hM⟩
    show kT (fTR_append_B3 v (24 - 8 * (i : Int)) M) _
    unfold fTR_append_B3
    rw [hM.1]
    refine kT_ltf (by omega) (by omega) (kT_ltt (by omega) (by omega) (kT_ush (by omega) (kT_and (by omega) ?_)))
    rw [byV_u v hi]
    refine kT_wr (by omega) (kT_wf (kT_let (kT_inl ⟨_, Prod.ext (show 24 - 8 * (i : Int) + -8 = 24 - 8 * ((i + 1 : Nat) : Int) by omega) rfl, ?_, fun k a c => ?_⟩)))
    · rw [ks_s, ks_c (by decide), hM.1]
      omega
    · rw [ks_c (by decide)]
      by_cases e : k = ((n + i : Nat) : Int)
      · rw [e, ks_s]
        show byV v i = if ((n + i : Nat) : Int) < n then tp _ else byV v (((n + i : Nat) : Int) - n)
        rw [if_neg (by omega), show ((n + i : Nat) : Int) - n = i by omega]
      · rw [ks_i e]; exact hM.2 k a (by omega)
  · rintro s ⟨M, rfl, hM⟩
    show kT (fTR_append_B3 v (24 - 8 * ((4 : Nat) : Int)) M) _
    unfold fTR_append_B3 fTR_append_J49
    exact kT_ltt (by omega) (by omega) (kT_exit (kT_ri hM))
  · show σ 11 i = if i < n then tp i else byV v (i - n)
    rw [if_pos (by omega)]
    exact h.2 i a (by omega)
def qFeed (S : KSt) : Int := if 680 < stn S then -4 else (stn S : Int) + 20
def sFeed (S : KSt) (a b c d e : Int) : KSt := if 680 < stn S then S else (S.1, S.2.1, (stn S + 20, fun i => if i < stn S then stp S i else fdV a b c d e (i - stn S)), S.2.2.2)
theorem kSt_feed {S : KSt} (h : kSt S) (a b c d e : Int) : kSt (sFeed S a b c d e) := by
  unfold sFeed
  split
  · exact h
  · obtain ⟨h1, h2, ⟨h3, h4⟩, h5⟩ := h
    refine ⟨h1, h2, ⟨by show stn S + 20 ≤ 700; omega, fun i a0 c0 => ?_⟩, h5⟩
    show 0 ≤ (if i < stn S then stp S i else fdV a b c d e (i - stn S)) ∧ (if i < stn S then stp S i else fdV a b c d e (i - stn S)) < 256
    split
    · exact h4 i a0 (by omega)
    · exact byV_r _ _
theorem tC_eq {n : Nat} {tp tq : Int → Int} {σ : KM} (h : tC n tp σ) (e : ∀ i : Int, 0 ≤ i → i < n → tp i = tq i) : tC n tq σ := ⟨h.1, fun i a c => by rw [h.2 i a c]; exact e i a c⟩
theorem CI.tape {b : KB} {σ τ : KM} (h : CI b σ) {W : List (Nat × Option Int)} (hf : kFr W σ τ) (e : ∀ c : Nat, 2 < c → c < 45 → (c < 11 ∨ 15 < c) → W.all (fun q => q.1 != c) = true) : CI b τ := by
  have c3 := hf.cell (e 3 (by omega) (by omega) (by omega))
  have c5 := hf.cell (e 5 (by omega) (by omega) (by omega))
  have c6 := hf.cell (e 6 (by omega) (by omega) (by omega))
  have c7 := hf.cell (e 7 (by omega) (by omega) (by omega))
  have c8 := hf.cell (e 8 (by omega) (by omega) (by omega))
  have c9 := hf.cell (e 9 (by omega) (by omega) (by omega))
  have c16 := hf.cell (e 16 (by omega) (by omega) (by omega))
  have c17 := hf.cell (e 17 (by omega) (by omega) (by omega))
  have c18 := hf.cell (e 18 (by omega) (by omega) (by omega))
  have c24 := hf.cell (e 24 (by omega) (by omega) (by omega))
  have c25 := hf.cell (e 25 (by omega) (by omega) (by omega))
  have c26 := hf.cell (e 26 (by omega) (by omega) (by omega))
  have c27 := hf.cell (e 27 (by omega) (by omega) (by omega))
  have c28 := hf.cell (e 28 (by omega) (by omega) (by omega))
  have c29 := hf.cell (e 29 (by omega) (by omega) (by omega))
  have c30 := hf.cell (e 30 (by omega) (by omega) (by omega))
  have c31 := hf.cell (e 31 (by omega) (by omega) (by omega))
  have c33 := hf.cell (e 33 (by omega) (by omega) (by omega))
  have c34 := hf.cell (e 34 (by omega) (by omega) (by omega))
  have c35 := hf.cell (e 35 (by omega) (by omega) (by omega))
  have c36 := hf.cell (e 36 (by omega) (by omega) (by omega))
  have c37 := hf.cell (e 37 (by omega) (by omega) (by omega))
  have c38 := hf.cell (e 38 (by omega) (by omega) (by omega))
  have c39 := hf.cell (e 39 (by omega) (by omega) (by omega))
  have c40 := hf.cell (e 40 (by omega) (by omega) (by omega))
  have c41 := hf.cell (e 41 (by omega) (by omega) (by omega))
  have c43 := hf.cell (e 43 (by omega) (by omega) (by omega))
  unfold CI cB kN wI wOK pI pOK fOK nC nOK frC sOK xC stC alC ahOK mvOK at h ⊢
  rw [c3, c5, c6, c7, c8, c9, c16, c17, c18, c24, c25, c26, c27, c28, c29, c30, c31, c33, c34, c35, c36, c37, c38, c39, c40, c41, c43]
  exact h
theorem C_feed {S : KSt} {σ : KM} (hS : kSt S) (h : cS S σ) (a b c d e : Int) : kT (fP_feed a b c d e σ) (fun z => z.1 = qFeed S ∧ cS (sFeed S a b c d e) z.2) := by
  have t700 := hS.2.2.1.1
  have ht := h.2.2.1
  have core : 680 < stn S ∨ kT (fP_feed a b c d e σ) (fun z => z.1 = (stn S : Int) + 20 ∧ tC (stn S + 20) (fun i => if i < stn S then stp S i else fdV a b c d e (i - stn S)) z.2) := by
    by_cases c1 : 680 < stn S
    · exact Or.inl c1
    · right
      unfold fP_feed
      rw [ht.1]
      refine kT_ltf (by omega) (by omega) ?_
      refine kT_callT (P_append ht (by omega) a) (fun r τ1 h1 => ?_)
      refine kT_callT (P_append h1 (by omega) b) (fun r τ2 h2 => ?_)
      refine kT_callT (P_append h2 (by omega) c) (fun r τ3 h3 => ?_)
      refine kT_callT (P_append h3 (by omega) d) (fun r τ4 h4 => ?_)
      refine kT_callT (P_append h4 (by omega) e) (fun r τ5 h5 => ?_)
      dsimp only at h1 h2 h3 h4 h5
      refine kT_ri ⟨by dsimp only; rw [h5.1]; omega, tC_eq h5 (fun i i0 i1 => ?_)⟩
      unfold fdV
      by_cases k0 : i < stn S
      · rw [if_pos (by omega), if_pos (by omega), if_pos (by omega), if_pos (by omega), if_pos k0, if_pos k0]
      · rw [if_neg k0]
        by_cases k1 : i - stn S < 4
        · rw [if_pos (by omega), if_pos (by omega), if_pos (by omega), if_pos (by omega), if_neg k0, if_pos k1, show (i - stn S) % 4 = i - stn S by omega]
        · rw [if_neg k1]
          by_cases k2 : i - stn S < 8
          · rw [if_pos (by omega), if_pos (by omega), if_pos (by omega), if_neg (by omega), if_pos k2, show (i - stn S) % 4 = i - ((stn S + 4 : Nat) : Int) by omega, if_neg k0]
          · rw [if_neg k2]
            by_cases k3 : i - stn S < 12
            · rw [if_pos (by omega), if_pos (by omega), if_neg (by omega), if_pos k3, show (i - stn S) % 4 = i - ((stn S + 4 + 4 : Nat) : Int) by omega, if_neg k0]
            · rw [if_neg k3]
              by_cases k4 : i - stn S < 16
              · rw [if_pos (by omega), if_neg (by omega), if_pos k4, show (i - stn S) % 4 = i - ((stn S + 4 + 4 + 4 : Nat) : Int) by omega, if_neg k0]
              · rw [if_neg k4, if_neg (by omega), show (i - stn S) % 4 = i - ((stn S + 4 + 4 + 4 + 4 : Nat) : Int) by omega, if_neg k0]
  unfold qFeed sFeed
  rcases core with c1 | core
  · rw [if_pos c1, if_pos c1]
    unfold fP_feed
    rw [ht.1]
    exact kT_ltt (by omega) (by omega) (kT_ri ⟨rfl, h⟩)
  · by_cases c1 : 680 < stn S
    · rw [if_pos c1, if_pos c1]
      unfold fP_feed
      rw [ht.1]
      exact kT_ltt (by omega) (by omega) (kT_ri ⟨rfl, h⟩)
    rw [if_neg c1, if_neg c1]
    refine (kT.fr core (rfP_feed _ _ _ _ _ σ)).mono (fun z hz => ?_)
    obtain ⟨⟨z1, z2⟩, z3⟩ := hz
    have f13 : z.2 1 3 = σ 1 3 := z3.slot rfl
    have f14 : z.2 1 4 = σ 1 4 := z3.slot rfl
    refine ⟨z1, h.1.tape z3 (fun c h1 h2 h3 => ?_), h.2.1.fr z3 rfl, z2, ?_, ?_⟩
    · simp; omega
    · rw [f13]; exact h.2.2.2.1
    · rw [f14]; exact h.2.2.2.2
theorem M_feed {S : KSt} {σ : KM} (hS : kSt S) (h : mS S σ) {a b c d e : Int} (ha : i32 a) (hb : i32 b) (hc : i32 c) (hd : i32 d) (he : i32 e) : kT (fM_feed a b c d e σ) (fun z => z.1 = qFeed S ∧ mS (sFeed S a b c d e) z.2) := by
  have t700 := hS.2.2.1.1
  unfold fM_feed qFeed sFeed
  refine kT_wf ?_
  have h1 := h.th
  generalize ks σ 10 0 0 = M at h1 ⊢
  have ht := h1.2.2.1
  rw [ht.1]
  by_cases c1 : 680 < stn S
  · rw [if_pos c1, if_pos c1]
    exact kT_ltt (by omega) (by omega) (kT_ri ⟨rfl, h1⟩)
  rw [if_neg c1, if_neg c1]
  refine kT_ltf (by omega) (by omega) ?_
  unfold fM_feed_L24
  refine kT_for (fun i s => ∃ T : KM, s = ((i : Int), T) ∧ kFr [(10, some 20), (54, none)] M T ∧ tM (stn S + i) (fun i => if i < stn S then stp S i else fdV a b c d e (i - stn S)) T) 20 ?_ ?_ 0 (by omega) kF _ ⟨M, rfl, kFr.rf, ht.1, fun i i0 i1 => ?_⟩ (kF_lt (by omega))
  · rintro i s hi ⟨T, rfl, hf, hT⟩
    have put : ∀ v, i32 v → v = (if (i : Int) < 4 then a else if (i : Int) < 8 then b else if (i : Int) < 12 then c else if (i : Int) < 16 then d else e) → kT (fM_feed_J77 a b c d e i v T) (kS (fun s => ∃ T : KM, s = (((i + 1 : Nat) : Int), T) ∧ kFr [(10, some 20), (54, none)] M T ∧ tM (stn S + (i + 1)) (fun i => if i < stn S then stp S i else fdV a b c d e (i - stn S)) T) (fun z => z.1 = (stn S : Int) + 20 ∧ mS (S.1, S.2.1, (stn S + 20, fun i => if i < stn S then stp S i else fdV a b c d e (i - stn S)), S.2.2.2) z.2)) := by
      intro v hv ev
      unfold i32 at hv
      have e4 : (i : Int) % 4 = ((i % 4 : Nat) : Int) := by omega
      have kb : -128 ≤ kI2b (v / 2 ^ (24 - 8 * (((i % 4 : Nat) : Int))).toNat) ∧ kI2b (v / 2 ^ (24 - 8 * (((i % 4 : Nat) : Int))).toNat) < 128 := by
        unfold kI2b
        omega
      unfold fM_feed_J77
      refine kT_rm (by omega) (by omega) (by omega) ?_
      rw [tmod_e (by omega), e4]
      refine kT_shr (by omega) (by omega) ?_
      rw [hT.1]
      refine kT_wb (by omega) kb (kT_wf (kT_let (kT_inl ⟨_, rfl, (hf.put rfl).putf rfl, ?_, fun k k0 k1 => ?_⟩)))
      · rw [ks_s, ks_c (by decide), hT.1]
        omega
      · rw [ks_c (by decide)]
        by_cases ek : k = ((stn S + i : Nat) : Int)
        · rw [ek, ks_s, byV_s v (by omega)]
          show _ = sbv (if ((stn S + i : Nat) : Int) < stn S then stp S _ else fdV a b c d e (((stn S + i : Nat) : Int) - stn S))
          rw [if_neg (by omega)]
          unfold fdV
          rw [show ((stn S + i : Nat) : Int) - stn S = i by omega, ← ev, e4]
        · rw [ks_i ek]; exact hT.2 k k0 (by omega)
    show kT (fM_feed_B24 a b c d e i T) _
    unfold fM_feed_B24
    refine kT_ltt (by omega) (by omega) (kT_lt (by omega) (by omega) (fun k1 => put a ha (by rw [if_pos k1])) (fun k1 => ?_))
    refine kT_lt (by omega) (by omega) (fun k2 => put b hb (by rw [if_neg (by omega), if_pos k2])) (fun k2 => ?_)
    refine kT_lt (by omega) (by omega) (fun k3 => put c hc (by rw [if_neg (by omega), if_neg (by omega), if_pos k3])) (fun k3 => ?_)
    exact kT_lt (by omega) (by omega) (fun k4 => put d hd (by rw [if_neg (by omega), if_neg (by omega), if_neg (by omega), if_pos k4])) (fun k4 => put e he (by rw [if_neg (by omega), if_neg (by omega), if_neg (by omega), if_neg (by omega)]))
  · rintro s ⟨T, rfl, hf, hT⟩
    have f13 : T 10 23 = M 10 23 := hf.slot rfl
    have f14 : T 10 24 = M 10 24 := hf.slot rfl
    show kT (fM_feed_B24 a b c d e 20 T) _
    unfold fM_feed_B24 fM_feed_J118
    refine kT_ltf (by omega) (by omega) (kT_exit (kT_ri ⟨by dsimp only; rw [hT.1]; omega, h1.1.fr hf rfl, h1.2.1.fr hf rfl, hT, by dsimp only; rw [f13]; exact h1.2.2.2.1, by dsimp only; rw [f14]; exact h1.2.2.2.2⟩))
  · show M 54 i = sbv (if i < stn S then stp S i else fdV a b c d e (i - stn S))
    rw [if_pos (by omega)]
    exact ht.2 i i0 (by omega)
