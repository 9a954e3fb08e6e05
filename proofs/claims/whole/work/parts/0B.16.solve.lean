/-! ===== the class finds THE PATH ===== -/
def sOK (X : KX) (σ : KM) : Prop := xC X σ ∧ stC X σ ∧ alC X σ ∧ (σ 8 8 = lsS X ∧ (lsS X < 1000000000 → σ 8 9 = tdS X) ∧ σ 8 7 = if lsS X < 1000000000 then 1 else 0) ∧ (lsS X < 1000000000 → (∀ w : Nat, w < xn X → σ 39 w = paS X w) ∧ σ 8 12 = sgS (paS X) (xn X) ∧ ∀ w : Nat, w < xn X → stW (paS X) w → σ 40 (sgS (paS X) w) = w) ∧ (¬ lsS X < 1000000000 → σ 8 12 = 0)
theorem xC.fr {X : KX} {W : List (Nat × Option Int)} {σ τ : KM} (h : xC X σ) (hf : kFr W σ τ) (hk : kKeep W [34, 35] [(8, 1)] = true) : xC X τ := by
  have c34 := kKeep.cell hk hf (c := 34) (by decide)
  have c35 := kKeep.cell hk hf (c := 35) (by decide)
  have f81 := kKeep.fld hk hf (c := 8) (i := 1) (by decide)
  unfold xC
  rw [c34, c35, f81]
  exact h
theorem stC.fr {X : KX} {W : List (Nat × Option Int)} {σ τ : KM} (h : stC X σ) (hf : kFr W σ τ) (hk : kKeep W [36] [] = true) : stC X τ := by
  have c36 := kKeep.cell hk hf (c := 36) (by decide)
  unfold stC
  rw [c36]
  exact h
theorem alC.fr {X : KX} {W : List (Nat × Option Int)} {σ τ : KM} (h : alC X σ) (hf : kFr W σ τ) (hk : kKeep W [37, 38] [] = true) : alC X τ := by
  have c37 := kKeep.cell hk hf (c := 37) (by decide)
  have c38 := kKeep.cell hk hf (c := 38) (by decide)
  unfold alC
  rw [c37, c38]
  exact h
theorem P_solve {X : KX} (hv : xV X) {σ : KM} (hx : xC X σ) {f : Int} (h30 : ∀ k o, 0 ≤ k → k < 24 → 0 ≤ o → o < 24 → f * σ 30 (k * 24 + o) = xs X k o) : kT (fFi_solve f σ) (fun z => sOK X z.2) := by
  have hn := hv.1
  unfold fFi_solve fFi_solve_L2
  refine kT_for (fun i s => ∃ M : KM, s = ((i : Int), M) ∧ kFr wfFi_solve σ M ∧ ∀ c : Int, 0 ≤ c → c < i → M 36 c = f * σ 30 c) 576 ?_ ?_ 0 (by omega) kF _ ⟨σ, rfl, kFr.rf, fun w _ h => by omega⟩ (kF_lt (by omega))
  · rintro i s hi ⟨M, rfl, hf, h⟩
    have m30 : M 30 = σ 30 := hf.cell rfl
    show kT (fFi_solve_B2 f i M) _
    unfold fFi_solve_B2
    refine kT_ltt (by omega) (by omega) (kT_rd (by omega) (kT_wr (by omega) (kT_let (kT_inl ⟨_, rfl, hf.put rfl, fun c c0 c1 => ?_⟩))))
    by_cases e : c = i
    · rw [e, ks_s, m30]
    · rw [ks_i e]; exact h c c0 (by omega)
  · rintro s ⟨M0, rfl, hf0, h0⟩
    have hx0 : xC X M0 := hx.fr hf0 rfl
    have hs0 : stC X M0 := fun k o a b c d => by
      rw [h0 _ (by omega) (by omega)]
      exact h30 k o a b c d
    show kT (fFi_solve_B2 f 576 M0) _
    unfold fFi_solve_B2 fFi_solve_J29
    rw [hx0.1]
    refine kT_ltf (by omega) (by omega) (kT_exit (kT_let ?_))
    unfold fFi_solve_L36
    refine kT_for (fun i s => ∃ M : KM, s = ((xn X : Int) - 1 - i, M) ∧ xC X M ∧ stC X M ∧ ∀ i' : Nat, i' < i → rwOK X i' M) (xn X) ?_ ?_ 0 (by omega) kF _ ⟨M0, by simp, hx0, hs0, fun i' h => by omega⟩ (kF_lt (by omega))
    · rintro i s hi ⟨M, rfl, hxM, hsM, hr⟩
      show kT (fFi_solve_B36 ((xn X : Int) - 1 - i) M) _
      unfold fFi_solve_B36 fFi_solve_L43
      refine kT_ltf (by omega) (by omega) ?_
      refine kT_for (fun j s => ∃ M : KM, s = ((j : Int), M) ∧ xC X M ∧ stC X M ∧ (∀ i' : Nat, i' < i → rwOK X i' M) ∧ ∀ k : Int, 0 ≤ k → k < j → M 37 (((xn X : Int) - 1 - i) * 24 + k) = bhS X i k ∧ (bhS X i k < 1000000000 → M 38 (((xn X : Int) - 1 - i) * 24 + k) = tiS X i k) ∧ 0 ≤ M 38 (((xn X : Int) - 1 - i) * 24 + k) ∧ M 38 (((xn X : Int) - 1 - i) * 24 + k) ≤ 1000000) 24 ?_ ?_ 0 (by omega) kF _ ⟨M, rfl, hxM, hsM, hr, fun k _ h => by omega⟩ (kF_lt (by omega))
      · rintro j s hj ⟨M, rfl, hxM, hsM, hr, hk⟩
        show kT (fFi_solve_B43 ((xn X : Int) - 1 - i) j M) _
        unfold fFi_solve_B43
        refine kT_ltt (by omega) (by omega) ?_
        refine kT_callT (kT.fr (P_lookBehind hv hxM hsM hi (k := j) (by omega) (fun i' e => hr i' (by omega))) (rfFi_lookBehind _ _ _)) (fun r τ hz => ?_)
        obtain ⟨⟨z1, z2⟩, hf⟩ := hz
        dsimp only at z1 z2 hf
        refine kT_let (kT_inl ⟨τ, rfl, hxM.fr hf rfl, hsM.fr hf rfl, fun i' hi' k a c => ?_, fun k a c => ?_⟩)
        · have q := z2 (((xn X : Int) - 1 - i') * 24 + k) (by omega)
          rw [q.1, q.2]
          exact hr i' hi' k a c
        · by_cases e : k = j
          · rw [e]; exact z1
          · have q := z2 (((xn X : Int) - 1 - i) * 24 + k) (by omega)
            rw [q.1, q.2]
            exact hk k a (by omega)
      · rintro s ⟨M, rfl, hxM, hsM, hr, hk⟩
        show kT (fFi_solve_B43 ((xn X : Int) - 1 - i) 24 M) _
        unfold fFi_solve_B43 fFi_solve_J63
        refine kT_ltf (by omega) (by omega) (kT_exit (kT_let (kT_inl ⟨M, ?_, hxM, hsM, fun i' hi' => ?_⟩)))
        · refine Prod.ext ?_ rfl
          dsimp only
          omega
        · by_cases e : i' = i
          · rw [e]; exact hk
          · exact hr i' (by omega)
    · rintro s ⟨M, rfl, hxM, hsM, hr⟩
      have haM : alC X M := fun w k hw a c => by
        have := hr (xn X - 1 - w) (by omega) k a c
        rw [show (xn X : Int) - 1 - ((xn X - 1 - w : Nat) : Int) = w by omega] at this
        exact this
      show kT (fFi_solve_B36 ((xn X : Int) - 1 - (xn X : Nat)) M) _
      unfold fFi_solve_B36 fFi_solve_J69
      refine kT_ltt (by omega) (by omega) (kT_exit ?_)
      refine kT_callT (kT.fr (P_findLeast hv hxM haM) (rfFi_findLeast M)) (fun r τ hz => ?_)
      obtain ⟨⟨z8, z9, z7⟩, hf⟩ := hz
      dsimp only at z8 z9 z7 hf
      have hxT := hxM.fr hf rfl
      have hsT := hsM.fr hf rfl
      have haT := haM.fr hf rfl
      rw [z7]
      by_cases hl : lsS X < 1000000000
      · rw [if_pos hl] at z7 ⊢
        refine kT_eqf (by omega) (by omega) (by omega) ?_
        refine kT_callT (kT.fr (P_follow hv hxT hsT haT hl z8) (rfFi_follow τ)) (fun r τ2 hz => ?_)
        obtain ⟨p39, hf2⟩ := hz
        dsimp only at p39 hf2
        have c8 : τ2 8 = τ 8 := hf2.cell rfl
        unfold fFi_solve_J84
        refine kT_callT (kT.fr (P_splitSegments (pa := paS X) (n := xn X) hn (by rw [c8]; exact hxT.1) (Or.inr ⟨by rw [c8]; exact z7, fun w hw => ⟨p39 w hw, (paS_r hv hl w hw).1⟩⟩)) (rfFi_splitSegments τ2)) (fun r τ3 hz => ?_)
        obtain ⟨⟨_, y2⟩, hf3⟩ := hz
        dsimp only at y2 hf3
        have y3 := y2 (by rw [c8]; exact z7)
        have d7 : τ3 8 7 = τ2 8 7 := hf3.slot rfl
        have d8 : τ3 8 8 = τ2 8 8 := hf3.slot rfl
        have d9 : τ3 8 9 = τ2 8 9 := hf3.slot rfl
        have d39 : τ3 39 = τ2 39 := hf3.cell rfl
        refine kT_ri ⟨(hxT.fr hf2 rfl).fr hf3 rfl, (hsT.fr hf2 rfl).fr hf3 rfl, (haT.fr hf2 rfl).fr hf3 rfl, ⟨?_, ?_, ?_⟩, fun _ => ⟨?_, y3.1, y3.2⟩, fun h => absurd hl h⟩
        · dsimp only; rw [d8, c8]; exact z8
        · dsimp only; rw [d9, c8]; exact z9
        · dsimp only; rw [d7, c8, if_pos hl]; exact z7
        · dsimp only; rw [d39]; exact p39
      · rw [if_neg hl] at z7 ⊢
        refine kT_eqt rfl (by omega) ?_
        unfold fFi_solve_J84
        refine kT_callT (kT.fr (P_splitSegments (pa := paS X) (n := xn X) hn hxT.1 (Or.inl z7)) (rfFi_splitSegments τ)) (fun r τ3 hz => ?_)
        obtain ⟨⟨y1, _⟩, hf3⟩ := hz
        dsimp only at y1 hf3
        have d7 : τ3 8 7 = τ 8 7 := hf3.slot rfl
        have d8 : τ3 8 8 = τ 8 8 := hf3.slot rfl
        refine kT_ri ⟨hxT.fr hf3 rfl, hsT.fr hf3 rfl, haT.fr hf3 rfl, ⟨?_, fun h => absurd h hl, ?_⟩, fun h => absurd h hl, fun _ => y1 z7⟩
        · dsimp only; rw [d8]; exact z8
        · dsimp only; rw [d7, if_neg hl]; exact z7
/-! the costs of the base -/
def oS (b : KB) (w k : Int) : Int := if bpi b w = -1 ∨ bpi b w = k then bsS (fS b w) 24 - fS b w k else 1000000000
def kpS (b : KB) (w : Int) : Int := if 0 < w ∧ tw b w = 0 then 1 else 0
def XB (b : KB) (f : Int) : KX := ((wnS b).toNat, oS b, kpS b, fun k o => f * dS b k o)
theorem XB_n {b : KB} (hb : kB b) (f : Int) : ((xn (XB b f) : Nat) : Int) = wnS b := by
  have := wnS_r hb
  show ((wnS b).toNat : Int) = _
  omega
theorem oS_r {b : KB} (hb : kB b) (w k : Int) (a : 0 ≤ k) (c : k < 24) : oS b w k = 1000000000 ∨ (0 ≤ oS b w k ∧ oS b w k ≤ 9900) := by
  have h1 := bsS_ge (f := fS b w) 24 k a (by omega)
  have h2 := bsS_r (f := fS b w) (fun k a c => fS_r hb w ⟨a, c⟩) 24 (by omega)
  have h3 := fS_r hb w ⟨a, c⟩
  unfold oS
  split <;> omega
theorem XB_v {b : KB} (hb : kB b) {f : Int} (hf : 0 ≤ f ∧ f ≤ 100) : xV (XB b f) := by
  have hw := wnS_r hb
  refine ⟨by show (wnS b).toNat ≤ 48; omega, fun w k a c => oS_r hb w k a c, fun w => ?_, fun k o a c d e => ?_, fun k a c => ?_⟩
  · show kpS b w = 0 ∨ kpS b w = 1
    unfold kpS
    split <;> omega
  · show 0 ≤ f * dS b k o ∧ f * dS b k o ≤ 1200000
    have h := dS_r hb (fr := k) (to := o) ⟨a, c⟩ ⟨d, e⟩
    have h1 := Int.mul_nonneg hf.1 h.1
    have h2 : f * dS b k o ≤ 100 * dS b k o := Int.mul_le_mul_of_nonneg_right hf.2 h.1
    omega
  · show f * dS b k k = 0
    rw [dS_s hb, Int.mul_zero]
theorem P_finderJudge {b : KB} (hb : kB b) {σ : KM} (hc : cB b σ) (hw : wOK b σ) (hp : pOK b σ) (f : Int) : kT (fFi_judge σ) (fun z => xC (XB b f) z.2) := by
  have hwr := wnS_r hb
  have eN := XB_n hb f
  unfold fFi_judge fFi_judge_L10
  refine kT_wf ?_
  rw [hw.1]
  refine kT_for (fun i s => ∃ M : KM, s = ((i : Int), M) ∧ kFr wfFi_judge σ M ∧ M 8 1 = wnS b ∧ (∀ w k, 0 ≤ w → w < (i : Int) → 0 ≤ k → k < 24 → M 34 (w * 24 + k) = oS b w k) ∧ (∀ w, 0 ≤ w → w < (i : Int) → M 35 w = kpS b w)) (wnS b).toNat ?_ ?_ 0 (by omega) kF _ ⟨_, rfl, kFr.rf.putf rfl, ks_s _ _ _ _, fun w k _ h => by omega, fun w _ h => by omega⟩ (kF_lt (by omega))
  · rintro i s hi ⟨M, rfl, hf, m81, h34, h35⟩
    have hcM := hc.fr hf rfl
    have m25 : M 25 = σ 25 := hf.cell rfl
    have m28 : M 28 = σ 28 := hf.cell rfl
    have m29 : M 29 = σ 29 := hf.cell rfl
    have t25 := (hw.2.2.1 i (by omega) (by omega)).1
    have tr := tw_r hb i
    have pin := hb.2.2.2.1 i (by omega) (by omega)
    have main : ∀ v, v = kpS b i → kT (fFi_judge_J41 i v i M) (kS (fun s => ∃ M : KM, s = (((i + 1 : Nat) : Int), M) ∧ kFr wfFi_judge σ M ∧ M 8 1 = wnS b ∧ (∀ w k, 0 ≤ w → w < ((i + 1 : Nat) : Int) → 0 ≤ k → k < 24 → M 34 (w * 24 + k) = oS b w k) ∧ (∀ w, 0 ≤ w → w < ((i + 1 : Nat) : Int) → M 35 w = kpS b w)) (fun z => xC (XB b f) z.2)) := by
      rintro v rfl
      have kr : kpS b i = 0 ∨ kpS b i = 1 := by unfold kpS; split <;> omega
      unfold fFi_judge_J41 fFi_judge_L45
      refine kT_wz (by omega) kr ?_
      refine kT_for (fun j s => ∃ M : KM, s = ((j : Int), M) ∧ kFr wfFi_judge σ M ∧ M 8 1 = wnS b ∧ (∀ w k, 0 ≤ w → w < (i : Int) → 0 ≤ k → k < 24 → M 34 (w * 24 + k) = oS b w k) ∧ (∀ w, 0 ≤ w → w < (i : Int) + 1 → M 35 w = kpS b w) ∧ (∀ k : Int, 0 ≤ k → k < j → M 34 ((i : Int) * 24 + k) = oS b i k)) 24 ?_ ?_ 0 (by omega) kF _ ?_ (kF_lt (by omega))
      · rintro j s hj ⟨M, rfl, hf, m81, h34, h35, hk⟩
        have hcM := hc.fr hf rfl
        have m28 : M 28 = σ 28 := hf.cell rfl
        have m29 : M 29 = σ 29 := hf.cell rfl
        have q := hp.1 i (by omega) (by omega)
        have q1 := q.1 j (by omega) (by omega)
        have e33 := hcM.2.2.2.1 i (by omega) (by omega)
        have fin : ∀ v, v = oS b i j → kT (fFi_judge_J119 i j v (i * 24 + j) M) (kS (fun s => ∃ M : KM, s = (((j + 1 : Nat) : Int), M) ∧ kFr wfFi_judge σ M ∧ M 8 1 = wnS b ∧ (∀ w k, 0 ≤ w → w < (i : Int) → 0 ≤ k → k < 24 → M 34 (w * 24 + k) = oS b w k) ∧ (∀ w, 0 ≤ w → w < (i : Int) + 1 → M 35 w = kpS b w) ∧ (∀ k : Int, 0 ≤ k → k < ((j + 1 : Nat) : Int) → M 34 ((i : Int) * 24 + k) = oS b i k)) (kS (fun s => ∃ M : KM, s = (((i + 1 : Nat) : Int), M) ∧ kFr wfFi_judge σ M ∧ M 8 1 = wnS b ∧ (∀ w k, 0 ≤ w → w < ((i + 1 : Nat) : Int) → 0 ≤ k → k < 24 → M 34 (w * 24 + k) = oS b w k) ∧ (∀ w, 0 ≤ w → w < ((i + 1 : Nat) : Int) → M 35 w = kpS b w)) (fun z => xC (XB b f) z.2))) := by
          rintro v rfl
          unfold fFi_judge_J119
          refine kT_wr (by omega) (kT_let (kT_inl ⟨_, rfl, hf.put rfl, m81, fun w k a0 a1 b0 b1 => ?_, h35, fun k b0 b1 => ?_⟩))
          · rw [ks_i (by omega)]; exact h34 w k a0 a1 b0 b1
          · by_cases e : k = j
            · rw [e, ks_s]
            · rw [ks_i (by omega)]; exact hk k b0 (by omega)
        show kT (fFi_judge_B45 i j M) _
        unfold fFi_judge_B45 fFi_judge_J82 fFi_judge_J87
        refine kT_ltt (by omega) (by omega) (kT_let (kT_rd (by omega) ?_))
        rw [e33]
        refine kT_eq (by omega) (by omega) (fun c => ?_) (fun c => ?_)
        · refine kT_eqf (by omega) (by omega) (by omega) (kT_rd (by omega) (kT_rd (by omega) (fin _ ?_)))
          rw [m28, m29, q.2, q1]
          unfold oS
          rw [if_pos (Or.inl c)]
        · refine kT_rd (by omega) ?_
          rw [e33]
          refine kT_eq (by omega) (by omega) (fun c2 => ?_) (fun c2 => ?_)
          · refine kT_eqf (by omega) (by omega) (by omega) (kT_rd (by omega) (kT_rd (by omega) (fin _ ?_)))
            rw [m28, m29, q.2, q1]
            unfold oS
            rw [if_pos (Or.inr c2)]
          · refine kT_eqt rfl (by omega) (fin _ ?_)
            unfold oS
            rw [if_neg (by omega)]
      · rintro s ⟨M, rfl, hf, m81, h34, h35, hk⟩
        show kT (fFi_judge_B45 i 24 M) _
        unfold fFi_judge_B45 fFi_judge_J126
        refine kT_ltf (by omega) (by omega) (kT_exit (kT_let (kT_inl ⟨M, rfl, hf, m81, fun w k a0 a1 b0 b1 => ?_, fun w a0 a1 => h35 w a0 (by omega)⟩)))
        by_cases e : w = i
        · rw [e]; exact hk k b0 (by omega)
        · exact h34 w k a0 (by omega) b0 b1
      · refine ⟨_, rfl, hf.put rfl, m81, h34, fun w a0 a1 => ?_, fun k b0 b1 => by omega⟩
        by_cases e : w = i
        · rw [e, ks_s]
        · rw [ks_i e]; exact h35 w a0 (by omega)
    show kT (fFi_judge_B10 i M) _
    unfold fFi_judge_B10 fFi_judge_J40
    rw [m81]
    refine kT_ltt (by omega) (by omega) (kT_lt (by omega) (by omega) (fun c => ?_) (fun c => ?_))
    · refine kT_rd (by omega) ?_
      rw [m25, t25]
      refine kT_eq (by omega) (by omega) (fun c2 => ?_) (fun c2 => ?_)
      · exact main _ (by unfold kpS; rw [if_pos ⟨c, c2⟩])
      · exact main _ (by unfold kpS; rw [if_neg (by omega)])
    · exact main _ (by unfold kpS; rw [if_neg (by omega)])
  · rintro s ⟨M, rfl, hf, m81, h34, h35⟩
    show kT (fFi_judge_B10 ((wnS b).toNat : Nat) M) _
    unfold fFi_judge_B10 fFi_judge_J132
    rw [m81]
    refine kT_ltf (by omega) (by omega) (kT_exit (kT_ri ⟨?_, fun w k a0 a1 b0 b1 => ?_, fun w a0 a1 => ?_⟩))
    · rw [eN]; exact m81
    · exact h34 w k a0 (by omega) b0 b1
    · exact h35 w a0 (by omega)
