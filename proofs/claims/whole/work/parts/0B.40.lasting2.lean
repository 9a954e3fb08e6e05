/-! ===== lasting in the class ===== -/
theorem P_settle {X : KX} (hv : xV X) {σ : KM} (hx : xC X σ) (h36 : stC X σ) {p w : Nat} (hp : p < 16) (hw : w < xn X) {k : Int} (hk : 0 ≤ k ∧ k < 24) (h : ∀ (v : Nat) (o : Int), v < w → 0 ≤ o → o < 24 → σ 44 ((v : Int) * 24 + o) = lrS X p v p o) : fDe_settle ((p : Int) + 1) w k σ = some (lrS X p w p k, σ) := by
  refine kP ?_ (rfDe_settle _ _ _ σ)
  have hn := hv.1
  have eq := settle_eq hv p hw hk
  have e34 := hx.2.1 w k (by omega) (by omega) hk.1 hk.2
  have fin : ∀ B, B = (if w = 0 then 1000000000 else addS (lrS X p (w - 1) p k) (xo X w k)) → fnB 100000000 B → kT (fDe_settle_J39 ((p : Int) + 1) w k B σ) (fun z => z.1 = lrS X p w p k) := by
    intro B eB rB
    rw [← eB] at eq
    unfold fDe_settle_J39
    refine kT_let ?_
    rw [show (w : Int) - ((p : Int) + 1) + 1 = (w : Int) - p by omega]
    by_cases cp : w < p
    · rw [if_pos cp] at eq
      exact kT_ltt (by omega) (by omega) (kT_ri eq.symm)
    rw [if_neg cp] at eq
    obtain ⟨f, rfl⟩ : ∃ f, w = f + p := ⟨w - p, by omega⟩
    rw [show f + p - p = f by omega] at eq
    rw [show ((f + p : Nat) : Int) - p = f by omega]
    refine kT_ltf (by omega) (by omega) ?_
    have rg := bgS_r hv p (f := f) (by omega) hk
    have rC := fnB_add rg (C := 9900) (hv.2.1 f k hk.1 hk.2)
    have lp : kT (fDe_settle_J96 ((f + p : Nat) : Int) k B f (bgS X p f k) σ) (fun z => z.1 = lrS X p (f + p) p k) := by
      unfold fDe_settle_J96 fDe_settle_L100
      refine kT_for (fun i s => s = ((if i = 0 then bgS X p f k else chnS X (addS (bgS X p f k) (xo X f k)) f k (i - 1)), (f : Int) + i, σ)) (p + 1) ?_ ?_ 0 (by omega) kF _ (by simp) (kF_lt (by omega))
      · rintro i s hi rfl
        have q34 := hx.2.1 ((f : Int) + i) k (by omega) (by omega) hk.1 hk.2
        have ro := hv.2.1 ((f : Int) + i) k hk.1 hk.2
        show kT (fDe_settle_B100 ((f + p : Nat) : Int) k B (if i = 0 then bgS X p f k else chnS X (addS (bgS X p f k) (xo X f k)) f k (i - 1)) ((f : Int) + i) σ) _
        unfold fDe_settle_B100
        refine kT_ltf (by omega) (by omega) (kT_rd (by omega) ?_)
        rw [q34]
        cases i with
        | zero =>
          rw [if_pos rfl]
          unfold fnB at rg
          refine kT_callE (P_plus (by omega) σ) (kT_let (kT_inl ?_))
          rw [plus_add (by omega) (by omega), show (f : Int) + ((0 : Nat) : Int) = f by omega, if_neg (by omega), show 0 + 1 - 1 = 0 from rfl, chnS]
          rfl
        | succ i =>
          have rc := chnS_r hv (f := f) hk rC i
          rw [if_neg (by omega), show i + 1 - 1 = i by omega]
          unfold fnB at rc
          refine kT_callE (P_plus (by omega) σ) (kT_let (kT_inl ?_))
          rw [plus_add (by omega) (by omega), if_neg (by omega), show i + 1 + 1 - 1 = i + 1 by omega, chnS, show (f : Int) + ((i + 1 : Nat) : Int) = (f : Int) + (i : Int) + 1 by omega]
          refine Prod.ext rfl (Prod.ext ?_ rfl)
          dsimp only
          omega
      · rintro s rfl
        have rc := chnS_r hv (f := f) hk rC p
        unfold fnB at rc rB
        show kT (fDe_settle_B100 ((f + p : Nat) : Int) k B (if p + 1 = 0 then bgS X p f k else chnS X (addS (bgS X p f k) (xo X f k)) f k (p + 1 - 1)) ((f : Int) + ((p + 1 : Nat) : Int)) σ) _
        rw [if_neg (by omega), show p + 1 - 1 = p by omega]
        unfold fDe_settle_B100 fDe_settle_J132
        refine kT_ltt (by omega) (by omega) (kT_exit (kT_mn (by omega) (by omega) (kT_ri ?_)))
        exact eq.symm
    cases f with
    | zero =>
      refine kT_ltf (by omega) (by omega) ?_
      have e0 : bgS X p 0 k = 0 := by unfold bgS; rw [if_pos rfl]
      rw [e0] at lp
      exact lp
    | succ f =>
      have e35 := hx.2.2 ((f + 1 : Nat) : Int) (by omega) (by omega)
      have kr := hv.2.2.1 ((f + 1 : Nat) : Int)
      refine kT_ltt (by omega) (by omega) (kT_rd (by omega) ?_)
      rw [e35]
      unfold fDe_settle_J94
      refine kT_eq (by omega) (by omega) (fun c => ?_) (fun c => ?_)
      · have e0 : bgS X p (f + 1) k = mnS (fun o => addS (lrS X p f p o) (xs X o k)) 24 := by
          unfold bgS
          rw [if_neg (by omega), if_neg (by omega), show f + 1 - 1 = f by omega]
        rw [e0] at lp
        refine kT_callE (P_cheapestMove_44 hv h36 (g := lrS X p f p) hk (by omega) (fun o o0 o1 => ?_) (fun o o0 o1 => ?_)) lp
        · have := lrS_r hv p f p o o0 o1
          unfold fnB at this
          omega
        · rw [show (((f + 1 : Nat) : Int) - 1) * 24 + o = (f : Int) * 24 + o by omega]
          exact h f o (by omega) o0 o1
      · have e0 : bgS X p (f + 1) k = 1000000000 := by
          unfold bgS
          rw [if_neg (by omega), if_pos (by omega)]
        rw [e0] at lp
        exact lp
  unfold fDe_settle
  refine kT_let ?_
  cases w with
  | zero => exact kT_ltf (by omega) (by omega) (fin _ (by rw [if_pos rfl]) (Or.inl rfl))
  | succ w =>
    have q := h w k (by omega) hk.1 hk.2
    have r0 := lrS_r hv p w p k hk.1 hk.2
    have ro := hv.2.1 ((w + 1 : Nat) : Int) k hk.1 hk.2
    have rr := fnB_add r0 (C := 9900) ro
    unfold fnB at r0
    refine kT_ltt (by omega) (by omega) (kT_rd (by omega) ?_)
    rw [show ((w + 1 : Nat) : Int) * 24 + k - 24 = (w : Int) * 24 + k by omega, q]
    refine kT_rd (by omega) ?_
    rw [e34]
    refine kT_callE (P_plus (by omega) σ) ?_
    rw [plus_add (by omega) (by omega)]
    refine fin _ ?_ (fnB_mo rr (by omega))
    rw [if_neg (by omega), show w + 1 - 1 = w by omega]
theorem P_leastLasting {X : KX} (hv : xV X) {σ : KM} (hx : xC X σ) (h36 : stC X σ) {p : Nat} (hp : p < 16) (h0 : 0 < xn X) : kT (fDe_leastLasting ((p : Int) + 1) σ) (fun z => z.1 = mnS (lrS X p (xn X - 1) p) 24) := by
  have hn := hv.1
  unfold fDe_leastLasting
  rw [hx.1]
  refine kT_eqf (by omega) (by omega) (by omega) ?_
  unfold fDe_leastLasting_L11
  refine kT_for (fun i s => ∃ M : KM, s = ((i : Int), M) ∧ kFr wfDe_leastLasting σ M ∧ ∀ (v : Nat) (o : Int), v < i → 0 ≤ o → o < 24 → M 44 ((v : Int) * 24 + o) = lrS X p v p o) (xn X) ?_ ?_ 0 (by omega) kF _ ⟨σ, rfl, kFr.rf, fun v o h => by omega⟩ (kF_lt (by omega))
  · rintro i s hi ⟨M, rfl, hf, h⟩
    have hxM := hx.fr hf rfl
    show kT (fDe_leastLasting_B11 ((p : Int) + 1) i M) _
    unfold fDe_leastLasting_B11 fDe_leastLasting_L22
    rw [hxM.1]
    refine kT_ltt (by omega) (by omega) ?_
    refine kT_for (fun j s => ∃ M : KM, s = ((j : Int), M) ∧ kFr wfDe_leastLasting σ M ∧ (∀ (v : Nat) (o : Int), v < i → 0 ≤ o → o < 24 → M 44 ((v : Int) * 24 + o) = lrS X p v p o) ∧ ∀ o : Int, 0 ≤ o → o < j → M 44 ((i : Int) * 24 + o) = lrS X p i p o) 24 ?_ ?_ 0 (by omega) kF _ ⟨M, rfl, hf, h, fun o _ h => by omega⟩ (kF_lt (by omega))
    · rintro j s hj ⟨M, rfl, hf, h, hk⟩
      show kT (fDe_leastLasting_B22 ((p : Int) + 1) i j M) _
      unfold fDe_leastLasting_B22
      refine kT_ltt (by omega) (by omega) (kT_callE (P_settle hv (hx.fr hf rfl) (h36.fr hf rfl) hp hi (k := j) (by omega) h) (kT_wr (by omega) (kT_let (kT_inl ⟨_, rfl, hf.put rfl, fun v o a0 b0 b1 => ?_, fun o b0 b1 => ?_⟩))))
      · rw [ks_i (by omega)]; exact h v o a0 b0 b1
      · by_cases e : o = j
        · rw [e, ks_s]
        · rw [ks_i (by omega)]; exact hk o b0 (by omega)
    · rintro s ⟨M, rfl, hf, h, hk⟩
      show kT (fDe_leastLasting_B22 ((p : Int) + 1) i 24 M) _
      unfold fDe_leastLasting_B22 fDe_leastLasting_J56
      refine kT_ltf (by omega) (by omega) (kT_exit (kT_let (kT_inl ⟨M, rfl, hf, fun v o a0 b0 b1 => ?_⟩)))
      by_cases e : v = i
      · rw [e]; exact hk o b0 (by omega)
      · exact h v o (by omega) b0 b1
  · rintro s ⟨M, rfl, hf, h⟩
    have hxM := hx.fr hf rfl
    show kT (fDe_leastLasting_B11 ((p : Int) + 1) (xn X : Nat) M) _
    unfold fDe_leastLasting_B11 fDe_leastLasting_J62
    rw [hxM.1]
    refine kT_ltf (by omega) (by omega) (kT_exit (kT_callE (P_leastOf_44 (g := lrS X p (xn X - 1) p) (by omega) (fun o o0 o1 => lr_le hv p (by omega) p ⟨o0, o1⟩) (fun o o0 o1 => ?_)) (kT_ri rfl)))
    rw [show ((xn X : Int) - 1) * 24 + o = ((xn X - 1 : Nat) : Int) * 24 + o by omega]
    exact h (xn X - 1) o (by omega) o0 o1
def qLasting (b : KB) (n : Int) : Int := if n < 1 ∨ 16 < n then -3 else if hP b then (if nB b = 0 then 0 else toS (mnS (lrS (XP b) (n.toNat - 1) (nB b - 1) (n.toNat - 1)) 24)) else -5
theorem C_lasting {b : KB} {σ : KM} (hb : kB b) (h : CI b σ) {n : Int} (hx : i32 n) : kT (fP_lasting n σ) (fun z => z.1 = qLasting b n ∧ CI b z.2) := by
  have eN := nB_i hb
  have n48 := nB_48 hb
  have hv := XP_v hb
  unfold fP_lasting fP_lasting_J40 qLasting
  refine kT_callE (P_outOf (by omega) (by omega) hx σ) ?_
  by_cases c2 : n < 1 ∨ 16 < n
  · rw [if_pos c2, if_pos c2]
    exact kT_eqf (by omega) (by omega) (by omega) (kT_ri ⟨rfl, h⟩)
  rw [if_neg c2, if_neg c2]
  refine kT_eqt rfl (by omega) (kT_callT (C_noPath hb h) (fun r τ2 hz => ?_))
  obtain ⟨hr, hC, hF, hW⟩ := hz
  dsimp only at hr hC hF hW
  rw [hr]
  by_cases c : hP b
  · rw [if_pos c, if_pos c]
    have hl : lsS (XP b) < 1000000000 := c
    refine kT_eqt rfl (by omega) ?_
    have e1 : τ2 8 1 = (nB b : Int) := hF.2.1.1.1
    by_cases h0 : nB b = 0
    · rw [if_pos h0]
      unfold fDe_leastLasting
      rw [e1]
      refine kT_call (kT_eqt (by omega) (by omega) (kT_ri (kT_callE (P_toldCost (by omega) τ2) (kT_ri ⟨?_, hC⟩))))
      dsimp only
      rw [if_pos (by omega)]
    · rw [if_neg h0]
      obtain ⟨p, rfl⟩ : ∃ p : Nat, n = (p : Int) + 1 := ⟨(n - 1).toNat, by omega⟩
      rw [show ((p : Int) + 1).toNat - 1 = p by omega]
      refine kT_callT (kT.fr (P_leastLasting hv hF.2.1.1 hF.2.1.2.1 (p := p) (by omega) (show 0 < xn (XP b) by show 0 < nB b; omega)) (rfDe_leastLasting _ τ2)) (fun r τ3 hz => ?_)
      obtain ⟨z1, z3⟩ := hz
      dsimp only at z1 z3
      have e91 : τ3 9 1 = τ2 9 1 := z3.slot rfl
      have e94 : τ3 9 4 = τ2 9 4 := z3.slot rfl
      have c41 : τ3 41 = τ2 41 := z3.cell rfl
      have c43 : τ3 43 = τ2 43 := z3.cell rfl
      have q := frC.re hC hF (z3.mono rfl) (by rw [e91]; unfold ahOK; rw [c41]; exact hF.2.2.2.2.1) (by rw [e94]; unfold mvOK; rw [c43]; exact hF.2.2.2.2.2)
      have z1' : r = mnS (lrS (XP b) p (nB b - 1) p) 24 := z1
      rw [z1']
      have ml := mnS_le (lrS (XP b) p (nB b - 1) p) 24
      have m0 : 0 ≤ mnS (lrS (XP b) p (nB b - 1) p) 24 := by
        rcases mnS_at (lrS (XP b) p (nB b - 1) p) 24 with e | ⟨k, hk, e⟩
        · omega
        · rw [← e]; exact (lr_le hv p (show nB b - 1 < xn (XP b) by show nB b - 1 < nB b; omega) p ⟨hk.1, by omega⟩).1
      exact kT_callE (P_toldCost (by omega) τ3) (kT_ri ⟨rfl, q.1⟩)
  · rw [if_neg c, if_neg c]
    exact kT_eqf (by omega) (by omega) (by omega) (kT_ri ⟨rfl, hC⟩)
