/-! ===== within in the class ===== -/
theorem P_cheapestMove_42 {X : KX} (hv : xV X) {σ : KM} (h36 : stC X σ) {g : Int → Int} {row k : Int} (hk : 0 ≤ k ∧ k < 24) (hr : 0 ≤ row ∧ row ≤ 1128) (hg : ∀ o, 0 ≤ o → o < 24 → g o = 1000000000 ∨ (0 ≤ g o ∧ g o ≤ 400000000)) (h : ∀ o, 0 ≤ o → o < 24 → σ 42 (row + o) = g o) : fDe_cheapestMove_42 row k σ = some (mnS (fun o => addS (g o) (xs X o k)) 24, σ) := by
  refine kP ?_ (rfDe_cheapestMove_42 row k σ)
  unfold fDe_cheapestMove_42 fDe_cheapestMove_42_L7
  refine kT_for (fun i s => s = (mnS (fun o => addS (g o) (xs X o k)) i, (i : Int), σ)) 24 ?_ ?_ 0 (by omega) kF _ rfl (kF_lt (by omega))
  · rintro i s hi rfl
    have rm := mv_r hv hk hg i (by omega)
    have rg := hg i (by omega) (by omega)
    have rs := hv.2.2.2.1 i k (by omega) (by omega) hk.1 hk.2
    show kT (fDe_cheapestMove_42_B7 row k (mnS (fun o => addS (g o) (xs X o k)) i) i σ) _
    unfold fDe_cheapestMove_42_B7
    refine kT_ltt (by omega) (by omega) (kT_rd (by omega) (kT_rd (by omega) ?_))
    rw [h i (by omega) (by omega), h36 i k (by omega) (by omega) hk.1 hk.2]
    refine kT_mn (by omega) (by omega) (kT_let (kT_inl ?_))
    have pv : (g i = 1000000000 ∧ addS (g i) (xs X i k) = 1000000000) ∨ (g i < 1000000000 ∧ addS (g i) (xs X i k) = g i + xs X i k) := by
      unfold addS
      by_cases cc : g i < 1000000000
      · rw [if_pos ⟨cc, by omega⟩]; omega
      · rw [if_neg (by omega)]; omega
    have ml := mnS_le (fun o => addS (g o) (xs X o k)) i
    by_cases c : g i + xs X i k < mnS (fun o => addS (g o) (xs X o k)) i
    · rw [if_pos c, mnS_t (by omega)]
      rw [show addS (g i) (xs X i k) = g i + xs X i k by omega]
      rfl
    · rw [if_neg c, mnS_f (by omega)]
      rfl
  · rintro s rfl
    have rm := mv_r hv hk hg 24 (by omega)
    show kT (fDe_cheapestMove_42_B7 row k (mnS (fun o => addS (g o) (xs X o k)) 24) 24 σ) _
    unfold fDe_cheapestMove_42_B7 fDe_cheapestMove_42_J46
    exact kT_ltf (by omega) (by omega) (kT_exit (kT_ri rfl))
theorem P_cheapestMove_44 {X : KX} (hv : xV X) {σ : KM} (h36 : stC X σ) {g : Int → Int} {row k : Int} (hk : 0 ≤ k ∧ k < 24) (hr : 0 ≤ row ∧ row ≤ 1128) (hg : ∀ o, 0 ≤ o → o < 24 → g o = 1000000000 ∨ (0 ≤ g o ∧ g o ≤ 400000000)) (h : ∀ o, 0 ≤ o → o < 24 → σ 44 (row + o) = g o) : fDe_cheapestMove_44 row k σ = some (mnS (fun o => addS (g o) (xs X o k)) 24, σ) := by
  refine kP ?_ (rfDe_cheapestMove_44 row k σ)
  unfold fDe_cheapestMove_44 fDe_cheapestMove_44_L7
  refine kT_for (fun i s => s = (mnS (fun o => addS (g o) (xs X o k)) i, (i : Int), σ)) 24 ?_ ?_ 0 (by omega) kF _ rfl (kF_lt (by omega))
  · rintro i s hi rfl
    have rm := mv_r hv hk hg i (by omega)
    have rg := hg i (by omega) (by omega)
    have rs := hv.2.2.2.1 i k (by omega) (by omega) hk.1 hk.2
    show kT (fDe_cheapestMove_44_B7 row k (mnS (fun o => addS (g o) (xs X o k)) i) i σ) _
    unfold fDe_cheapestMove_44_B7
    refine kT_ltt (by omega) (by omega) (kT_rd (by omega) (kT_rd (by omega) ?_))
    rw [h i (by omega) (by omega), h36 i k (by omega) (by omega) hk.1 hk.2]
    refine kT_mn (by omega) (by omega) (kT_let (kT_inl ?_))
    have pv : (g i = 1000000000 ∧ addS (g i) (xs X i k) = 1000000000) ∨ (g i < 1000000000 ∧ addS (g i) (xs X i k) = g i + xs X i k) := by
      unfold addS
      by_cases cc : g i < 1000000000
      · rw [if_pos ⟨cc, by omega⟩]; omega
      · rw [if_neg (by omega)]; omega
    have ml := mnS_le (fun o => addS (g o) (xs X o k)) i
    by_cases c : g i + xs X i k < mnS (fun o => addS (g o) (xs X o k)) i
    · rw [if_pos c, mnS_t (by omega)]
      rw [show addS (g i) (xs X i k) = g i + xs X i k by omega]
      rfl
    · rw [if_neg c, mnS_f (by omega)]
      rfl
  · rintro s rfl
    have rm := mv_r hv hk hg 24 (by omega)
    show kT (fDe_cheapestMove_44_B7 row k (mnS (fun o => addS (g o) (xs X o k)) 24) 24 σ) _
    unfold fDe_cheapestMove_44_B7 fDe_cheapestMove_44_J46
    exact kT_ltf (by omega) (by omega) (kT_exit (kT_ri rfl))
theorem P_leastOf_42 {σ : KM} {g : Int → Int} {row : Int} (hr : 0 ≤ row ∧ row ≤ 1128) (hg : ∀ o, 0 ≤ o → o < 24 → 0 ≤ g o ∧ g o ≤ 1000000000) (h : ∀ o, 0 ≤ o → o < 24 → σ 42 (row + o) = g o) : fDe_leastOf_42 row σ = some (mnS g 24, σ) := by
  refine kP ?_ (rfDe_leastOf_42 row σ)
  have mr : ∀ j : Nat, j ≤ 24 → 0 ≤ mnS g j ∧ mnS g j ≤ 1000000000 := fun j hj => by
    refine ⟨?_, mnS_le g j⟩
    rcases mnS_at g j with e | ⟨k, hk, e⟩
    · omega
    · rw [← e]; exact (hg k hk.1 (by omega)).1
  unfold fDe_leastOf_42 fDe_leastOf_42_L5
  refine kT_for (fun i s => s = (mnS g i, (i : Int), σ)) 24 ?_ ?_ 0 (by omega) kF _ rfl (kF_lt (by omega))
  · rintro i s hi rfl
    have rm := mr i (by omega)
    have rg := hg i (by omega) (by omega)
    show kT (fDe_leastOf_42_B5 row (mnS g i) i σ) _
    unfold fDe_leastOf_42_B5
    refine kT_ltt (by omega) (by omega) (kT_rd (by omega) ?_)
    rw [h i (by omega) (by omega)]
    refine kT_mn (by omega) (by omega) (kT_let (kT_inl ?_))
    rw [mnS]
    rfl
  · rintro s rfl
    have rm := mr 24 (by omega)
    show kT (fDe_leastOf_42_B5 row (mnS g 24) 24 σ) _
    unfold fDe_leastOf_42_B5 fDe_leastOf_42_J27
    exact kT_ltf (by omega) (by omega) (kT_exit (kT_ri rfl))
theorem P_leastOf_44 {σ : KM} {g : Int → Int} {row : Int} (hr : 0 ≤ row ∧ row ≤ 1128) (hg : ∀ o, 0 ≤ o → o < 24 → 0 ≤ g o ∧ g o ≤ 1000000000) (h : ∀ o, 0 ≤ o → o < 24 → σ 44 (row + o) = g o) : fDe_leastOf_44 row σ = some (mnS g 24, σ) := by
  refine kP ?_ (rfDe_leastOf_44 row σ)
  have mr : ∀ j : Nat, j ≤ 24 → 0 ≤ mnS g j ∧ mnS g j ≤ 1000000000 := fun j hj => by
    refine ⟨?_, mnS_le g j⟩
    rcases mnS_at g j with e | ⟨k, hk, e⟩
    · omega
    · rw [← e]; exact (hg k hk.1 (by omega)).1
  unfold fDe_leastOf_44 fDe_leastOf_44_L5
  refine kT_for (fun i s => s = (mnS g i, (i : Int), σ)) 24 ?_ ?_ 0 (by omega) kF _ rfl (kF_lt (by omega))
  · rintro i s hi rfl
    have rm := mr i (by omega)
    have rg := hg i (by omega) (by omega)
    show kT (fDe_leastOf_44_B5 row (mnS g i) i σ) _
    unfold fDe_leastOf_44_B5
    refine kT_ltt (by omega) (by omega) (kT_rd (by omega) ?_)
    rw [h i (by omega) (by omega)]
    refine kT_mn (by omega) (by omega) (kT_let (kT_inl ?_))
    rw [mnS]
    rfl
  · rintro s rfl
    have rm := mr 24 (by omega)
    show kT (fDe_leastOf_44_B5 row (mnS g 24) 24 σ) _
    unfold fDe_leastOf_44_B5 fDe_leastOf_44_J27
    exact kT_ltf (by omega) (by omega) (kT_exit (kT_ri rfl))
theorem P_goOn {X : KX} (hv : xV X) {σ : KM} (hx : xC X σ) (h36 : stC X σ) {w m : Nat} (hw : w + 1 < xn X) (hm : m < 48) (h : ∀ (m' : Nat) (k : Int), m' ≤ m → 0 ≤ k → k < 24 → σ 42 ((m' : Int) * 24 + k) = cmS X w m' k) : kT (fDe_goOn ((w : Int) + 1) m σ) (fun z => (∀ k : Int, 0 ≤ k → k < 24 → z.2 42 ((m : Int) * 24 + k) = cmS X (w + 1) m k) ∧ ∀ j : Int, (j < (m : Int) * 24 ∨ (m : Int) * 24 + 24 ≤ j) → z.2 42 j = σ 42 j) := by
  have hn := hv.1
  unfold fDe_goOn fDe_goOn_L3
  refine kT_for (fun i s => ∃ M : KM, s = ((i : Int), M) ∧ kFr wfDe_goOn σ M ∧ (∀ k : Int, 0 ≤ k → k < i → M 42 ((m : Int) * 24 + k) = cmS X (w + 1) m k) ∧ ∀ j : Int, (j < (m : Int) * 24 ∨ (m : Int) * 24 + i ≤ j) → M 42 j = σ 42 j) 24 ?_ ?_ 0 (by omega) kF _ ⟨σ, rfl, kFr.rf, fun k _ h => by omega, fun j _ => rfl⟩ (kF_lt (by omega))
  · rintro i s hi ⟨M, rfl, hf, hk, ho⟩
    have hxM := hx.fr hf rfl
    have hsM := h36.fr hf rfl
    have ow := hv.2.1 ((w : Int) + 1) i (by omega) (by omega)
    have e34 := hxM.2.1 ((w : Int) + 1) i (by omega) (by omega) (by omega) (by omega)
    have e35 := hxM.2.2 ((w : Int) + 1) (by omega) (by omega)
    have kr := hv.2.2.1 ((w : Int) + 1)
    have e42 : M 42 ((m : Int) * 24 + i) = cmS X w m i := by rw [ho _ (by omega)]; exact h m i (by omega) (by omega) (by omega)
    have r42 := cmS_r hv w m i (by omega) (by omega)
    have fin : ∀ v, (v = 1000000000 ∨ (0 ≤ v ∧ v ≤ 400000000)) → addS (xo X ((w : Int) + 1) i) v = cmS X (w + 1) m i → kT (fDe_goOn_J66 ((w : Int) + 1) m i ((m : Int) * 24 + i) v M) (kS (fun s => ∃ M : KM, s = (((i + 1 : Nat) : Int), M) ∧ kFr wfDe_goOn σ M ∧ (∀ k : Int, 0 ≤ k → k < ((i + 1 : Nat) : Int) → M 42 ((m : Int) * 24 + k) = cmS X (w + 1) m k) ∧ ∀ j : Int, (j < (m : Int) * 24 ∨ (m : Int) * 24 + ((i + 1 : Nat) : Int) ≤ j) → M 42 j = σ 42 j) (fun z => (∀ k : Int, 0 ≤ k → k < 24 → z.2 42 ((m : Int) * 24 + k) = cmS X (w + 1) m k) ∧ ∀ j : Int, (j < (m : Int) * 24 ∨ (m : Int) * 24 + 24 ≤ j) → z.2 42 j = σ 42 j)) := by
      intro v hv9 ev
      unfold fDe_goOn_J66
      refine kT_rd (by omega) ?_
      rw [e34]
      refine kT_callE (P_plus (by omega) M) (kT_wr (by omega) (kT_let (kT_inl ⟨_, rfl, hf.put rfl, fun k b0 b1 => ?_, fun j hj => ?_⟩)))
      · by_cases e : k = i
        · rw [e, ks_s, plus_add (by omega) hv9, ev]
        · rw [ks_i (by omega)]; exact hk k b0 (by omega)
      · rw [ks_i (by omega)]; exact ho j (by omega)
    show kT (fDe_goOn_B3 ((w : Int) + 1) m i M) _
    unfold fDe_goOn_B3
    unfold fnB at r42
    refine kT_ltt (by omega) (by omega) (kT_let (kT_rd (by omega) ?_))
    rw [e42]
    cases m with
    | zero =>
      refine kT_ltf (by omega) (by omega) (fin _ (by omega) ?_)
      rw [cmS]
    | succ m =>
      refine kT_ltt (by omega) (by omega) (kT_rd (by omega) ?_)
      rw [e35]
      refine kT_eq (by omega) (by omega) (fun c => ?_) (fun c => ?_)
      · have rA : ∀ o, 0 ≤ o → o < 24 → cmS X w m o = 1000000000 ∨ (0 ≤ cmS X w m o ∧ cmS X w m o ≤ 1209900 * ((w : Int) + 1)) := fun o o0 o1 => cmS_r hv w m o o0 o1
        have rm := mv_r hv (g := cmS X w m) (B := 1209900 * ((w : Int) + 1)) (k := i) (by omega) rA 24 (by omega)
        refine kT_callE (P_cheapestMove_42 hv hsM (g := cmS X w m) (by omega) (by omega) (fun o o0 o1 => by have := rA o o0 o1; omega) (fun o o0 o1 => ?_)) (kT_mn (by omega) (by omega) (fin _ ?_ ?_))
        · rw [show ((m + 1 : Nat) : Int) * 24 + (i : Int) - i - 24 + o = (m : Int) * 24 + o by omega, ho _ (by omega)]
          exact h m o (by omega) o0 o1
        · split <;> omega
        · rw [cmS, if_neg (show ¬ xk X ((w : Int) + 1) = 1 by omega)]
      · refine fin _ (by omega) ?_
        rw [cmS, if_pos (by omega)]
  · rintro s ⟨M, rfl, hf, hk, ho⟩
    show kT (fDe_goOn_B3 ((w : Int) + 1) m 24 M) _
    unfold fDe_goOn_B3 fDe_goOn_J96
    exact kT_ltf (by omega) (by omega) (kT_exit (kT_ri ⟨fun k b0 b1 => hk k b0 (by omega), fun j hj => ho j (by omega)⟩))
theorem P_moves {σ : KM} {n : Int} (h : σ 8 12 = n) (hn : 0 ≤ n ∧ n ≤ 48) : fFi_moves σ = some (if n = 0 then 0 else n - 1, σ) := by
  refine kT.eq ?_
  unfold fFi_moves
  rw [h]
  refine kT_mx (by omega) (by omega) (kT_ri ?_)
  by_cases c : n = 0
  · rw [if_pos c, if_neg (by omega)]
  · rw [if_neg c]
    split
    · rfl
    · rw [show n - 1 = 0 by omega]
theorem P_countMoves {X : KX} (hv : xV X) (hl : lsS X < 1000000000) {σ : KM} (hs : sOK X σ) (h0 : 0 < xn X) (h94 : σ 9 4 = 0) : kT (fDe_countMoves σ) (fun z => mvOK X z.2 ∧ z.2 9 4 = 1) := by
  have hn := hv.1
  have hx := hs.1
  have h36 := hs.2.1
  have e12 := (hs.2.2.2.2.1 hl).2.1
  have sr := sgS_r (paS X) (xn X)
  have s1 : 1 ≤ sgS (paS X) (xn X) := by
    have a1 : sgS (paS X) 1 = sgS (paS X) 0 + 1 := sgS_t (pa := paS X) (w := 0) (Or.inl rfl)
    have a2 := sgS_m (paS X) 1 (xn X - 1)
    have a3 := sgS_r (paS X) 0
    rw [show 1 + (xn X - 1) = xn X by omega] at a2
    omega
  obtain ⟨R, hR⟩ : ∃ R : Nat, (R : Int) = sgS (paS X) (xn X) - 1 := ⟨(sgS (paS X) (xn X) - 1).toNat, by omega⟩
  unfold fDe_countMoves
  rw [h94]
  refine kT_eqt rfl (by omega) (kT_callE (P_moves e12 (by omega)) ?_)
  rw [if_neg (by omega), ← hR]
  refine kT_mn (by omega) (by omega) ?_
  have eR : (if (R : Int) < 48 then (R : Int) else 48) = R := by
    rw [if_pos (by omega)]
  rw [eR]
  unfold fDe_countMoves_L20
  refine kT_for (fun i s => ∃ M : KM, s = ((i : Int), M) ∧ kFr wfDe_countMoves σ M ∧ ∀ c : Int, 0 ≤ c → c < i → M 42 c = xo X 0 (c % 24)) (R * 24) ?_ ?_ 0 (by omega) kF _ ⟨σ, rfl, kFr.rf, fun k _ h => by omega⟩ (kF_lt (by omega))
  · rintro i s hi ⟨M, rfl, hf, hk⟩
    have hxM := hx.fr hf rfl
    have e34 := hxM.2.1 0 ((i : Int) % 24) (by omega) (by omega) (by omega) (by omega)
    show kT (fDe_countMoves_B20 R i M) _
    unfold fDe_countMoves_B20
    refine kT_ltt (by omega) (by omega) (kT_rm (by omega) (by omega) (by omega) ?_)
    rw [tmod_e (by omega)]
    refine kT_rd (by omega) (kT_wr (by omega) (kT_let (kT_inl ⟨_, rfl, hf.put rfl, fun c c0 c1 => ?_⟩)))
    by_cases e : c = i
    · rw [e, ks_s, show ((i : Int) % 24) = 0 * 24 + (i : Int) % 24 by omega, e34]
      rw [show 0 * 24 + (i : Int) % 24 = (i : Int) % 24 by omega]
    · rw [ks_i e]; exact hk c c0 (by omega)
  · rintro s ⟨M0, rfl, hf0, hk0⟩
    show kT (fDe_countMoves_B20 R ((R * 24 : Nat) : Int) M0) _
    unfold fDe_countMoves_B20 fDe_countMoves_J49 fDe_countMoves_L51
    refine kT_ltf (by omega) (by omega) (kT_exit ?_)
    refine kT_for (fun i s => ∃ M : KM, s = ((i : Int) + 1, M) ∧ kFr wfDe_countMoves σ M ∧ ∀ (m : Nat) (k : Int), m < R → 0 ≤ k → k < 24 → M 42 ((m : Int) * 24 + k) = cmS X i m k) (xn X - 1) ?_ ?_ 0 (by omega) kF _ ⟨M0, rfl, hf0, fun m k hm k0 k1 => ?_⟩ (kF_lt (by omega))
    · rintro i s hi ⟨M, rfl, hf, h⟩
      have hxM := hx.fr hf rfl
      show kT (fDe_countMoves_B51 R ((i : Int) + 1) M) _
      unfold fDe_countMoves_B51 fDe_countMoves_L64
      rw [hxM.1]
      refine kT_ltt (by omega) (by omega) (kT_let ?_)
      refine kT_for (fun j s => ∃ M : KM, s = ((R : Int) - 1 - j, M) ∧ kFr wfDe_countMoves σ M ∧ (∀ (m : Nat) (k : Int), m < R - j → 0 ≤ k → k < 24 → M 42 ((m : Int) * 24 + k) = cmS X i m k) ∧ ∀ (m : Nat) (k : Int), R - j ≤ m → m < R → 0 ≤ k → k < 24 → M 42 ((m : Int) * 24 + k) = cmS X (i + 1) m k) R ?_ ?_ 0 (by omega) kF _ ⟨M, by simp, hf, fun m k hm => h m k (by omega), fun m k h1 h2 => by omega⟩ (kF_lt (by omega))
      · rintro j s hj ⟨M, rfl, hf, h1, h2⟩
        have hxM := hx.fr hf rfl
        have hsM := h36.fr hf rfl
        show kT (fDe_countMoves_B64 R ((i : Int) + 1) ((R : Int) - 1 - j) M) _
        unfold fDe_countMoves_B64
        have eJ : (R : Int) - 1 - j = ((R - 1 - j : Nat) : Int) := by omega
        rw [eJ]
        refine kT_ltf (by omega) (by omega) ?_
        refine kT_callT (kT.fr (P_goOn hv hxM hsM (w := i) (m := R - 1 - j) (by omega) (by omega) (fun m' k hm => h1 m' k (by omega))) (rfDe_goOn _ _ _)) (fun r τ hz => ?_)
        obtain ⟨⟨z1, z2⟩, hf2⟩ := hz
        dsimp only at z1 z2 hf2
        refine kT_let (kT_inl ⟨τ, ?_, hf.trans (hf2.mono rfl), fun m k hm k0 k1 => ?_, fun m k hm hm2 k0 k1 => ?_⟩)
        · refine Prod.ext ?_ rfl
          dsimp only
          omega
        · rw [z2 _ (by omega)]; exact h1 m k (by omega) k0 k1
        · by_cases e : m = R - 1 - j
          · rw [e]; exact z1 k k0 k1
          · rw [z2 _ (by omega)]; exact h2 m k (by omega) hm2 k0 k1
      · rintro s ⟨M, rfl, hf, h1, h2⟩
        show kT (fDe_countMoves_B64 R ((i : Int) + 1) ((R : Int) - 1 - (R : Nat)) M) _
        unfold fDe_countMoves_B64 fDe_countMoves_J83
        refine kT_ltt (by omega) (by omega) (kT_exit (kT_let (kT_inl ⟨M, ?_, hf, fun m k hm k0 k1 => h2 m k (by omega) hm k0 k1⟩)))
        refine Prod.ext ?_ rfl
        dsimp only
        omega
    · rintro s ⟨M, rfl, hf, h⟩
      have hxM := hx.fr hf rfl
      show kT (fDe_countMoves_B51 R (((xn X - 1 : Nat) : Int) + 1) M) _
      unfold fDe_countMoves_B51 fDe_countMoves_J89 fDe_countMoves_L91
      rw [hxM.1]
      refine kT_ltf (by omega) (by omega) (kT_exit ?_)
      refine kT_for (fun i s => ∃ M : KM, s = ((i : Int), M) ∧ (∀ (m : Nat) (k : Int), m < R → 0 ≤ k → k < 24 → M 42 ((m : Int) * 24 + k) = cmS X (xn X - 1) m k) ∧ ∀ m : Nat, m < i → M 43 m = mnS (cmS X (xn X - 1) m) 24) R ?_ ?_ 0 (by omega) kF _ ⟨M, rfl, h, fun m hm => by omega⟩ (kF_lt (by omega))
      · rintro i s hi ⟨M, rfl, h, h43⟩
        show kT (fDe_countMoves_B91 R i M) _
        unfold fDe_countMoves_B91
        refine kT_ltt (by omega) (by omega) ?_
        refine kT_callE (P_leastOf_42 (g := cmS X (xn X - 1) i) (by omega) (fun o o0 o1 => cm_le hv (by omega) i ⟨o0, o1⟩) (fun o o0 o1 => h i o hi o0 o1)) (kT_wr (by omega) (kT_let (kT_inl ⟨_, rfl, h, fun m hm => ?_⟩)))
        by_cases e : m = i
        · rw [e, ks_s]
        · rw [ks_i (by omega)]; exact h43 m (by omega)
      · rintro s ⟨M, rfl, h, h43⟩
        show kT (fDe_countMoves_B91 R (R : Nat) M) _
        unfold fDe_countMoves_B91 fDe_countMoves_J119
        refine kT_ltf (by omega) (by omega) (kT_exit (kT_wfz (by omega) (kT_ri ⟨fun m hm => ?_, by dsimp only; exact ks_s _ _ _ _⟩)))
        dsimp only
        rw [ks_c (by decide)]
        exact h43 m (by omega)
    · rw [hk0 _ (by omega) (by omega), cmS, show ((m : Int) * 24 + k) % 24 = k by omega]
theorem C_countMoves {b : KB} {σ : KM} (hb : kB b) (h : CI b σ) (hF : frC b σ) (hl : hP b) (h0 : 0 < nB b) : kT (fDe_countMoves σ) (fun z => CI b z.2 ∧ frC b z.2 ∧ mvOK (XP b) z.2) := by
  rcases hF.2.2.2.2.2 with c | ⟨c, ha⟩
  · refine (kT.fr (P_countMoves (XP_v hb) hl hF.2.1 h0 c) (rfDe_countMoves σ)).mono (fun z hz => ?_)
    obtain ⟨⟨z1, z2⟩, z3⟩ := hz
    have e91 : z.2 9 1 = σ 9 1 := z3.slot rfl
    have c41 : z.2 41 = σ 41 := z3.cell rfl
    have q := frC.re h hF (z3.mono rfl) (by rw [e91]; unfold ahOK; rw [c41]; exact hF.2.2.2.2.1) (Or.inr ⟨z2, z1⟩)
    exact ⟨q.1, q.2, z1⟩
  · unfold fDe_countMoves
    rw [c]
    exact kT_eqf (by omega) (by omega) (by omega) (kT_ri ⟨h, hF, ha⟩)
def toS (v : Int) : Int := if v < 1000000000 then v else -1
def qWithin (b : KB) (n : Int) : Int := if n < 0 ∨ 47 < n then -3 else if hP b then (if nB b = 0 then 0 else toS (mnS (cmS (XP b) (nB b - 1) n.toNat) 24)) else -5
theorem C_within {b : KB} {σ : KM} (hb : kB b) (h : CI b σ) {n : Int} (hx : i32 n) : kT (fP_within n σ) (fun z => z.1 = qWithin b n ∧ CI b z.2) := by
  have eN := nB_i hb
  have n48 := nB_48 hb
  have hv := XP_v hb
  unfold fP_within qWithin
  refine kT_callE (P_outOf (by omega) (by omega) hx σ) ?_
  by_cases c2 : n < 0 ∨ 47 < n
  · rw [if_pos c2, if_pos c2]
    exact kT_eqf (by omega) (by omega) (by omega) (kT_ri ⟨rfl, h⟩)
  rw [if_neg c2, if_neg c2]
  refine kT_eqt rfl (by omega) (kT_callT (C_noPath hb h) (fun r τ2 hz => ?_))
  obtain ⟨hr, hC, hF, hW⟩ := hz
  dsimp only at hr hC hF hW
  rw [hr]
  by_cases c : hP b
  · rw [if_pos c, if_pos c]
    have hl : lsS (XP b) < 1000000000 := c
    have e12 := (hF.p c).2.1
    have e88 := hF.2.1.2.2.2.1.1
    have sr := sgS_r (pB b) (nB b)
    refine kT_eqt rfl (by omega) (kT_callE (P_moves e12 (by omega)) ?_)
    by_cases h0 : nB b = 0
    · rw [if_pos h0]
      have s0 : sgS (pB b) (nB b) = 0 := by rw [h0]; rfl
      rw [s0, if_pos rfl]
      refine kT_ltf (by omega) (by omega) (kT_ri ⟨?_, hC⟩)
      dsimp only
      rw [e88]
      unfold lsS
      rw [if_pos (show xn (XP b) = 0 from h0)]
    · rw [if_neg h0]
      have s1 : 1 ≤ sgS (pB b) (nB b) := by
        have a1 : sgS (pB b) 1 = sgS (pB b) 0 + 1 := sgS_t (pa := pB b) (w := 0) (Or.inl rfl)
        have a2 := sgS_m (pB b) 1 (nB b - 1)
        have a3 := sgS_r (pB b) 0
        rw [show 1 + (nB b - 1) = nB b by omega] at a2
        omega
      rw [if_neg (by omega)]
      refine kT_lt (by omega) (by omega) (fun d => ?_) (fun d => ?_)
      · refine kT_callT (C_countMoves hb hC hF c (by omega)) (fun r τ3 hz => ?_)
        obtain ⟨hC3, hF3, hM⟩ := hz
        dsimp only at hC3 hF3 hM
        have e43 := hM n.toNat (by show ((n.toNat : Nat) : Int) + 1 < sgS (pB b) (nB b); omega)
        rw [show ((n.toNat : Nat) : Int) = n by omega] at e43
        refine kT_rd (by omega) ?_
        rw [e43]
        have ml := mnS_le (cmS (XP b) (nB b - 1) n.toNat) 24
        have m0 : 0 ≤ mnS (cmS (XP b) (nB b - 1) n.toNat) 24 := by
          rcases mnS_at (cmS (XP b) (nB b - 1) n.toNat) 24 with e | ⟨k, hk, e⟩
          · omega
          · rw [← e]; exact (cm_le hv (show nB b - 1 < xn (XP b) by show nB b - 1 < nB b; omega) n.toNat ⟨hk.1, by omega⟩).1
        refine kT_callE (P_toldCost (x := mnS (cmS (XP b) (nB b - 1) n.toNat) 24) (by omega) τ3) (kT_ri ⟨rfl, hC3⟩)
      · refine kT_ri ⟨?_, hC⟩
        dsimp only
        have e := ls_cm hv hl (show 0 < nB b by omega) (n := n.toNat) (by show sgS (pB b) (nB b) ≤ _; omega)
        have e' : mnS (cmS (XP b) (nB b - 1) n.toNat) 24 = lsS (XP b) := e
        rw [e', e88]
        unfold toS
        rw [if_pos hl]
  · rw [if_neg c, if_neg c]
    exact kT_eqf (by omega) (by omega) (by omega) (kT_ri ⟨rfl, hC⟩)
