/-! ===== the greatest common divisor, the ranks of the reference ===== -/
def euc : Nat → Int → Int → Int
  | 0, a, _ => a
  | n + 1, a, c => if c = 0 then a else euc n c (a % c)
theorem euc_0 (n : Nat) (a : Int) : euc n a 0 = a := by
  cases n with
  | zero => rfl
  | succ n => rw [euc, if_pos rfl]
theorem euc_s {n : Nat} {a c : Int} (h : c ≠ 0) : euc (n + 1) a c = euc n c (a % c) := by rw [euc, if_neg h]
theorem euc_p : ∀ (n : Nat) (a c : Int), 1 ≤ a → 0 ≤ c → 1 ≤ euc n a c
  | 0, a, c, h1, _ => h1
  | n + 1, a, c, h1, h2 => by
    rw [euc]
    split
    · exact h1
    · exact euc_p n c (a % c) (by omega) (Int.emod_nonneg _ (by omega))
theorem euc_u : ∀ (n : Nat) (a c : Int), 0 ≤ a ∧ a ≤ 1000000 → 0 ≤ c ∧ c ≤ 1000000 → 0 ≤ euc n a c ∧ euc n a c ≤ 1000000
  | 0, a, c, h1, _ => h1
  | n + 1, a, c, h1, h2 => by
    rw [euc]
    split
    · exact h1
    · have e1 := Int.emod_nonneg a (show c ≠ 0 by omega)
      have e2 := Int.emod_lt_of_pos a (show 0 < c by omega)
      exact euc_u n c (a % c) h2 (by omega)
theorem P_commonDivisor {a c : Int} (h1 : 0 ≤ a ∧ a ≤ 1000000) (h2 : 0 ≤ c ∧ c ≤ 1000000) (σ : KM) : fP_commonDivisor a c σ = some (euc 64 a c, σ) := by
  refine kP ?_ (rfP_commonDivisor a c σ)
  unfold fP_commonDivisor fP_commonDivisor_L7
  refine kT_for (fun i s => ∃ x y : Int, s = (x, y, (i : Int), σ) ∧ (0 ≤ x ∧ x ≤ 1000000) ∧ (0 ≤ y ∧ y ≤ 1000000) ∧ euc (64 - i) x y = euc 64 a c) 64 ?_ ?_ 0 (by omega) kF _ ⟨a, c, rfl, h1, h2, rfl⟩ (kF_lt (by omega))
  · rintro i s hi ⟨x, y, rfl, hx, hy, he⟩
    show kT (fP_commonDivisor_B7 x y i σ) _
    unfold fP_commonDivisor_B7 fP_commonDivisor_J34
    refine kT_ltt (by omega) (by omega) ?_
    refine kT_eq (by omega) (by omega) (fun c0 => ?_) (fun c0 => ?_)
    · refine kT_exit (kT_ri ?_)
      subst c0
      rw [euc_0] at he
      exact he
    · refine kT_rm (by omega) (by omega) c0 (kT_let (kT_inl ?_))
      have e1 := Int.emod_nonneg x c0
      have e2 := Int.emod_lt_of_pos x (show 0 < y by omega)
      refine ⟨y, x.tmod y, rfl, hy, ?_, ?_⟩
      · rw [tmod_e hx.1]; omega
      · rw [tmod_e hx.1, ← he, show 64 - i = (64 - (i + 1)) + 1 by omega, euc_s c0]
  · rintro s ⟨x, y, rfl, hx, hy, he⟩
    show kT (fP_commonDivisor_B7 x y 64 σ) _
    unfold fP_commonDivisor_B7 fP_commonDivisor_J34
    exact kT_ltf (by omega) (by omega) (kT_exit (kT_ri he))
theorem com_0 (N : Nat) {a : Int} (σ : KM) (h1 : 0 ≤ a ∧ a ≤ 1000000) : fM_common (N + 1) a 0 σ = some (a, σ) := by
  refine kT.eq ?_
  unfold fM_common fM_common_J15
  exact kT_eqt rfl (by omega) (kT_ri rfl)
theorem com_s (N : Nat) {a c r : Int} (σ : KM) (h1 : 0 ≤ a ∧ a ≤ 1000000) (h2 : 0 < c ∧ c ≤ 1000000) (h : fM_common N c (a % c) σ = some (r, σ)) : fM_common (N + 1) a c σ = some (r, σ) := by
  refine kT.eq ?_
  unfold fM_common fM_common_J15
  refine kT_eqf (by omega) (by omega) (by omega) (kT_rm (by omega) (by omega) (by omega) ?_)
  rw [tmod_e h1.1]
  exact kT_callE h (kT_ri rfl)
theorem com_e (σ : KM) : ∀ (n : Nat) (a c : Int), 0 ≤ a ∧ a ≤ 1000000 → 0 ≤ c ∧ c ≤ 1000000 → c < 2 ^ n → ∀ N M : Nat, fM_common (N + (2 * n + 1)) a c σ = some (euc (M + 2 * n) a c, σ)
  | 0, a, c, h1, h2, h3, N, M => by
    have e : c = 0 := by simp at h3; omega
    subst e
    rw [euc_0]
    exact com_0 N σ h1
  | n + 1, a, c, h1, h2, h3, N, M => by
    by_cases c0 : c = 0
    · subst c0
      rw [euc_0]
      exact com_0 (N + (2 * (n + 1))) σ h1
    · have e1 := Int.emod_nonneg a c0
      have e2 := Int.emod_lt_of_pos a (show 0 < c by omega)
      rw [show N + (2 * (n + 1) + 1) = (N + (2 * n + 2)) + 1 by omega, show M + 2 * (n + 1) = (M + 2 * n + 1) + 1 by omega, euc_s c0]
      refine com_s _ σ h1 (by omega) ?_
      generalize a % c = r at e1 e2 ⊢
      by_cases r0 : r = 0
      · subst r0
        rw [euc_0]
        exact com_0 _ σ h2
      · have e3 := Int.emod_nonneg c r0
        have e4 := Int.emod_lt_of_pos c (show 0 < r by omega)
        have e5 : 2 * (c % r) < c := by
          have := Int.emod_add_mul_ediv c r
          have q1 : 1 ≤ c / r := by
            have := Int.ediv_le_ediv (c := r) (by omega) (show r ≤ c by omega)
            rw [Int.ediv_self r0] at this
            exact this
          have q2 := Int.mul_le_mul_of_nonneg_left q1 (show 0 ≤ r by omega)
          omega
        rw [euc_s r0, show N + (2 * n + 2) = (N + (2 * n + 1)) + 1 by omega]
        refine com_s _ σ h2 (by omega) ?_
        refine com_e σ n r (c % r) (by omega) (by omega) ?_ N M
        rw [Int.pow_succ] at h3
        omega
theorem M_common {a c : Int} (h1 : 0 ≤ a ∧ a ≤ 1000000) (h2 : 0 ≤ c ∧ c ≤ 6400) (σ : KM) : fM_common 40 a c σ = some (euc 64 a c, σ) := com_e σ 13 a c h1 (by omega) (by simp; omega) 13 38
theorem M_rankedNow {σ : KM} {rank : Int} {wt g : Int → Int} {t : Int} (hk : 0 ≤ rank ∧ rank < 24) (hg : gOK g t) (hw : wtOK wt) (h1 : ∀ y, 0 ≤ y → y < 12 → σ 55 y = g y) (h2 : ∀ i, 0 ≤ i → i < 24 → σ 52 i = wt i) (h3 : σ 10 27 = t) : fM_rankedNow rank σ = some (rkS (fiS wt g t) rank 24, σ) := by
  refine kP ?_ (rfM_rankedNow rank σ)
  generalize hF : fiS wt g t = f
  have hf : ∀ k, 0 ≤ k → k < 24 → fM_fitted k σ = some (f k, σ) := fun k a c => by rw [← hF]; exact M_fitted ⟨a, c⟩ hg hw h1 h2 h3
  have hr : ∀ k, 0 ≤ k → k < 24 → 0 ≤ f k ∧ f k ≤ 9900 := fun k a c => by rw [← hF]; exact fiS_r hg hw ⟨a, c⟩
  unfold fM_rankedNow fM_rankedNow_L2
  refine kT_for (fun i s => s = ((i : Int), σ) ∧ rkS f rank i = -1) 24 ?_ ?_ 0 (by omega) kF _ ⟨rfl, rfl⟩ (kF_lt (by omega))
  · rintro i s hi ⟨rfl, hn⟩
    have r1 := raS_r f i 24
    have f1 := hr i (by omega) (by omega)
    show kT (fM_rankedNow_B2 rank i σ) _
    unfold fM_rankedNow_B2 fM_rankedNow_L13
    refine kT_ltt (by omega) (by omega) ?_
    refine kT_for (fun j s => s = (raS f i j, (j : Int), σ)) 24 ?_ ?_ 0 (by omega) kF _ rfl (kF_lt (by omega))
    · rintro j s hj rfl
      have f2 := hr j (by omega) (by omega)
      show kT (fM_rankedNow_B13 rank i (raS f i j) j σ) _
      unfold fM_rankedNow_B13 fM_rankedNow_J55 fM_rankedNow_J59 fM_rankedNow_J60
      refine kT_ltt (by omega) (by omega) ?_
      refine kT_callE (hf j (by omega) (by omega)) (kT_callE (hf i (by omega) (by omega)) ?_)
      refine kT_lt (by omega) (by omega) (fun c => ?_) (fun c => ?_)
      · refine kT_let (kT_let (kT_inl ?_))
        rw [raS, if_pos (Or.inl c)]
        rfl
      · refine kT_callE (hf j (by omega) (by omega)) (kT_callE (hf i (by omega) (by omega)) ?_)
        refine kT_eq (by omega) (by omega) (fun c2 => ?_) (fun c2 => ?_)
        · refine kT_lt (by omega) (by omega) (fun c3 => ?_) (fun c3 => ?_)
          · refine kT_let (kT_let (kT_inl ?_))
            rw [raS, if_pos (Or.inr ⟨c2, c3⟩)]
            rfl
          · refine kT_let (kT_let (kT_inl ?_))
            rw [raS, if_neg (by omega)]
            rfl
        · refine kT_let (kT_let (kT_inl ?_))
          rw [raS, if_neg (by omega)]
          rfl
    · rintro s rfl
      show kT (fM_rankedNow_B13 rank i (raS f i 24) 24 σ) _
      unfold fM_rankedNow_B13 fM_rankedNow_J68 fM_rankedNow_J73
      refine kT_ltf (by omega) (by omega) (kT_exit ?_)
      refine kT_eq (by omega) (by omega) (fun c => ?_) (fun c => ?_)
      · refine kT_exit (kT_ri ?_)
        have e1 : rkS f rank (i + 1) = i := by rw [rkS, if_pos hn, if_pos c]
        have e2 := rkS_keep (f := f) (rank := rank) (i := i + 1) (by rw [e1]; omega) (24 - (i + 1))
        rw [show i + 1 + (24 - (i + 1)) = 24 by omega, e1] at e2
        exact e2.symm
      · refine kT_let (kT_inl ⟨rfl, ?_⟩)
        rw [rkS, if_pos hn, if_neg c]
  · rintro s ⟨rfl, hn⟩
    show kT (fM_rankedNow_B2 rank 24 σ) _
    unfold fM_rankedNow_B2 fM_rankedNow_J81
    exact kT_ltf (by omega) (by omega) (kT_exit (kT_ri hn.symm))
