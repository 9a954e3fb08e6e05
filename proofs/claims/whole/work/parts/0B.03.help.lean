/-! ===== small functions of both sides ===== -/
theorem kP {F : Option (Int × KM)} {r : Int} {σ : KM} (h : kT F (fun z => z.1 = r)) (hq : kQ [] σ Prod.snd F) : F = some (r, σ) := by
  obtain ⟨⟨a, τ⟩, h1, h2⟩ := h
  have h3 := (hq _ h1).pure
  rw [h1, ← h2, ← h3]
theorem P_outOf {lo hi x : Int} (h1 : -2147483648 ≤ lo ∧ lo < 2147483648) (h2 : -2147483648 ≤ hi ∧ hi < 2147483648) (h3 : -2147483648 ≤ x ∧ x < 2147483648) (σ : KM) : fP_outOf lo hi x σ = some (if x < lo ∨ hi < x then 1 else 0, σ) := by
  refine kT.eq ?_
  unfold fP_outOf fP_outOf_J10 fP_outOf_J15
  refine kT_lt h3 h1 (fun g => ?_) (fun g => ?_)
  · refine kT_rz (by omega) ?_
    rw [if_pos (Or.inl g)]
  · refine kT_lt h2 h3 (fun g2 => ?_) (fun g2 => ?_)
    · refine kT_rz (by omega) ?_
      rw [if_pos (Or.inr g2)]
    · refine kT_rz (by omega) ?_
      rw [if_neg (by omega)]
theorem P_noKey {x : Int} (h3 : -2147483648 ≤ x ∧ x < 2147483648) (σ : KM) : fP_noKey x σ = some (if x < 0 ∨ 23 < x then 1 else 0, σ) := by
  refine kT.eq ?_
  unfold fP_noKey
  refine kT_callE (P_outOf (by omega) (by omega) h3 σ) ?_
  exact kT_rz (by split <;> omega) rfl
theorem P_noTone {x : Int} (h3 : -2147483648 ≤ x ∧ x < 2147483648) (σ : KM) : fP_noTone x σ = some (if x < 0 ∨ 11 < x then 1 else 0, σ) := by
  refine kT.eq ?_
  unfold fP_noTone
  refine kT_callE (P_outOf (by omega) (by omega) h3 σ) ?_
  exact kT_rz (by split <;> omega) rfl
theorem P_noMode {x : Int} (h3 : -2147483648 ≤ x ∧ x < 2147483648) (σ : KM) : fP_noMode x σ = some (if x < 0 ∨ 1 < x then 1 else 0, σ) := by
  refine kT.eq ?_
  unfold fP_noMode
  refine kT_callE (P_outOf (by omega) (by omega) h3 σ) ?_
  exact kT_rz (by split <;> omega) rfl
theorem P_modeOf {x : Int} (h3 : -2147483648 ≤ x ∧ x < 2147483648) (σ : KM) : fP_modeOf x σ = some (if x < 12 then 0 else 1, σ) := by
  refine kT.eq ?_
  unfold fP_modeOf fP_modeOf_J11
  refine kT_lt h3 (by omega) (fun g => ?_) (fun g => ?_)
  · refine kT_ri ?_
    rw [if_pos g]
  · refine kT_ri ?_
    rw [if_neg (by omega)]
theorem P_toldCost {x : Int} (h3 : -2147483648 ≤ x ∧ x < 2147483648) (σ : KM) : fP_toldCost x σ = some (if x < 1000000000 then x else -1, σ) := by
  refine kT.eq ?_
  unfold fP_toldCost fP_toldCost_J12
  refine kT_lt h3 (by omega) (fun g => ?_) (fun g => ?_)
  · refine kT_ri ?_
    rw [if_pos g]
  · refine kT_ri ?_
    rw [if_neg (by omega)]
def plusS (a b : Int) : Int := if a + b < 1000000000 then a + b else 1000000000
theorem P_plus {a b : Int} (h3 : -2147483648 ≤ a + b ∧ a + b < 2147483648) (σ : KM) : fP_plus a b σ = some (plusS a b, σ) := by
  refine kT.eq ?_
  unfold fP_plus
  refine kT_mn (by omega) h3 ?_
  exact kT_ri rfl
theorem M_isIn {x lo hi : Int} (h1 : -2147483648 ≤ lo ∧ lo < 2147483648) (h2 : -2147483648 ≤ hi ∧ hi < 2147483648) (h3 : -2147483648 ≤ x ∧ x < 2147483648) (σ : KM) : fM_isIn x lo hi σ = some (if x < lo ∨ hi < x then 0 else 1, σ) := by
  refine kT.eq ?_
  have k1 : ∀ a b : Int, -1 ≤ kcmp a b ∧ kcmp a b ≤ 1 ∧ (kcmp a b < 0 ↔ a < b) ∧ (0 < kcmp a b ↔ b < a) := by
    intro a b
    unfold kcmp
    split
    · omega
    · split <;> omega
  have g1 := k1 x lo
  have g2 := k1 x hi
  unfold fM_isIn fM_isIn_J17 fM_isIn_J18
  refine kT_ck6 (by omega) (by omega) ?_
  refine kT_lt (by omega) (by omega) (fun g => ?_) (fun g => ?_)
  · refine kT_rz (by omega) ?_
    rw [if_pos (by omega)]
  · refine kT_ck6 (by omega) (by omega) ?_
    refine kT_lt (by omega) (by omega) (fun g => ?_) (fun g => ?_)
    · refine kT_rz (by omega) ?_
      rw [if_pos (by omega)]
    · refine kT_rz (by omega) ?_
      rw [if_neg (by omega)]
theorem M_isKey {x : Int} (h3 : -2147483648 ≤ x ∧ x < 2147483648) (σ : KM) : fM_isKey x σ = some (if x < 0 ∨ 23 < x then 0 else 1, σ) := by
  refine kT.eq ?_
  unfold fM_isKey
  refine kT_ck h3 ?_
  refine kT_callE (M_isIn (by omega) (by omega) h3 σ) ?_
  exact kT_rz (by split <;> omega) rfl
theorem M_isTriad {x : Int} (h3 : -2147483648 ≤ x ∧ x < 2147483648) (σ : KM) : fM_isTriad x σ = some (if x < 0 ∨ 35 < x then 0 else 1, σ) := by
  refine kT.eq ?_
  unfold fM_isTriad
  refine kT_ck h3 ?_
  refine kT_callE (M_isIn (by omega) (by omega) h3 σ) ?_
  exact kT_rz (by split <;> omega) rfl
theorem M_isMode {x : Int} (h3 : -2147483648 ≤ x ∧ x < 2147483648) (σ : KM) : fM_isMode x σ = some (if x < 0 ∨ 1 < x then 0 else 1, σ) := by
  refine kT.eq ?_
  unfold fM_isMode fM_isMode_J9 fM_isMode_J14
  refine kT_eq h3 (by omega) (fun g => ?_) (fun g => ?_)
  · refine kT_rz (by omega) ?_
    rw [if_neg (by omega)]
  · refine kT_eq h3 (by omega) (fun g => ?_) (fun g => ?_)
    · refine kT_rz (by omega) ?_
      rw [if_neg (by omega)]
    · refine kT_rz (by omega) ?_
      rw [if_pos (by omega)]
def addS (a b : Int) : Int := if a < 1000000000 ∧ b < 1000000000 then a + b else 1000000000
theorem M_added {a b : Int} (h1 : -2147483648 ≤ a ∧ a < 2147483648) (h2 : -2147483648 ≤ b ∧ b < 2147483648) (σ : KM) : fM_added a b σ = some (addS a b, σ) := by
  refine kT.eq ?_
  unfold fM_added fM_added_J12 fM_added_J20 addS
  refine kT_lt h1 (by omega) (fun g => ?_) (fun g => ?_)
  · refine kT_lt h2 (by omega) (fun g2 => ?_) (fun g2 => ?_)
    · refine kT_ri ?_
      rw [if_pos ⟨g, g2⟩]
    · refine kT_ri ?_
      rw [if_neg (by omega)]
  · refine kT_ri ?_
    rw [if_neg (by omega)]
/-! tables of music -/
def tonS (triad i : Int) : Int := ((triad / 3) + (if i = 0 then 0 else if i = 1 then (if triad % 3 = 0 then 4 else 3) else (if triad % 3 = 2 then 6 else 7))) % 12
theorem tonS_r (triad i : Int) : 0 ≤ tonS triad i ∧ tonS triad i < 12 := by
  unfold tonS
  omega
theorem tdiv_e {a b : Int} (h : 0 ≤ a) : a.tdiv b = a / b := Int.tdiv_eq_ediv_of_nonneg h
theorem tmod_e {a b : Int} (h : 0 ≤ a) : a.tmod b = a % b := Int.tmod_eq_emod_of_nonneg h
theorem M_toneOf {t i : Int} (h1 : 0 ≤ t ∧ t < 36) (h2 : 0 ≤ i ∧ i < 3) (σ : KM) : fM_toneOf t i σ = some (tonS t i, σ) := by
  refine kT.eq ?_
  have e1 : t.tmod 3 = t % 3 := tmod_e h1.1
  have e2 : t.tdiv 3 = t / 3 := tdiv_e h1.1
  unfold fM_toneOf fM_toneOf_J41
  refine kT_rm (by omega) (by omega) (by omega) ?_
  rw [e1]
  have fin : ∀ k : Int, 0 ≤ k ∧ k ≤ 7 → ((t / 3 + k) % 12 = tonS t i) → kT (kDv t 3 fun y1 => kRm (y1 + k) 12 fun y2 => kRetI y2 σ) (fun y => y = (tonS t i, σ)) := by
    intro k hk hv
    refine kT_dv (by omega) (by omega) (by omega) ?_
    rw [e2]
    refine kT_rm (by omega) (by omega) (by omega) ?_
    refine kT_ri ?_
    rw [tmod_e (by omega), hv]
  refine kT_eq (by omega) (by omega) (fun g => ?_) (fun g => ?_)
  · exact fin 0 (by omega) (by unfold tonS; rw [if_pos g])
  · refine kT_eq (by omega) (by omega) (fun g2 => ?_) (fun g2 => ?_)
    · refine kT_eq (by omega) (by omega) (fun g3 => ?_) (fun g3 => ?_)
      · exact fin 4 (by omega) (by unfold tonS; rw [if_neg g, if_pos g2, if_pos g3])
      · exact fin 3 (by omega) (by unfold tonS; rw [if_neg g, if_pos g2, if_neg g3])
    · refine kT_eq (by omega) (by omega) (fun g3 => ?_) (fun g3 => ?_)
      · exact fin 6 (by omega) (by unfold tonS; rw [if_neg g, if_neg g2, if_pos g3])
      · exact fin 7 (by omega) (by unfold tonS; rw [if_neg g, if_neg g2, if_neg g3])
theorem P_toneOf {t i : Int} (h1 : 0 ≤ t ∧ t < 36) (h2 : 0 ≤ i ∧ i < 3) (σ : KM) : fP_toneOf t i σ = some (tonS t i, σ) := by
  obtain ⟨h1, h1'⟩ := h1
  obtain ⟨h2, h2'⟩ := h2
  rcases (show t = 0 ∨ t = 1 ∨ t = 2 ∨ t = 3 ∨ t = 4 ∨ t = 5 ∨ t = 6 ∨ t = 7 ∨ t = 8 ∨ t = 9 ∨ t = 10 ∨ t = 11 ∨ t = 12 ∨ t = 13 ∨ t = 14 ∨ t = 15 ∨ t = 16 ∨ t = 17 ∨ t = 18 ∨ t = 19 ∨ t = 20 ∨ t = 21 ∨ t = 22 ∨ t = 23 ∨ t = 24 ∨ t = 25 ∨ t = 26 ∨ t = 27 ∨ t = 28 ∨ t = 29 ∨ t = 30 ∨ t = 31 ∨ t = 32 ∨ t = 33 ∨ t = 34 ∨ t = 35 by omega) with rfl | rfl | rfl | rfl | rfl | rfl | rfl | rfl | rfl | rfl | rfl | rfl | rfl | rfl | rfl | rfl | rfl | rfl | rfl | rfl | rfl | rfl | rfl | rfl | rfl | rfl | rfl | rfl | rfl | rfl | rfl | rfl | rfl | rfl | rfl | rfl <;> rcases (show i = 0 ∨ i = 1 ∨ i = 2 by omega) with rfl | rfl | rfl <;> rfl
def dgOn (tone key : Int) : Int := (([1, -1, 2, -1, 3, 4, -1, 5, -1, 6, -1, 7, 1, -1, 2, 3, -1, 4, -1, 5, 6, -1, 7, -1] : List Int).getD ((if key < 12 then 0 else 12) + (tone + 12 - key % 12) % 12).toNat 0)
theorem P_degreeOn {t k : Int} (h1 : 0 ≤ t ∧ t < 12) (h2 : 0 ≤ k ∧ k < 24) (σ : KM) : fP_degreeOn t k σ = some (dgOn t k, σ) := by
  obtain ⟨h1, h1'⟩ := h1
  obtain ⟨h2, h2'⟩ := h2
  rcases (show t = 0 ∨ t = 1 ∨ t = 2 ∨ t = 3 ∨ t = 4 ∨ t = 5 ∨ t = 6 ∨ t = 7 ∨ t = 8 ∨ t = 9 ∨ t = 10 ∨ t = 11 by omega) with rfl | rfl | rfl | rfl | rfl | rfl | rfl | rfl | rfl | rfl | rfl | rfl <;> rcases (show k = 0 ∨ k = 1 ∨ k = 2 ∨ k = 3 ∨ k = 4 ∨ k = 5 ∨ k = 6 ∨ k = 7 ∨ k = 8 ∨ k = 9 ∨ k = 10 ∨ k = 11 ∨ k = 12 ∨ k = 13 ∨ k = 14 ∨ k = 15 ∨ k = 16 ∨ k = 17 ∨ k = 18 ∨ k = 19 ∨ k = 20 ∨ k = 21 ∨ k = 22 ∨ k = 23 by omega) with rfl | rfl | rfl | rfl | rfl | rfl | rfl | rfl | rfl | rfl | rfl | rfl | rfl | rfl | rfl | rfl | rfl | rfl | rfl | rfl | rfl | rfl | rfl | rfl <;> rfl
