/-! ===== profiles: how well keys fit ===== -/
def gsS (g : Int → Int) : Nat → Int
  | 0 => 0
  | i + 1 => gsS g i + g i
def mtS (wt g : Int → Int) (k : Int) : Nat → Int
  | 0 => 0
  | i + 1 => mtS wt g k i + g i * wt (k / 12 * 12 + ((i : Int) - k % 12 + 12) % 12)
def wgS (wt g : Int → Int) (k : Int) : Nat → Int
  | 0 => 0
  | i + 1 => wgS wt g k i + wt ((if k < 12 then 0 else 1) * 12 + (i : Int)) * g ((k + (i : Int)) % 12)
def maS (wt g : Int → Int) (k : Int) : Int := mtS wt g k 12
set_option maxHeartbeats 4000000 in
theorem wg_mt (wt g : Int → Int) {k : Int} (h : 0 ≤ k ∧ k < 24) : wgS wt g k 12 = maS wt g k := by
  obtain ⟨h1, h2⟩ := h
  unfold maS
  rcases (show k = 0 ∨ k = 1 ∨ k = 2 ∨ k = 3 ∨ k = 4 ∨ k = 5 ∨ k = 6 ∨ k = 7 ∨ k = 8 ∨ k = 9 ∨ k = 10 ∨ k = 11 ∨ k = 12 ∨ k = 13 ∨ k = 14 ∨ k = 15 ∨ k = 16 ∨ k = 17 ∨ k = 18 ∨ k = 19 ∨ k = 20 ∨ k = 21 ∨ k = 22 ∨ k = 23 by omega) with rfl | rfl | rfl | rfl | rfl | rfl | rfl | rfl | rfl | rfl | rfl | rfl | rfl | rfl | rfl | rfl | rfl | rfl | rfl | rfl | rfl | rfl | rfl | rfl <;> (simp [wgS, mtS, Int.mul_comm]; try omega)
def gOK (g : Int → Int) (t : Int) : Prop := (∀ y, 0 ≤ g y ∧ g y ≤ 6400) ∧ gsS g 12 = t ∧ t ≤ 6400
def wtOK (wt : Int → Int) : Prop := ∀ i, 0 ≤ i → i < 24 → 0 ≤ wt i ∧ wt i ≤ 99
theorem gsS_r {g : Int → Int} (hg : ∀ y, 0 ≤ g y ∧ g y ≤ 6400) : ∀ i : Nat, 0 ≤ gsS g i
  | 0 => by simp [gsS]
  | i + 1 => by
    have := gsS_r hg i
    have := hg i
    unfold gsS
    omega
theorem mtS_r {wt g : Int → Int} (hg : ∀ y, 0 ≤ g y ∧ g y ≤ 6400) (hw : wtOK wt) {k : Int} (hk : 0 ≤ k ∧ k < 24) : ∀ i : Nat, i ≤ 12 → 0 ≤ mtS wt g k i ∧ mtS wt g k i ≤ 99 * gsS g i
  | 0, _ => by simp [mtS, gsS]
  | i + 1, h => by
    have h0 := mtS_r hg hw hk i (by omega)
    have h1 := hg i
    have h2 := hw (k / 12 * 12 + ((i : Int) - k % 12 + 12) % 12) (by omega) (by omega)
    have h3 : g i * wt (k / 12 * 12 + ((i : Int) - k % 12 + 12) % 12) ≤ g i * 99 := Int.mul_le_mul_of_nonneg_left h2.2 h1.1
    have h4 : 0 ≤ g i * wt (k / 12 * 12 + ((i : Int) - k % 12 + 12) % 12) := Int.mul_nonneg h1.1 h2.1
    unfold mtS gsS
    omega
theorem wgS_r {wt g : Int → Int} (hg : ∀ y, 0 ≤ g y ∧ g y ≤ 6400) (hw : wtOK wt) {k : Int} (hk : 0 ≤ k ∧ k < 24) : ∀ i : Nat, i ≤ 12 → 0 ≤ wgS wt g k i ∧ wgS wt g k i ≤ 633600 * i
  | 0, _ => by simp [wgS]
  | i + 1, h => by
    have h0 := wgS_r hg hw hk i (by omega)
    have h1 := hg ((k + (i : Int)) % 12)
    have h2 := hw ((if k < 12 then 0 else 1) * 12 + (i : Int)) (by split <;> omega) (by split <;> omega)
    have h3 : wt ((if k < 12 then 0 else 1) * 12 + (i : Int)) * g ((k + (i : Int)) % 12) ≤ 99 * 6400 := Int.mul_le_mul h2.2 h1.2 h1.1 (by omega)
    have h4 : 0 ≤ wt ((if k < 12 then 0 else 1) * 12 + (i : Int)) * g ((k + (i : Int)) % 12) := Int.mul_nonneg h2.1 h1.1
    unfold wgS
    omega
def fiS (wt g : Int → Int) (t k : Int) : Int := if t = 0 then 0 else (100 * maS wt g k) / t
theorem maS_r {wt g : Int → Int} {t : Int} (hg : gOK g t) (hw : wtOK wt) {k : Int} (hk : 0 ≤ k ∧ k < 24) : 0 ≤ maS wt g k ∧ maS wt g k ≤ 99 * t ∧ 0 ≤ t ∧ t ≤ 6400 := by
  have h1 := mtS_r hg.1 hw hk 12 (by omega)
  have h2 := gsS_r hg.1 12
  have h3 := hg.2.1
  have h4 := hg.2.2
  unfold maS
  omega
theorem fiS_r {wt g : Int → Int} {t : Int} (hg : gOK g t) (hw : wtOK wt) {k : Int} (hk : 0 ≤ k ∧ k < 24) : 0 ≤ fiS wt g t k ∧ fiS wt g t k ≤ 9900 := by
  have h1 := maS_r hg hw hk
  unfold fiS
  split
  · omega
  · constructor
    · exact Int.ediv_nonneg (by omega) (by omega)
    · have : (100 * maS wt g k) / t ≤ (9900 * t) / t := Int.ediv_le_ediv (by omega) (by omega)
      rw [Int.mul_ediv_cancel _ (by omega)] at this
      exact this
theorem P_weigh {σ : KM} {row k : Int} {wt g : Int → Int} {t : Int} (hr : 0 ≤ row ∧ row ≤ 48) (hk : 0 ≤ k ∧ k < 24) (hg : gOK g t) (hw : wtOK wt) (h1 : ∀ y, 0 ≤ y → y < 12 → σ 24 (row * 12 + y) = g y) (h2 : ∀ i, 0 ≤ i → i < 24 → σ 27 i = wt i) : fPr_weigh row k σ = some (maS wt g k, σ) := by
  refine kP ?_ (rfPr_weigh row k σ)
  unfold fPr_weigh
  refine kT_callE (P_modeOf (by omega) σ) (kT_let ?_)
  unfold fPr_weigh_L15
  refine kT_for (fun i s => s = (wgS wt g k i, (i : Int), σ)) 12 ?_ ?_ 0 (by omega) kF _ rfl (kF_lt (by omega))
  · rintro i s hi rfl
    have b0 := wgS_r hg.1 hw hk i (by omega)
    have q1 : 0 ≤ (if k < 12 then 0 else 1) * 12 + (i : Int) ∧ (if k < 12 then 0 else 1) * 12 + (i : Int) < 24 := by split <;> omega
    show kT (fPr_weigh_B15 row k ((if k < 12 then 0 else 1) * 12) (wgS wt g k i) i σ) _
    unfold fPr_weigh_B15
    refine kT_ltt (by omega) (by omega) (kT_rd q1 ?_)
    rw [h2 _ q1.1 q1.2]
    refine kT_rm (by omega) (by omega) (by omega) ?_
    rw [tmod_e (by omega)]
    refine kT_rd (by omega) ?_
    rw [h1 _ (by omega) (by omega)]
    exact kT_let (kT_let (kT_inl rfl))
  · rintro s rfl
    show kT (fPr_weigh_B15 row k ((if k < 12 then 0 else 1) * 12) (wgS wt g k 12) 12 σ) _
    unfold fPr_weigh_B15 fPr_weigh_J61
    refine kT_ltf (by omega) (by omega) (kT_exit (kT_ri ?_))
    exact wg_mt wt g hk
theorem M_matched {σ : KM} {k : Int} {wt g : Int → Int} {t : Int} (hk : 0 ≤ k ∧ k < 24) (hg : gOK g t) (hw : wtOK wt) (h1 : ∀ y, 0 ≤ y → y < 12 → σ 55 y = g y) (h2 : ∀ i, 0 ≤ i → i < 24 → σ 52 i = wt i) : fM_matched k σ = some (maS wt g k, σ) := by
  refine kP ?_ (rfM_matched k σ)
  unfold fM_matched fM_matched_L4
  refine kT_for (fun i s => s = (mtS wt g k i, (i : Int), σ)) 12 ?_ ?_ 0 (by omega) kF _ rfl (kF_lt (by omega))
  · rintro i s hi rfl
    show kT (fM_matched_B4 k (mtS wt g k i) i σ) _
    unfold fM_matched_B4
    refine kT_ltt (by omega) (by omega) (kT_rd (by omega) ?_)
    rw [h1 _ (by omega) (by omega)]
    refine kT_dv (by omega) (by omega) (by omega) (kT_rm (by omega) (by omega) (by omega) ?_)
    rw [tdiv_e hk.1, tmod_e hk.1]
    refine kT_rm (by omega) (by omega) (by omega) ?_
    rw [tmod_e (by omega)]
    refine kT_rd (by omega) ?_
    rw [h2 _ (by omega) (by omega)]
    exact kT_let (kT_let (kT_inl rfl))
  · rintro s rfl
    show kT (fM_matched_B4 k (mtS wt g k 12) 12 σ) _
    unfold fM_matched_B4 fM_matched_J51
    refine kT_ltf (by omega) (by omega) (kT_exit (kT_ri rfl))
theorem M_fitted {σ : KM} {k : Int} {wt g : Int → Int} {t : Int} (hk : 0 ≤ k ∧ k < 24) (hg : gOK g t) (hw : wtOK wt) (h1 : ∀ y, 0 ≤ y → y < 12 → σ 55 y = g y) (h2 : ∀ i, 0 ≤ i → i < 24 → σ 52 i = wt i) (h3 : σ 10 27 = t) : fM_fitted k σ = some (fiS wt g t k, σ) := by
  refine kT.eq ?_
  have hm := maS_r hg hw hk
  unfold fM_fitted fM_fitted_J24
  rw [h3]
  refine kT_eq (by omega) (by omega) (fun c => ?_) (fun c => ?_)
  · refine kT_ri ?_
    rw [fiS, if_pos c]
  · refine kT_callE (M_matched hk hg hw h1 h2) ?_
    rw [h3]
    refine kT_dv (by omega) (by omega) c (kT_ri ?_)
    rw [fiS, if_neg c, tdiv_e (by omega)]
def bsS (f : Int → Int) : Nat → Int
  | 0 => 0
  | i + 1 => if bsS f i < f i then f i else bsS f i
theorem bsS_r {f : Int → Int} (hf : ∀ k, 0 ≤ k → k < 24 → 0 ≤ f k ∧ f k ≤ 9900) : ∀ i : Nat, i ≤ 24 → 0 ≤ bsS f i ∧ bsS f i ≤ 9900
  | 0, _ => by simp [bsS]
  | i + 1, h => by
    have := bsS_r hf i (by omega)
    have := hf i (by omega) (by omega)
    unfold bsS
    split <;> omega
theorem bsS_ge {f : Int → Int} : ∀ (i : Nat) (k : Int), 0 ≤ k → k < i → f k ≤ bsS f i
  | 0, k, h0, h1 => by omega
  | i + 1, k, h0, h1 => by
    unfold bsS
    by_cases hk : k = i
    · subst hk
      split <;> omega
    · have := bsS_ge (f := f) i k h0 (by omega)
      split <;> omega
/-- a row of FITS stands, with its best -/
def fOK (σ : KM) (row : Int) (f : Int → Int) : Prop := (∀ k, 0 ≤ k → k < 24 → σ 28 (row * 24 + k) = f k) ∧ σ 29 row = bsS f 24
theorem P_judgeRow {σ : KM} {row : Int} {wt g : Int → Int} {t : Int} (hr : 0 ≤ row ∧ row ≤ 48) (hg : gOK g t) (hw : wtOK wt) (h1 : ∀ y, 0 ≤ y → y < 12 → σ 24 (row * 12 + y) = g y) (h2 : ∀ i, 0 ≤ i → i < 24 → σ 27 i = wt i) (h3 : σ 25 row = t) : kT (fPr_judgeRow row σ) (fun z => fOK z.2 row (fiS wt g t) ∧ (∀ j, j < row * 24 ∨ row * 24 + 24 ≤ j → z.2 28 j = σ 28 j) ∧ (∀ j, j ≠ row → z.2 29 j = σ 29 j)) := by
  have hfr : ∀ k, 0 ≤ k → k < 24 → 0 ≤ fiS wt g t k ∧ fiS wt g t k ≤ 9900 := fun k a c => fiS_r hg hw ⟨a, c⟩
  unfold fPr_judgeRow
  refine kT_rd (by omega) (kT_wr (by omega) ?_)
  rw [h3]
  unfold fPr_judgeRow_L17
  refine kT_for (fun i s => s.1 = (i : Int) ∧ kFr wfPr_judgeRow σ s.2 ∧ (∀ k : Int, 0 ≤ k → k < (i : Int) → s.2 28 (row * 24 + k) = fiS wt g t k) ∧ s.2 29 row = bsS (fiS wt g t) i ∧ (∀ j, j < row * 24 ∨ row * 24 + 24 ≤ j → s.2 28 j = σ 28 j) ∧ (∀ j, j ≠ row → s.2 29 j = σ 29 j)) 24 ?_ ?_ 0 (by omega) kF _ ?_ (kF_lt (by omega))
  · rintro i ⟨x, M⟩ hi ⟨hx, hf, hk, hb, ho, hp⟩
    dsimp only at hx hf hk hb ho hp
    subst hx
    have m24 : M 24 = σ 24 := hf.cell rfl
    have m27 : M 27 = σ 27 := hf.cell rfl
    have b1 := bsS_r hfr i (by omega)
    have b2 := hfr i (by omega) (by omega)
    have ht := maS_r hg hw (k := i) (by omega)
    have last : ∀ v, v = fiS wt g t i → kT (fPr_judgeRow_J45 row t i v M) (kS (fun s => s.1 = ((i + 1 : Nat) : Int) ∧ kFr wfPr_judgeRow σ s.2 ∧ (∀ k : Int, 0 ≤ k → k < ((i + 1 : Nat) : Int) → s.2 28 (row * 24 + k) = fiS wt g t k) ∧ s.2 29 row = bsS (fiS wt g t) (i + 1) ∧ (∀ j, j < row * 24 ∨ row * 24 + 24 ≤ j → s.2 28 j = σ 28 j) ∧ (∀ j, j ≠ row → s.2 29 j = σ 29 j)) (fun z => fOK z.2 row (fiS wt g t) ∧ (∀ j, j < row * 24 ∨ row * 24 + 24 ≤ j → z.2 28 j = σ 28 j) ∧ (∀ j, j ≠ row → z.2 29 j = σ 29 j))) := by
      rintro v rfl
      unfold fPr_judgeRow_J45
      refine kT_wr (by omega) (kT_rd (by omega) ?_)
      rw [ks_c (by decide), hb]
      refine kT_mx (by omega) (by omega) (kT_wr (by omega) (kT_let (kT_inl ?_)))
      dsimp only
      refine ⟨by omega, (hf.put rfl).put rfl, ?_, ?_, ?_, ?_⟩
      · intro k k0 k1
        rw [ks_c (by decide)]
        by_cases hki : k = i
        · subst hki
          exact ks_s _ _ _ _
        · rw [ks_i (by omega)]
          exact hk k k0 (by omega)
      · rw [ks_s]
        rfl
      · intro j hj
        rw [ks_c (by decide), ks_i (by omega)]
        exact ho j hj
      · intro j hj
        rw [ks_i hj, ks_c (by decide)]
        exact hp j hj
    show kT (fPr_judgeRow_B17 row t i M) _
    unfold fPr_judgeRow_B17
    refine kT_ltt (by omega) (by omega) ?_
    refine kT_eq (by omega) (by omega) (fun c => ?_) (fun c => ?_)
    · exact last 0 (by rw [fiS, if_pos c])
    · refine kT_callE (P_weigh (wt := wt) (g := g) (t := t) hr (by omega) hg hw (fun y a c => by rw [m24]; exact h1 y a c) (fun y a c => by rw [m27]; exact h2 y a c)) ?_
      refine kT_dv (by omega) (by omega) c ?_
      exact last _ (by rw [fiS, if_neg c, tdiv_e (by omega)])
  · rintro ⟨x, M⟩ ⟨hx, hf, hk, hb, ho, hp⟩
    dsimp only at hx hf hk hb ho hp
    subst hx
    show kT (fPr_judgeRow_B17 row t 24 M) _
    unfold fPr_judgeRow_B17 fPr_judgeRow_J84
    refine kT_ltf (by omega) (by omega) (kT_exit (kT_ri ?_))
    exact ⟨⟨hk, hb⟩, ho, hp⟩
  · dsimp only
    refine ⟨rfl, kFr.put kFr.rf rfl, ?_, ?_, ?_, ?_⟩
    · intro k k0 k1
      exact absurd k1 (by simp; omega)
    · exact ks_s _ _ _ _
    · intro j _
      exact ks_c (by decide) _
    · intro j hj
      exact ks_i hj
/-! all rows -/
theorem cnt_sum {n : Nat} {tk ln pt : Int → Int} (hv : kV n tk ln pt) (fr to : Int) : ∀ i : Nat, i ≤ n → gsS (fun c => cntS tk ln pt fr to c i) 12 = totS tk ln fr to i
  | 0, _ => by simp [gsS, cntS, totS]
  | i + 1, h => by
    have h0 := cnt_sum hv fr to i (by omega)
    have h1 := hv.2 i (by omega) (by omega)
    simp only [gsS, totS] at h0 ⊢
    simp only [cntS]
    generalize hd : hiS to (tk i + ln i) - loS fr (tk i) = dd
    have hp : 0 ≤ pt i % 12 ∧ pt i % 12 < 12 := by omega
    generalize pt i % 12 = p at hp
    by_cases c : loS fr (tk i) < hiS to (tk i + ln i)
    · simp only [c, true_and, if_true]
      obtain ⟨hp0, hp1⟩ := hp
      rcases (show p = 0 ∨ p = 1 ∨ p = 2 ∨ p = 3 ∨ p = 4 ∨ p = 5 ∨ p = 6 ∨ p = 7 ∨ p = 8 ∨ p = 9 ∨ p = 10 ∨ p = 11 by omega) with rfl | rfl | rfl | rfl | rfl | rfl | rfl | rfl | rfl | rfl | rfl | rfl <;> (simp at h0 ⊢; omega)
    · simp only [c, false_and, if_false]
      simp only [Int.add_zero]
      exact h0
theorem cw_gOK {b : KB} (hb : kB b) (w : Int) : gOK (cw b w) (tw b w) := ⟨fun y => cw_r hb w y, cnt_sum hb.1 _ _ (bn b) (Nat.le_refl _), (tw_r hb w).2⟩
theorem ca_gOK {b : KB} (hb : kB b) : gOK (ca b) (ta b) := ⟨fun y => ca_r hb y, cnt_sum hb.1 _ _ (bn b) (Nat.le_refl _), (ta_r hb).2⟩
def fS (b : KB) (w k : Int) : Int := fiS (bwt b) (cw b w) (tw b w) k
def fA (b : KB) (k : Int) : Int := fiS (bwt b) (ca b) (ta b) k
theorem fS_r {b : KB} (hb : kB b) (w : Int) {k : Int} (hk : 0 ≤ k ∧ k < 24) : 0 ≤ fS b w k ∧ fS b w k ≤ 9900 := fiS_r (cw_gOK hb w) hb.2.2.1 hk
theorem fA_r {b : KB} (hb : kB b) {k : Int} (hk : 0 ≤ k ∧ k < 24) : 0 ≤ fA b k ∧ fA b k ≤ 9900 := fiS_r (ca_gOK hb) hb.2.2.1 hk
def pOK (b : KB) (σ : KM) : Prop := (∀ w, 0 ≤ w → w < wnS b → fOK σ w (fS b w)) ∧ fOK σ 48 (fA b)
theorem fOK.fr {σ τ : KM} {row : Int} {f : Int → Int} (h : fOK σ row f) (h1 : ∀ k, 0 ≤ k → k < 24 → τ 28 (row * 24 + k) = σ 28 (row * 24 + k)) (h2 : τ 29 row = σ 29 row) : fOK τ row f := ⟨fun k a c => by rw [h1 k a c]; exact h.1 k a c, by rw [h2]; exact h.2⟩
theorem P_judge {b : KB} {σ : KM} (hb : kB b) (hc : cB b σ) (hw : wOK b σ) : kT (fPr_judge σ) (fun z => pOK b z.2 ∧ z.2 6 3 = 0) := by
  have hwn := wnS_r hb
  unfold fPr_judge fPr_judge_L2
  refine kT_for (fun i s => s.1 = (i : Int) ∧ kFr wfPr_judge σ s.2 ∧ (∀ w : Int, 0 ≤ w → w < (i : Int) → fOK s.2 w (fS b w))) (wnS b).toNat ?_ ?_ 0 (by omega) kF _ ?_ (kF_lt (by omega))
  · rintro i ⟨x, M⟩ hi ⟨hx, hf, hq⟩
    dsimp only at hx hf hq
    subst hx
    have hcM := hc.fr hf rfl
    have hwM := hw.fr hf rfl
    show kT (fPr_judge_B2 i M) _
    unfold fPr_judge_B2
    rw [hwM.1]
    refine kT_ltt (by omega) (by omega) ?_
    refine kT_callT (kT.fr (P_judgeRow (row := i) (by omega) (cw_gOK hb i) hb.2.2.1 (fun y a c => hwM.2.1 i y (by omega) (by omega) a c) hcM.2.2.1 (hwM.2.2.1 i (by omega) (by omega)).1) (rfPr_judgeRow i M)) (fun r τ hz => ?_)
    refine kT_let (kT_inl ?_)
    obtain ⟨⟨z1, z2, z3⟩, z4⟩ := hz
    refine ⟨by dsimp only; omega, hf.trans (z4.mono rfl), fun w a c => ?_⟩
    by_cases hwi : w = i
    · subst hwi
      exact z1
    · exact (hq w a (by omega)).fr (fun k k0 k1 => z2 _ (by omega)) (z3 w hwi)
  · rintro ⟨x, M⟩ ⟨hx, hf, hq⟩
    dsimp only at hx hf hq
    subst hx
    have hcM := hc.fr hf rfl
    have hwM := hw.fr hf rfl
    show kT (fPr_judge_B2 ((wnS b).toNat : Nat) M) _
    unfold fPr_judge_B2 fPr_judge_J22
    rw [hwM.1]
    refine kT_ltf (by omega) (by omega) (kT_exit ?_)
    refine kT_callT (P_judgeRow (row := 48) (by omega) (ca_gOK hb) hb.2.2.1 hwM.2.2.2.1 hcM.2.2.1 hwM.2.2.2.2) (fun r τ hz => ?_)
    obtain ⟨z1, z2, z3⟩ := hz
    dsimp only at z1 z2 z3
    refine kT_wfz (by omega) (kT_ri ?_)
    dsimp only
    refine ⟨⟨fun w a c => ?_, ?_⟩, ks_s _ _ _ _⟩
    · exact (hq w a (by omega)).fr (fun k k0 k1 => by rw [ks_c (by decide)]; exact z2 _ (by omega)) (by rw [ks_c (by decide)]; exact z3 w (by omega))
    · exact z1.fr (fun k k0 k1 => ks_c (by decide) _) (ks_c (by decide) _)
  · dsimp only
    exact ⟨rfl, kFr.rf, fun w a c => absurd c (by simp; omega)⟩
def pI (b : KB) (σ : KM) : Prop := (σ 6 3 = 0 ∧ pOK b σ ∧ σ 5 6 = 0) ∨ σ 6 3 = 1
theorem pOK.fr {b : KB} {W : List (Nat × Option Int)} {σ τ : KM} (h : pOK b σ) (hf : kFr W σ τ) (hk : kKeep W [28, 29] [] = true) : pOK b τ := by
  have c28 := kKeep.cell hk hf (c := 28) (by decide)
  have c29 := kKeep.cell hk hf (c := 29) (by decide)
  unfold pOK fOK
  rw [c28, c29]
  exact h
theorem P_freshFits {b : KB} {σ : KM} (hb : kB b) (hc : cB b σ) (hi : wI b σ) (hp : pI b σ) : kT (fP_freshFits σ) (fun z => ((wOK b z.2 ∧ z.2 5 6 = 0) ∧ pOK b z.2 ∧ z.2 6 3 = 0) ∧ kFr wfP_freshFits σ z.2) := by
  refine kT.fr (W := wfP_freshFits) ?_ (rfP_freshFits σ)
  unfold fP_freshFits fP_freshFits_J25
  have e0 : kT (fP_freshWindows σ) (fun z => (wOK b z.2 ∧ z.2 5 6 = 0) ∧ kFr wfWi_recount σ z.2 ∧ (z.2 6 3 = 0 → pOK b z.2) ∧ (z.2 6 3 = 0 ∨ z.2 6 3 = 1)) := by
    refine (P_freshWindows hb hc hi).mono (fun z hz => ⟨hz.1, hz.2, ?_, ?_⟩)
    · intro h0
      have e1 : z.2 6 3 = σ 6 3 := hz.2.slot rfl
      rcases hp with ⟨p1, p2, p3⟩ | p1
      · exact p2.fr hz.2 rfl
      · omega
    · have e1 : z.2 6 3 = σ 6 3 := hz.2.slot rfl
      rcases hp with ⟨p1, p2, p3⟩ | p1 <;> omega
  refine kT_callT e0 (fun r τ hz => ?_)
  dsimp only at hz
  obtain ⟨⟨z1, z2⟩, z3, z4, z5⟩ := hz
  refine kT_eq (by omega) (by omega) (fun c => ?_) (fun c => ?_)
  · exact kT_ri ⟨⟨z1, z2⟩, z4 c, c⟩
  · have hcM := hc.fr z3 rfl
    refine kT_callT (kT.fr (P_judge hb hcM z1) (rfPr_judge τ)) (fun r τ2 hq => ?_)
    obtain ⟨⟨q1, q2⟩, q3⟩ := hq
    exact kT_ri ⟨⟨z1.fr q3 rfl, by rw [← z2]; exact q3.slot rfl⟩, q1, q2⟩
/-! ranks -/
def raS (f : Int → Int) (key : Int) : Nat → Int
  | 0 => 0
  | i + 1 => raS f key i + (if f key < f i ∨ (f i = f key ∧ (i : Int) < key) then 1 else 0)
theorem raS_r (f : Int → Int) (key : Int) : ∀ i : Nat, 0 ≤ raS f key i ∧ raS f key i ≤ i
  | 0 => by simp [raS]
  | i + 1 => by
    have := raS_r f key i
    unfold raS
    split <;> omega
def rkS (f : Int → Int) (rank : Int) : Nat → Int
  | 0 => -1
  | i + 1 => if rkS f rank i = -1 then (if raS f i 24 = rank then (i : Int) else -1) else rkS f rank i
theorem rkS_keep {f : Int → Int} {rank : Int} {i : Nat} (h : rkS f rank i ≠ -1) : ∀ j : Nat, rkS f rank (i + j) = rkS f rank i
  | 0 => rfl
  | j + 1 => by
    have := rkS_keep h j
    show rkS f rank ((i + j) + 1) = _
    rw [rkS, if_neg (by rw [this]; exact h)]
    exact this
theorem P_betterThan {σ : KM} {row key : Int} {f : Int → Int} (hr : 0 ≤ row ∧ row ≤ 48) (hk : 0 ≤ key ∧ key < 24) (hf : ∀ k, 0 ≤ k → k < 24 → 0 ≤ f k ∧ f k ≤ 9900) (h : ∀ k, 0 ≤ k → k < 24 → σ 28 (row * 24 + k) = f k) : fPr_betterThan row key σ = some (raS f key 24, σ) := by
  refine kP ?_ (rfPr_betterThan row key σ)
  unfold fPr_betterThan
  refine kT_rd (by omega) ?_
  rw [h key hk.1 hk.2]
  have f0 := hf key hk.1 hk.2
  unfold fPr_betterThan_L18
  refine kT_for (fun i s => s = (raS f key i, (i : Int), σ)) 24 ?_ ?_ 0 (by omega) kF _ rfl (kF_lt (by omega))
  · rintro i s hi rfl
    have f1 := hf i (by omega) (by omega)
    have r1 := raS_r f key i
    show kT (fPr_betterThan_B18 row key (f key) (raS f key i) i σ) _
    unfold fPr_betterThan_B18 fPr_betterThan_J57 fPr_betterThan_J60
    refine kT_ltt (by omega) (by omega) (kT_rd (by omega) ?_)
    rw [h i (by omega) (by omega)]
    refine kT_lt (by omega) (by omega) (fun c => ?_) (fun c => ?_)
    · refine kT_let (kT_let (kT_inl ?_))
      rw [raS, if_pos (Or.inl c)]
      rfl
    · refine kT_eq (by omega) (by omega) (fun c2 => ?_) (fun c2 => ?_)
      · refine kT_lt (by omega) (by omega) (fun c3 => ?_) (fun c3 => ?_)
        · refine kT_let (kT_let (kT_inl ?_))
          rw [raS, if_pos (Or.inr ⟨c2, c3⟩)]
          rfl
        · refine kT_let (kT_inl ?_)
          rw [raS, if_neg (by omega), Int.add_zero]
          rfl
      · refine kT_let (kT_inl ?_)
        rw [raS, if_neg (by omega), Int.add_zero]
        rfl
  · rintro s rfl
    show kT (fPr_betterThan_B18 row key (f key) (raS f key 24) 24 σ) _
    unfold fPr_betterThan_B18 fPr_betterThan_J66
    exact kT_ltf (by omega) (by omega) (kT_exit (kT_ri rfl))
theorem P_keyOfRank {σ : KM} {row rank : Int} {f : Int → Int} (hr : 0 ≤ row ∧ row ≤ 48) (hk : 0 ≤ rank ∧ rank < 24) (hf : ∀ k, 0 ≤ k → k < 24 → 0 ≤ f k ∧ f k ≤ 9900) (h : ∀ k, 0 ≤ k → k < 24 → σ 28 (row * 24 + k) = f k) : fPr_keyOfRank row rank σ = some (rkS f rank 24, σ) := by
  refine kP ?_ (rfPr_keyOfRank row rank σ)
  unfold fPr_keyOfRank fPr_keyOfRank_L2
  refine kT_for (fun i s => s = ((i : Int), σ) ∧ rkS f rank i = -1) 24 ?_ ?_ 0 (by omega) kF _ ⟨rfl, rfl⟩ (kF_lt (by omega))
  · rintro i s hi ⟨rfl, hn⟩
    have r1 := raS_r f i 24
    show kT (fPr_keyOfRank_B2 row rank i σ) _
    unfold fPr_keyOfRank_B2 fPr_keyOfRank_J18
    refine kT_ltt (by omega) (by omega) ?_
    refine kT_callE (P_betterThan hr (by omega) hf h) ?_
    refine kT_eq (by omega) (by omega) (fun c => ?_) (fun c => ?_)
    · refine kT_exit (kT_ri ?_)
      have e1 : rkS f rank (i + 1) = i := by rw [rkS, if_pos hn, if_pos c]
      have e2 := rkS_keep (f := f) (rank := rank) (i := i + 1) (by rw [e1]; omega) (24 - (i + 1))
      rw [show i + 1 + (24 - (i + 1)) = 24 by omega, e1] at e2
      exact e2.symm
    · refine kT_let (kT_inl ⟨rfl, ?_⟩)
      rw [rkS, if_pos hn, if_neg c]
  · rintro s ⟨rfl, hn⟩
    show kT (fPr_keyOfRank_B2 row rank 24 σ) _
    unfold fPr_keyOfRank_B2 fPr_keyOfRank_J26
    exact kT_ltf (by omega) (by omega) (kT_exit (kT_ri hn.symm))
