/-! ===== windows counted: the class once and for all, the reference one by one ===== -/
theorem cMem_i {σ : KM} {row : Int} {g : Int → Int} {t y : Int} (h : 0 ≤ y ∧ y < 12) : cMem σ row g t 24 (row * 12 + y) = g y := by
  unfold cMem
  rw [if_pos ⟨rfl, by omega, by omega⟩]
  rw [show row * 12 + y - row * 12 = y by omega]
theorem cMem_t {σ : KM} {row : Int} {g : Int → Int} {t : Int} : cMem σ row g t 25 row = t := by simp [cMem]
theorem cMem_24 {σ : KM} {row : Int} {g : Int → Int} {t j : Int} (h : j < row * 12 ∨ row * 12 + 12 ≤ j) : cMem σ row g t 24 j = σ 24 j := by
  unfold cMem
  rw [if_neg (by omega), if_neg (by omega)]
theorem cMem_25 {σ : KM} {row : Int} {g : Int → Int} {t j : Int} (h : j ≠ row) : cMem σ row g t 25 j = σ 25 j := by
  unfold cMem
  rw [if_neg (by omega), if_neg (by omega)]
theorem cMem_o {σ : KM} {row : Int} {g : Int → Int} {t : Int} {c : Nat} (h : c ≠ 24 ∧ c ≠ 25) : cMem σ row g t c = σ c := by
  funext j
  unfold cMem
  rw [if_neg (by omega), if_neg (by omega)]
def wOK (b : KB) (σ : KM) : Prop := σ 5 2 = wnS b ∧ (∀ w t, 0 ≤ w → w < wnS b → 0 ≤ t → t < 12 → σ 24 (w * 12 + t) = cw b w t) ∧ (∀ w, 0 ≤ w → w < wnS b → σ 25 w = tw b w ∧ σ 26 w = hw b w) ∧ (∀ t, 0 ≤ t → t < 12 → σ 24 (48 * 12 + t) = ca b t) ∧ σ 25 48 = ta b
theorem wh_r {b : KB} (hb : kB b) {w : Int} (h : 0 ≤ w ∧ w < 48) : 0 ≤ w * bh b ∧ w * bh b ≤ 6144 := by
  have h2 := hb.2.1
  have h3 : w * bh b ≤ 48 * 128 := Int.mul_le_mul (by omega) (by omega) (by omega) (by omega)
  exact ⟨Int.mul_nonneg h.1 (by omega), by omega⟩
theorem P_recount {b : KB} {σ : KM} (hb : kB b) (hc : cB b σ) : kT (fWi_recount σ) (fun z => wOK b z.2 ∧ z.2 5 6 = 0) := by
  have h1 := eS_r hb
  have h2 := hb.2.1
  have h3 := wq_r h1 (h := bh b) (by omega)
  have hwn := wnS_r hb
  unfold fWi_recount
  refine kT_callE (P_end hc.1 hb.1) ?_
  rw [hc.2.1.2]
  change kT (kCall (fWi_beginsAhead (eS b) (bh b) σ) _) _
  refine kT_callE (P_beginsAhead h1 (by omega) σ) ?_
  refine kT_mn (by omega) (by omega) ?_
  have e1 : (if (eS b + bh b - 1) / bh b < 48 then (eS b + bh b - 1) / bh b else 48) = wnS b := by
    unfold wnS
    split <;> split <;> omega
  rw [e1]
  refine kT_wf ?_
  unfold fWi_recount_L24
  refine kT_for (fun i s => s.1 = (i : Int) ∧ kFr wfWi_recount σ s.2 ∧ s.2 5 2 = wnS b ∧ (∀ w t : Int, 0 ≤ w → w < (i : Int) → 0 ≤ t → t < 12 → s.2 24 (w * 12 + t) = cw b w t) ∧ (∀ w : Int, 0 ≤ w → w < (i : Int) → s.2 25 w = tw b w ∧ s.2 26 w = hw b w)) (wnS b).toNat ?_ ?_ 0 (by omega) kF _ ?_ (kF_lt (by omega))
  · rintro i ⟨x, M⟩ hi ⟨hx, hf, hs, hr, hq⟩
    simp only at hx hf hs hr hq
    subst hx
    have hcM := hc.fr hf rfl
    have h4 := wh_r hb (w := i) (by omega)
    show kT (fWi_recount_B24 (eS b) i M) _
    unfold fWi_recount_B24
    rw [hs]
    refine kT_ltt (by omega) (by omega) ?_
    rw [hcM.2.1.2, hcM.2.1.1]
    refine kT_callE (P_countSpan hcM.1 hb.1 (row := i) (fr := i * bh b) (to := i * bh b + bw b) (by omega) (by omega) (by omega)) ?_
    change kT (kCall (fWi_fullestTriad i (cMem M i (cw b i) (tw b i))) _) _
    refine kT_callE (P_fullestTriad (g := cw b i) (t := tw b i) (by omega) (fun y => cw_r hb i y) (fun y h0 h1 => cMem_i ⟨h0, h1⟩) cMem_t (tw_r hb i)) ?_
    change kT (kWr _ 26 48 i (hw b i) _) _
    refine kT_wr (by omega) (kT_let (kT_inl ?_))
    refine ⟨by simp, ?_, ?_, ?_, ?_⟩
    · refine kFr.put ?_ rfl
      have hz := rfWi_countSpan i (i * bh b) (i * bh b + bw b) M _ (P_countSpan hcM.1 hb.1 (row := i) (fr := i * bh b) (to := i * bh b + bw b) (by omega) (by omega) (by omega))
      exact hf.trans (hz.mono rfl)
    · dsimp only
      rw [ks_c (by decide), cMem_o (by decide)]
      exact hs
    · intro w t h0 h5 h6 h7
      dsimp only
      rw [ks_c (by decide)]
      by_cases hwi : w = i
      · subst hwi
        exact cMem_i ⟨h6, h7⟩
      · rw [cMem_24 (by omega)]
        exact hr w t h0 (by omega) h6 h7
    · intro w h0 h5
      dsimp only
      rw [ks_c (by decide)]
      by_cases hwi : w = i
      · subst hwi
        exact ⟨cMem_t, ks_s _ _ _ _⟩
      · rw [cMem_25 hwi, ks_i hwi, cMem_o (by decide)]
        exact hq w h0 (by omega)
  · rintro ⟨x, M⟩ ⟨hx, hf, hs, hr, hq⟩
    simp only at hx hf hs hr hq
    subst hx
    have hcM := hc.fr hf rfl
    show kT (fWi_recount_B24 (eS b) ((wnS b).toNat : Nat) M) _
    unfold fWi_recount_B24 fWi_recount_J72
    rw [hs]
    refine kT_ltf (by omega) (by omega) (kT_exit ?_)
    refine kT_callE (P_countSpan hcM.1 hb.1 (row := 48) (fr := 0) (to := eS b) (by omega) (by omega) (by omega)) ?_
    change kT (kWfz (cMem M 48 (ca b) (ta b)) 5 6 0 _) _
    refine kT_wfz (by omega) (kT_ri ?_)
    dsimp only
    refine ⟨⟨?_, ?_, ?_, ?_, ?_⟩, ks_s _ _ _ _⟩
    · rw [ks_i (by decide), cMem_o (by decide)]
      exact hs
    · intro w t h0 h5 h6 h7
      rw [ks_c (by decide), cMem_24 (by omega)]
      exact hr w t h0 (by omega) h6 h7
    · intro w h0 h5
      rw [ks_c (by decide), ks_c (by decide), cMem_25 (by omega), cMem_o (by decide)]
      exact hq w h0 (by omega)
    · intro t h6 h7
      rw [ks_c (by decide)]
      exact cMem_i ⟨h6, h7⟩
    · rw [ks_c (by decide)]
      exact cMem_t
  · refine ⟨rfl, ?_, ?_, ?_, ?_⟩
    · exact kFr.putf kFr.rf rfl
    · dsimp only
      exact ks_s _ _ _ _
    · intro w t h0 h5
      exact absurd h5 (by simp; omega)
    · intro w h0 h5
      exact absurd h5 (by simp; omega)
/-- what the class holds worked out is right wherever it isn't stale -/
def wI (b : KB) (σ : KM) : Prop := (σ 5 6 = 0 ∧ wOK b σ) ∨ σ 5 6 = 1
theorem wOK.fr {b : KB} {W : List (Nat × Option Int)} {σ τ : KM} (h : wOK b σ) (hf : kFr W σ τ) (hk : kKeep W [24, 25, 26] [(5, 2)] = true) : wOK b τ := by
  have c24 := kKeep.cell hk hf (c := 24) (by decide)
  have c25 := kKeep.cell hk hf (c := 25) (by decide)
  have c26 := kKeep.cell hk hf (c := 26) (by decide)
  have f52 := kKeep.fld hk hf (c := 5) (i := 2) (by decide)
  unfold wOK
  rw [c24, c25, c26, f52]
  exact h
theorem P_freshWindows {b : KB} {σ : KM} (hb : kB b) (hc : cB b σ) (hi : wI b σ) : kT (fP_freshWindows σ) (fun z => (wOK b z.2 ∧ z.2 5 6 = 0) ∧ kFr wfWi_recount σ z.2) := by
  refine (kT.fr (W := wfP_freshWindows) ?_ (rfP_freshWindows σ)).mono (fun z hz => ⟨hz.1, hz.2.mono rfl⟩)
  unfold fP_freshWindows fP_freshWindows_J21
  rcases hi with ⟨h0, hw⟩ | h0
  · rw [h0]
    refine kT_eqt rfl (by omega) ?_
    exact kT_ri ⟨hw, h0⟩
  · rw [h0]
    refine kT_eqf (by omega) (by omega) (by omega) ?_
    refine kT_callT (P_recount hb hc) (fun r τ hz => ?_)
    exact kT_ri hz
def mMem (σ : KM) (g : Int → Int) (t : Int) : KM := fun c j => if c = 55 ∧ 0 ≤ j ∧ j < 12 then g j else if c = 10 ∧ j = 27 then t else σ c j
theorem mMem_i {σ : KM} {g : Int → Int} {t y : Int} (h : 0 ≤ y ∧ y < 12) : mMem σ g t 55 y = g y := by
  unfold mMem
  rw [if_pos ⟨rfl, h⟩]
theorem mMem_t {σ : KM} {g : Int → Int} {t : Int} : mMem σ g t 10 27 = t := by simp [mMem]
theorem mMem_put {σ : KM} {x : Int} {g g' : Int → Int} {t t' : Int} (hx : 0 ≤ x ∧ x < 12) (hg : ∀ y, 0 ≤ y → y < 12 → g' y = if y = x then g x + (t' - t) else g y) : ks (ks (mMem σ g t) 55 x (g x + (t' - t))) 10 27 t' = mMem σ g' t' := by
  funext c j
  simp only [ks_ap, mMem]
  by_cases h25 : c = 10 ∧ j = 27
  · rw [if_pos h25, if_neg (by omega), if_pos h25]
  · rw [if_neg h25]
    by_cases h24 : c = 55 ∧ 0 ≤ j ∧ j < 12
    · rw [if_pos h24, if_pos h24, hg _ (by omega) (by omega)]
      by_cases hj : j = x
      · rw [if_pos ⟨h24.1, hj⟩, if_pos hj]
      · rw [if_neg (by omega), if_neg hj]
    · rw [if_neg h24, if_neg (by omega), if_neg h24, if_neg h25, if_neg h25]
theorem M_counted {σ : KM} {n : Nat} {tk ln pt : Int → Int} (h : kN σ 10 7 45 46 47 n tk ln pt) (hv : kV n tk ln pt) {fr to : Int} (hf : 0 ≤ fr ∧ fr ≤ 100000) (ht : 0 ≤ to ∧ to ≤ 100000) : fM_counted fr to σ = some (0, mMem σ (fun c => cntS tk ln pt fr to c n) (totS tk ln fr to n)) := by
  refine kT.eq ?_
  have hn := hv.1
  unfold fM_counted
  refine kT_wf ?_
  unfold fM_counted_L7
  refine kT_for (fun i s => s = ((i : Int), fun c j => if c = 55 ∧ 0 ≤ j ∧ j < (i : Int) then 0 else if c = 10 ∧ j = 27 then 0 else σ c j)) 12 ?_ ?_ 0 (by omega) kF _ ?_ (kF_lt (by omega))
  · rintro i s hi rfl
    show kT (fM_counted_B7 fr to i _) _
    unfold fM_counted_B7
    refine kT_ltt (by omega) (by omega) (kT_wr (by omega) (kT_let (kT_inl ?_)))
    refine Prod.ext (by simp) ?_
    funext c j
    simp only [ks_ap]
    by_cases hc : c = 55 ∧ 0 ≤ j ∧ j < (i : Int)
    · rw [if_pos hc, if_neg (by omega), if_pos (by omega)]
    · rw [if_neg hc]
      by_cases hj : c = 55 ∧ j = i
      · rw [if_pos hj, if_pos (show c = 55 ∧ 0 ≤ j ∧ j < ((i + 1 : Nat) : Int) by omega)]
      · rw [if_neg hj, if_neg (show ¬ (c = 55 ∧ 0 ≤ j ∧ j < ((i + 1 : Nat) : Int)) by omega)]
  · rintro s rfl
    have e0 : (fun (c : Nat) (j : Int) => if c = 55 ∧ 0 ≤ j ∧ j < ((12 : Nat) : Int) then (0 : Int) else if c = 10 ∧ j = 27 then 0 else σ c j) = mMem σ (fun c => cntS tk ln pt fr to c 0) (totS tk ln fr to 0) := by
      funext c j
      simp [mMem, cntS, totS]
    rw [e0]
    show kT (fM_counted_B7 fr to 12 _) _
    unfold fM_counted_B7 fM_counted_J26
    refine kT_ltf (by omega) (by omega) (kT_exit ?_)
    unfold fM_counted_L28
    refine kT_for (fun i s => s = ((i : Int), mMem σ (fun c => cntS tk ln pt fr to c i) (totS tk ln fr to i))) n ?_ ?_ 0 (by omega) kF _ rfl (kF_lt (by omega))
    · rintro i s hi rfl
      obtain ⟨g1, g2, g3⟩ := h.2 i (by omega) (by omega)
      have g := hv.2 i (by omega) (by omega)
      have b := totS_r hv fr to i (by omega)
      have h0 := h.1
      have put := @mMem_put σ (pt i % 12) (fun c => cntS tk ln pt fr to c i) (fun c => cntS tk ln pt fr to c (i + 1)) (totS tk ln fr to i) (totS tk ln fr to (i + 1)) (by omega)
      have e24 : mMem σ (fun c => cntS tk ln pt fr to c i) (totS tk ln fr to i) 55 (pt i % 12) = cntS tk ln pt fr to (pt i % 12) i := mMem_i (by omega)
      have e25 : mMem σ (fun c => cntS tk ln pt fr to c i) (totS tk ln fr to i) 10 27 = totS tk ln fr to i := mMem_t
      generalize hM : mMem σ (fun c => cntS tk ln pt fr to c i) (totS tk ln fr to i) = M at *
      have m3 : M 10 7 = n := by rw [← hM]; exact h0
      have m16 : M 45 i = tk i := by rw [← hM]; exact g1
      have m17 : M 46 i = ln i := by rw [← hM]; exact g2
      have m18 : M 47 i = pt i := by rw [← hM]; exact g3
      have l1 : -1000000 ≤ loS fr (tk i) ∧ loS fr (tk i) ≤ 1000000 := by unfold loS; split <;> omega
      have l2 : -1000000 ≤ hiS to (tk i + ln i) ∧ hiS to (tk i + ln i) ≤ 1000000 := by unfold hiS; split <;> omega
      have last : kT (fM_counted_J92 fr to i (loS fr (tk i)) (hiS to (tk i + ln i)) M) (kS (fun s => s = (((i + 1 : Nat) : Int), mMem σ (fun c => cntS tk ln pt fr to c (i + 1)) (totS tk ln fr to (i + 1)))) (fun y => y = (0, mMem σ (fun c => cntS tk ln pt fr to c n) (totS tk ln fr to n)))) := by
        unfold fM_counted_J92 fM_counted_J140
        refine kT_lt (by omega) (by omega) (fun c => ?_) (fun c => ?_)
        · refine kT_rd (by omega) ?_
          rw [m18]
          refine kT_rm (by omega) (by omega) (by omega) ?_
          rw [tmod_e (by omega)]
          refine kT_rd (by omega) (kT_wr (by omega) (kT_wf (kT_let (kT_inl ?_))))
          refine Prod.ext (by simp) ?_
          have et : totS tk ln fr to (i + 1) = totS tk ln fr to i + (hiS to (tk i + ln i) - loS fr (tk i)) := by
            simp only [totS, if_pos c]
          have k1 : ks M 55 (pt i % 12) (M 55 (pt i % 12) + (hiS to (tk i + ln i) - loS fr (tk i))) 10 27 = totS tk ln fr to i := by
            rw [ks_c (by decide), e25]
          simp only [k1]
          rw [e24, ← et]
          have := put (by
            intro y hy hy2
            simp only [cntS, et]
            by_cases hyx : y = pt i % 12
            · subst hyx
              rw [if_pos ⟨c, rfl⟩, if_pos rfl]
              omega
            · rw [if_neg (by omega), if_neg hyx]
              omega)
          rw [← this]
          simp only [et]
          congr 2
          omega
        · refine kT_let (kT_inl ?_)
          refine Prod.ext (by simp) ?_
          rw [← hM]
          simp only [cntS, totS, if_neg (Int.not_lt.mpr c)]
          congr 1
          · funext y
            rw [if_neg (by omega)]
            omega
          · omega
      have mid : ∀ lo, lo = loS fr (tk i) → kT (fM_counted_J56 fr to i lo M) (kS (fun s => s = (((i + 1 : Nat) : Int), mMem σ (fun c => cntS tk ln pt fr to c (i + 1)) (totS tk ln fr to (i + 1)))) (fun y => y = (0, mMem σ (fun c => cntS tk ln pt fr to c n) (totS tk ln fr to n)))) := by
        rintro lo rfl
        unfold fM_counted_J56
        refine kT_rd (by omega) (kT_rd (by omega) ?_)
        rw [m16, m17]
        refine kT_lt (by omega) (by omega) (fun c => ?_) (fun c => ?_)
        · refine kT_rd (by omega) (kT_rd (by omega) ?_)
          rw [m16, m17]
          rw [hiS, if_pos c] at last
          exact last
        · rw [hiS, if_neg (by omega)] at last
          exact last
      show kT (fM_counted_B28 fr to i M) _
      unfold fM_counted_B28
      refine kT_ltt (by omega) (by omega) (kT_rd (by omega) ?_)
      rw [m16]
      refine kT_lt (by omega) (by omega) (fun c => ?_) (fun c => ?_)
      · refine kT_rd (by omega) ?_
        rw [m16]
        exact mid _ (by rw [loS, if_pos c])
      · exact mid _ (by rw [loS, if_neg (by omega)])
    · rintro s rfl
      have h0 := h.1
      generalize hM : mMem σ (fun c => cntS tk ln pt fr to c n) (totS tk ln fr to n) = M
      have m3 : M 10 7 = n := by rw [← hM]; exact h0
      show kT (fM_counted_B28 fr to n M) _
      unfold fM_counted_B28 fM_counted_J146
      refine kT_ltf (by omega) (by omega) (kT_exit (kT_ri rfl))
  · refine Prod.ext (by simp) ?_
    funext c j
    simp only [ks_ap]
    rw [if_neg (by omega : ¬ (c = 55 ∧ 0 ≤ j ∧ j < ((0 : Nat) : Int)))]
theorem M_countedIn {b : KB} {σ : KM} (hb : kB b) (hm : mB b σ) {w : Int} (hw : 0 ≤ w ∧ w < 48) : fM_countedIn w σ = some (0, mMem σ (cw b w) (tw b w)) := by
  refine kT.eq ?_
  have h2 := hb.2.1
  have h4 := wh_r hb hw
  unfold fM_countedIn
  rw [hm.2.1.1, hm.2.1.2, Int.mul_comm (bh b) w]
  refine kT_callE (M_counted hm.1 hb.1 (fr := w * bh b) (to := w * bh b + bw b) (by omega) (by omega)) ?_
  exact kT_ri rfl
theorem M_isWindow {b : KB} {σ : KM} (hb : kB b) (hm : mB b σ) {w : Int} (hw : -2147483648 ≤ w ∧ w < 2147483648) : fM_isWindow w σ = some (if w < 0 ∨ wnS b - 1 < w then 0 else 1, σ) := by
  refine kT.eq ?_
  have h2 := wnS_r hb
  unfold fM_isWindow
  refine kT_ck hw ?_
  refine kT_callE (M_windowMany hb hm) ?_
  refine kT_ck (by omega) ?_
  refine kT_callE (M_isIn (by omega) (by omega) hw σ) ?_
  exact kT_rz (by split <;> omega) rfl
theorem P_noWindow {b : KB} {σ : KM} (hb : kB b) (hc : cB b σ) (hi : wI b σ) {w : Int} (hw : -2147483648 ≤ w ∧ w < 2147483648) : kT (fP_noWindow w σ) (fun z => z.1 = (if w < 0 ∨ wnS b - 1 < w then 1 else 0) ∧ (wOK b z.2 ∧ z.2 5 6 = 0) ∧ kFr wfWi_recount σ z.2) := by
  have h2 := wnS_r hb
  unfold fP_noWindow fP_noWindow_J19 fP_noWindow_J24
  refine kT_callT (P_freshWindows hb hc hi) (fun r τ hz => ?_)
  simp only at hz
  have hs := hz.1.1.1
  rw [hs]
  refine kT_lt hw (by omega) (fun c => ?_) (fun c => ?_)
  · refine kT_rz (by omega) ⟨?_, hz⟩
    rw [if_pos (by omega)]
  · refine kT_lt hw (by omega) (fun c => ?_) (fun c => ?_)
    · refine kT_rz (by omega) ⟨?_, hz⟩
      rw [if_neg (by omega)]
    · refine kT_rz (by omega) ⟨?_, hz⟩
      rw [if_pos (by omega)]
