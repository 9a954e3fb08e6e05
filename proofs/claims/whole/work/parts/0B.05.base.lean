/-! ===== notes, their end, what is counted ===== -/
def kN (σ : KM) (co : Nat) (ko : Int) (ct cl cp : Nat) (n : Nat) (tk ln pt : Int → Int) : Prop := σ co ko = n ∧ ∀ i : Int, 0 ≤ i → i < n → σ ct i = tk i ∧ σ cl i = ln i ∧ σ cp i = pt i
def kV (n : Nat) (tk ln pt : Int → Int) : Prop := n ≤ 100 ∧ ∀ i : Int, 0 ≤ i → i < n → (0 ≤ tk i ∧ 1 ≤ ln i ∧ ln i ≤ 64 ∧ tk i + ln i ≤ 512) ∧ 0 ≤ pt i ∧ pt i < 128
def endS (tk ln : Int → Int) : Nat → Int
  | 0 => 0
  | i + 1 => if endS tk ln i < tk i + ln i then tk i + ln i else endS tk ln i
theorem endS_r {n : Nat} {tk ln pt : Int → Int} (hv : kV n tk ln pt) : ∀ i : Nat, i ≤ n → 0 ≤ endS tk ln i ∧ endS tk ln i ≤ 512
  | 0, _ => by simp [endS]
  | i + 1, h => by
    have := endS_r hv i (by omega)
    have := hv.2 i (by omega) (by omega)
    unfold endS
    split <;> omega
section NT
variable {σ : KM} {n : Nat} {tk ln pt : Int → Int}
theorem P_end (h : kN σ 3 3 16 17 18 n tk ln pt) (hv : kV n tk ln pt) : fNo_end σ = some (endS tk ln n, σ) := by
  refine kP ?_ (rfNo_end σ)
  have hn := hv.1
  unfold fNo_end fNo_end_L4
  refine kT_for (fun i s => s = (endS tk ln i, (i : Int), σ)) n ?_ ?_ 0 (by omega) kF _ rfl (kF_lt (by omega))
  · rintro i s hi rfl
    obtain ⟨g1, g2, g3⟩ := h.2 i (by omega) (by omega)
    have g := hv.2 i (by omega) (by omega)
    have b := endS_r hv i (by omega)
    have h0 := h.1
    show kT (fNo_end_B4 (endS tk ln i) i σ) _
    unfold fNo_end_B4
    repeat (first | ((with_reducible refine kT_let ?_)) | ((with_reducible refine kT_rd ?_ ?_); omega) | ((with_reducible refine kT_wr ?_ ?_); omega) | ((with_reducible refine kT_wf ?_)) | ((with_reducible refine kT_wfz ?_ ?_); omega) | ((with_reducible refine kT_ltt ?_ ?_ ?_); omega; omega) | ((with_reducible refine kT_ltf ?_ ?_ ?_); omega; omega) | ((with_reducible refine kT_eqt ?_ ?_ ?_); omega; omega) | ((with_reducible refine kT_eqf ?_ ?_ ?_ ?_); omega; omega; omega) | ((with_reducible refine kT_ck ?_ ?_); omega) | ((with_reducible refine kT_ck6 ?_ ?_ ?_); omega; omega) | ((with_reducible refine kT_mx ?_ ?_ ?_); omega; omega) | ((with_reducible refine kT_mn ?_ ?_ ?_); omega; omega) | ((with_reducible refine kT_dv ?_ ?_ ?_ ?_); omega; omega; omega) | ((with_reducible refine kT_rm ?_ ?_ ?_ ?_); omega; omega; omega) | ((with_reducible refine kT_exit ?_)) | ((with_reducible refine kT_ri ?_)) | ((with_reducible refine kT_rz ?_ ?_); omega) | ((with_reducible refine kT_inl ?_)))
    simp only [endS, g1, g2]
    rfl
  · rintro s rfl
    have b := endS_r hv n (by omega)
    have h0 := h.1
    show kT (fNo_end_B4 (endS tk ln n) n σ) _
    unfold fNo_end_B4 fNo_end_J36
    repeat (first | ((with_reducible refine kT_let ?_)) | ((with_reducible refine kT_rd ?_ ?_); omega) | ((with_reducible refine kT_wr ?_ ?_); omega) | ((with_reducible refine kT_wf ?_)) | ((with_reducible refine kT_wfz ?_ ?_); omega) | ((with_reducible refine kT_ltt ?_ ?_ ?_); omega; omega) | ((with_reducible refine kT_ltf ?_ ?_ ?_); omega; omega) | ((with_reducible refine kT_eqt ?_ ?_ ?_); omega; omega) | ((with_reducible refine kT_eqf ?_ ?_ ?_ ?_); omega; omega; omega) | ((with_reducible refine kT_ck ?_ ?_); omega) | ((with_reducible refine kT_ck6 ?_ ?_ ?_); omega; omega) | ((with_reducible refine kT_mx ?_ ?_ ?_); omega; omega) | ((with_reducible refine kT_mn ?_ ?_ ?_); omega; omega) | ((with_reducible refine kT_dv ?_ ?_ ?_ ?_); omega; omega; omega) | ((with_reducible refine kT_rm ?_ ?_ ?_ ?_); omega; omega; omega) | ((with_reducible refine kT_exit ?_)) | ((with_reducible refine kT_ri ?_)) | ((with_reducible refine kT_rz ?_ ?_); omega) | ((with_reducible refine kT_inl ?_)))
    rfl
theorem M_theEnd (h : kN σ 10 7 45 46 47 n tk ln pt) (hv : kV n tk ln pt) : fM_theEnd σ = some (endS tk ln n, σ) := by
  refine kP ?_ (rfM_theEnd σ)
  have hn := hv.1
  unfold fM_theEnd fM_theEnd_L4
  refine kT_for (fun i s => s = (endS tk ln i, (i : Int), σ)) n ?_ ?_ 0 (by omega) kF _ rfl (kF_lt (by omega))
  · rintro i s hi rfl
    obtain ⟨g1, g2, g3⟩ := h.2 i (by omega) (by omega)
    have g := hv.2 i (by omega) (by omega)
    have b := endS_r hv i (by omega)
    have h0 := h.1
    show kT (fM_theEnd_B4 (endS tk ln i) i σ) _
    unfold fM_theEnd_B4 fM_theEnd_J46
    refine kT_ltt (by omega) (by omega) ?_
    refine kT_rd (by omega) (kT_rd (by omega) ?_)
    rw [g1, g2]
    refine kT_lt (by omega) (by omega) (fun c => ?_) (fun c => ?_)
    · repeat (first | ((with_reducible refine kT_let ?_)) | ((with_reducible refine kT_rd ?_ ?_); omega) | ((with_reducible refine kT_wr ?_ ?_); omega) | ((with_reducible refine kT_wf ?_)) | ((with_reducible refine kT_wfz ?_ ?_); omega) | ((with_reducible refine kT_ltt ?_ ?_ ?_); omega; omega) | ((with_reducible refine kT_ltf ?_ ?_ ?_); omega; omega) | ((with_reducible refine kT_eqt ?_ ?_ ?_); omega; omega) | ((with_reducible refine kT_eqf ?_ ?_ ?_ ?_); omega; omega; omega) | ((with_reducible refine kT_ck ?_ ?_); omega) | ((with_reducible refine kT_ck6 ?_ ?_ ?_); omega; omega) | ((with_reducible refine kT_mx ?_ ?_ ?_); omega; omega) | ((with_reducible refine kT_mn ?_ ?_ ?_); omega; omega) | ((with_reducible refine kT_dv ?_ ?_ ?_ ?_); omega; omega; omega) | ((with_reducible refine kT_rm ?_ ?_ ?_ ?_); omega; omega; omega) | ((with_reducible refine kT_exit ?_)) | ((with_reducible refine kT_ri ?_)) | ((with_reducible refine kT_rz ?_ ?_); omega) | ((with_reducible refine kT_inl ?_)))
      simp only [endS, g1, g2, if_pos c]
      rfl
    · repeat (first | ((with_reducible refine kT_let ?_)) | ((with_reducible refine kT_rd ?_ ?_); omega) | ((with_reducible refine kT_wr ?_ ?_); omega) | ((with_reducible refine kT_wf ?_)) | ((with_reducible refine kT_wfz ?_ ?_); omega) | ((with_reducible refine kT_ltt ?_ ?_ ?_); omega; omega) | ((with_reducible refine kT_ltf ?_ ?_ ?_); omega; omega) | ((with_reducible refine kT_eqt ?_ ?_ ?_); omega; omega) | ((with_reducible refine kT_eqf ?_ ?_ ?_ ?_); omega; omega; omega) | ((with_reducible refine kT_ck ?_ ?_); omega) | ((with_reducible refine kT_ck6 ?_ ?_ ?_); omega; omega) | ((with_reducible refine kT_mx ?_ ?_ ?_); omega; omega) | ((with_reducible refine kT_mn ?_ ?_ ?_); omega; omega) | ((with_reducible refine kT_dv ?_ ?_ ?_ ?_); omega; omega; omega) | ((with_reducible refine kT_rm ?_ ?_ ?_ ?_); omega; omega; omega) | ((with_reducible refine kT_exit ?_)) | ((with_reducible refine kT_ri ?_)) | ((with_reducible refine kT_rz ?_ ?_); omega) | ((with_reducible refine kT_inl ?_)))
      simp only [endS, if_neg (Int.not_lt.mpr c)]
      rfl
  · rintro s rfl
    have b := endS_r hv n (by omega)
    have h0 := h.1
    show kT (fM_theEnd_B4 (endS tk ln n) n σ) _
    unfold fM_theEnd_B4 fM_theEnd_J53
    repeat (first | ((with_reducible refine kT_let ?_)) | ((with_reducible refine kT_rd ?_ ?_); omega) | ((with_reducible refine kT_wr ?_ ?_); omega) | ((with_reducible refine kT_wf ?_)) | ((with_reducible refine kT_wfz ?_ ?_); omega) | ((with_reducible refine kT_ltt ?_ ?_ ?_); omega; omega) | ((with_reducible refine kT_ltf ?_ ?_ ?_); omega; omega) | ((with_reducible refine kT_eqt ?_ ?_ ?_); omega; omega) | ((with_reducible refine kT_eqf ?_ ?_ ?_ ?_); omega; omega; omega) | ((with_reducible refine kT_ck ?_ ?_); omega) | ((with_reducible refine kT_ck6 ?_ ?_ ?_); omega; omega) | ((with_reducible refine kT_mx ?_ ?_ ?_); omega; omega) | ((with_reducible refine kT_mn ?_ ?_ ?_); omega; omega) | ((with_reducible refine kT_dv ?_ ?_ ?_ ?_); omega; omega; omega) | ((with_reducible refine kT_rm ?_ ?_ ?_ ?_); omega; omega; omega) | ((with_reducible refine kT_exit ?_)) | ((with_reducible refine kT_ri ?_)) | ((with_reducible refine kT_rz ?_ ?_); omega) | ((with_reducible refine kT_inl ?_)))
    rfl
end NT
def loS (fr t : Int) : Int := if fr < t then t else fr
def hiS (to e : Int) : Int := if e < to then e else to
def cntS (tk ln pt : Int → Int) (fr to c : Int) : Nat → Int
  | 0 => 0
  | i + 1 => cntS tk ln pt fr to c i + (if loS fr (tk i) < hiS to (tk i + ln i) ∧ pt i % 12 = c then hiS to (tk i + ln i) - loS fr (tk i) else 0)
def totS (tk ln : Int → Int) (fr to : Int) : Nat → Int
  | 0 => 0
  | i + 1 => totS tk ln fr to i + (if loS fr (tk i) < hiS to (tk i + ln i) then hiS to (tk i + ln i) - loS fr (tk i) else 0)
theorem cntS_r {n : Nat} {tk ln pt : Int → Int} (hv : kV n tk ln pt) (fr to c : Int) : ∀ i : Nat, i ≤ n → 0 ≤ cntS tk ln pt fr to c i ∧ cntS tk ln pt fr to c i ≤ 64 * i
  | 0, _ => by simp [cntS]
  | i + 1, h => by
    have := cntS_r hv fr to c i (by omega)
    have := hv.2 i (by omega) (by omega)
    unfold cntS loS hiS
    split <;> split <;> split <;> omega
theorem totS_r {n : Nat} {tk ln pt : Int → Int} (hv : kV n tk ln pt) (fr to : Int) : ∀ i : Nat, i ≤ n → 0 ≤ totS tk ln fr to i ∧ totS tk ln fr to i ≤ 64 * i
  | 0, _ => by simp [totS]
  | i + 1, h => by
    have := totS_r hv fr to i (by omega)
    have := hv.2 i (by omega) (by omega)
    unfold totS loS hiS
    split <;> split <;> split <;> omega
theorem cnt_tot {n : Nat} {tk ln pt : Int → Int} (hv : kV n tk ln pt) (fr to c : Int) : ∀ i : Nat, i ≤ n → cntS tk ln pt fr to c i ≤ totS tk ln fr to i
  | 0, _ => by simp [totS, cntS]
  | i + 1, h => by
    have := cnt_tot hv fr to c i (by omega)
    have := hv.2 i (by omega) (by omega)
    unfold totS cntS loS hiS
    split <;> split <;> split <;> split <;> omega
/-- the class's rows 24 and 25 with a WINDOW counted -/
def cMem (σ : KM) (row : Int) (g : Int → Int) (t : Int) : KM := fun c j => if c = 24 ∧ row * 12 ≤ j ∧ j < row * 12 + 12 then g (j - row * 12) else if c = 25 ∧ j = row then t else σ c j
theorem cMem_put {σ : KM} {row x : Int} {g g' : Int → Int} {t t' : Int} (hx : 0 ≤ x ∧ x < 12) (hg : ∀ y, 0 ≤ y → y < 12 → g' y = if y = x then g x + (t' - t) else g y) : ks (ks (cMem σ row g t) 24 (row * 12 + x) (g x + (t' - t))) 25 row t' = cMem σ row g' t' := by
  funext c j
  simp only [ks_ap, cMem]
  by_cases h25 : c = 25 ∧ j = row
  · rw [if_pos h25, if_neg (by omega), if_pos h25]
  · rw [if_neg h25]
    by_cases h24 : c = 24 ∧ row * 12 ≤ j ∧ j < row * 12 + 12
    · rw [if_pos h24, if_pos h24, hg _ (by omega) (by omega)]
      by_cases hj : j = row * 12 + x
      · rw [if_pos ⟨h24.1, hj⟩, if_pos (by omega)]
      · rw [if_neg (by omega), if_neg (by omega)]
    · rw [if_neg h24, if_neg (by omega), if_neg h24, if_neg h25, if_neg h25]
theorem P_fill24 {a b v : Int} (h1 : 0 ≤ a ∧ a ≤ b ∧ b ≤ 588) (σ : KM) : fAr_fill4_24 a b v σ = some (0, fun c j => if c = 24 ∧ a ≤ j ∧ j < b then v else σ c j) := by
  refine kT.eq ?_
  unfold fAr_fill4_24
  have e1 : fAr_rangeCheck 588 a b σ = some (0, σ) := by
    refine kT.eq ?_
    unfold fAr_rangeCheck
    repeat (first | ((with_reducible refine kT_let ?_)) | ((with_reducible refine kT_rd ?_ ?_); omega) | ((with_reducible refine kT_wr ?_ ?_); omega) | ((with_reducible refine kT_wf ?_)) | ((with_reducible refine kT_wfz ?_ ?_); omega) | ((with_reducible refine kT_ltt ?_ ?_ ?_); omega; omega) | ((with_reducible refine kT_ltf ?_ ?_ ?_); omega; omega) | ((with_reducible refine kT_eqt ?_ ?_ ?_); omega; omega) | ((with_reducible refine kT_eqf ?_ ?_ ?_ ?_); omega; omega; omega) | ((with_reducible refine kT_ck ?_ ?_); omega) | ((with_reducible refine kT_ck6 ?_ ?_ ?_); omega; omega) | ((with_reducible refine kT_mx ?_ ?_ ?_); omega; omega) | ((with_reducible refine kT_mn ?_ ?_ ?_); omega; omega) | ((with_reducible refine kT_dv ?_ ?_ ?_ ?_); omega; omega; omega) | ((with_reducible refine kT_rm ?_ ?_ ?_ ?_); omega; omega; omega) | ((with_reducible refine kT_exit ?_)) | ((with_reducible refine kT_ri ?_)) | ((with_reducible refine kT_rz ?_ ?_); omega) | ((with_reducible refine kT_inl ?_)))
    rfl
  refine kT_callE e1 ?_
  unfold fAr_fill4_24_L10
  refine kT_for (fun i s => s = (a + i, fun c j => if c = 24 ∧ a ≤ j ∧ j < a + i then v else σ c j)) (b - a).toNat ?_ ?_ 0 (by omega) kF _ ?_ (kF_lt (by omega))
  · rintro i s hi rfl
    show kT (fAr_fill4_24_B10 b v (a + i) _) _
    unfold fAr_fill4_24_B10
    refine kT_ltt (by omega) (by omega) ?_
    refine kT_wr (by omega) (kT_let (kT_inl ?_))
    refine Prod.ext (by simp; omega) ?_
    funext c j
    simp only [ks_ap]
    by_cases hc : c = 24 ∧ a ≤ j ∧ j < a + (i : Int)
    · rw [if_pos hc, if_neg (by omega), if_pos (by omega)]
    · rw [if_neg hc]
      by_cases hj : c = 24 ∧ j = a + i
      · rw [if_pos hj, if_pos (by omega)]
      · rw [if_neg hj, if_neg (by omega)]
  · rintro s rfl
    show kT (fAr_fill4_24_B10 b v (a + ((b - a).toNat : Nat)) _) _
    unfold fAr_fill4_24_B10 fAr_fill4_24_J27
    refine kT_ltf (by omega) (by omega) (kT_exit (kT_ri ?_))
    rw [show a + ((b - a).toNat : Int) = b by omega]
  · refine Prod.ext (by simp) ?_
    funext c j
    simp only []
    rw [if_neg (by omega)]
theorem P_countSpan {σ : KM} {n : Nat} {tk ln pt : Int → Int} (h : kN σ 3 3 16 17 18 n tk ln pt) (hv : kV n tk ln pt) {row fr to : Int} (hr : 0 ≤ row ∧ row ≤ 48) (hf : 0 ≤ fr ∧ fr ≤ 100000) (ht : 0 ≤ to ∧ to ≤ 100000) : fWi_countSpan row fr to σ = some (0, cMem σ row (fun c => cntS tk ln pt fr to c n) (totS tk ln fr to n)) := by
  refine kT.eq ?_
  have hn := hv.1
  unfold fWi_countSpan
  refine kT_callE (P_fill24 (by omega) σ) ?_
  refine kT_wr (by omega) ?_
  unfold fWi_countSpan_L28
  refine kT_for (fun i s => s = ((i : Int), cMem σ row (fun c => cntS tk ln pt fr to c i) (totS tk ln fr to i))) n ?_ ?_ 0 (by omega) kF _ ?_ (kF_lt (by omega))
  · rintro i s hi rfl
    obtain ⟨g1, g2, g3⟩ := h.2 i (by omega) (by omega)
    have g := hv.2 i (by omega) (by omega)
    have b := totS_r hv fr to i (by omega)
    have h0 := h.1
    have put := @cMem_put σ row (pt i % 12) (fun c => cntS tk ln pt fr to c i) (fun c => cntS tk ln pt fr to c (i + 1)) (totS tk ln fr to i) (totS tk ln fr to (i + 1)) (by omega)
    have e24 : cMem σ row (fun c => cntS tk ln pt fr to c i) (totS tk ln fr to i) 24 (row * 12 + pt i % 12) = cntS tk ln pt fr to (pt i % 12) i := by
      unfold cMem
      rw [if_pos ⟨rfl, by omega, by omega⟩]
      show cntS tk ln pt fr to (row * 12 + pt i % 12 - row * 12) i = _
      rw [show row * 12 + pt i % 12 - row * 12 = pt i % 12 by omega]
    have e25 : cMem σ row (fun c => cntS tk ln pt fr to c i) (totS tk ln fr to i) 25 row = totS tk ln fr to i := by
      simp [cMem]
    generalize hM : cMem σ row (fun c => cntS tk ln pt fr to c i) (totS tk ln fr to i) = M at *
    have m3 : M 3 3 = n := by rw [← hM]; exact h0
    have m16 : M 16 i = tk i := by rw [← hM]; exact g1
    have m17 : M 17 i = ln i := by rw [← hM]; exact g2
    have m18 : M 18 i = pt i := by rw [← hM]; exact g3
    show kT (fWi_countSpan_B28 row fr to i M) _
    unfold fWi_countSpan_B28 fWi_countSpan_J121
    refine kT_ltt (by omega) (by omega) (kT_rd (by omega) ?_)
    rw [m16]
    refine kT_mx (by omega) (by omega) ?_
    rw [show (if fr < tk i then tk i else fr) = loS fr (tk i) from rfl]
    refine kT_rd (by omega) (kT_rd (by omega) ?_)
    rw [m16, m17]
    refine kT_mn (by omega) (by omega) ?_
    rw [show (if tk i + ln i < to then tk i + ln i else to) = hiS to (tk i + ln i) from rfl]
    have l1 : -1000000 ≤ loS fr (tk i) ∧ loS fr (tk i) ≤ 1000000 := by unfold loS; split <;> omega
    have l2 : -1000000 ≤ hiS to (tk i + ln i) ∧ hiS to (tk i + ln i) ≤ 1000000 := by unfold hiS; split <;> omega
    refine kT_lt (by omega) (by omega) (fun c => ?_) (fun c => ?_)
    · refine kT_rd (by omega) ?_
      rw [m18]
      refine kT_rm (by omega) (by omega) (by omega) ?_
      rw [tmod_e (by omega)]
      refine kT_rd (by omega) (kT_wr (by omega) (kT_rd (by omega) (kT_wr (by omega) (kT_let (kT_inl ?_)))))
      refine Prod.ext (by simp) ?_
      have et : totS tk ln fr to (i + 1) = totS tk ln fr to i + (hiS to (tk i + ln i) - loS fr (tk i)) := by
        simp only [totS, if_pos c]
      have k1 : ks M 24 (row * 12 + pt i % 12) (M 24 (row * 12 + pt i % 12) + (hiS to (tk i + ln i) - loS fr (tk i))) 25 row = totS tk ln fr to i := by
        rw [ks_c (by decide), e25]
      simp only [k1]
      rw [e24, ← et]
      have := put (by
        intro y hy hy2
        simp only [cntS, et]
        by_cases hyx : y = pt i % 12
        · subst hyx
          rw [if_pos ⟨c, rfl⟩, if_pos rfl]
          omega
        · rw [if_neg (by omega), if_neg hyx]
          omega)
      rw [← this]
      simp only [et]
      congr 2
      omega
    · refine kT_let (kT_inl ?_)
      refine Prod.ext (by simp) ?_
      rw [← hM]
      simp only [cntS, totS, if_neg (Int.not_lt.mpr c)]
      congr 1
      · funext y
        rw [if_neg (by omega)]
        omega
      · omega
  · rintro s rfl
    have h0 := h.1
    generalize hM : cMem σ row (fun c => cntS tk ln pt fr to c n) (totS tk ln fr to n) = M
    have m3 : M 3 3 = n := by rw [← hM]; exact h0
    show kT (fWi_countSpan_B28 row fr to n M) _
    unfold fWi_countSpan_B28 fWi_countSpan_J127
    refine kT_ltf (by omega) (by omega) (kT_exit (kT_ri rfl))
  · refine Prod.ext (by simp) ?_
    funext c j
    simp only [ks_ap, cMem, cntS, totS]
    by_cases h24 : c = 24 ∧ row * 12 ≤ j ∧ j < row * 12 + 12
    · rw [if_neg (by omega), if_pos (by omega), if_pos h24]
    · by_cases h25 : c = 25 ∧ j = row
      · rw [if_pos h25, if_neg h24, if_pos h25]
      · rw [if_neg h25, if_neg (by omega), if_neg h24, if_neg h25]
