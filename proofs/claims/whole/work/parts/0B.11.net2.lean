/-! ===== THE NET in both memories ===== -/
def prS (f r a e : Int) : Int := if e < 2 then f else if e = 2 then r else a
theorem prS_ok {f r a : Int} (h : (0 ≤ f ∧ f ≤ 999) ∧ (0 ≤ r ∧ r ≤ 999) ∧ (0 ≤ a ∧ a ≤ 999)) : prOK (prS f r a) := fun e => by
  unfold prS
  split
  · exact h.1
  · split
    · exact h.2.1
    · exact h.2.2
theorem prS_iv (f r a : Int) {e : Int} (he : 0 ≤ e ∧ e < 4) : stE (prS f r a) (ivE e) = stE (prS f r a) e := by
  rcases (show e = 0 ∨ e = 1 ∨ e = 2 ∨ e = 3 by omega) with rfl | rfl | rfl | rfl <;> rfl
theorem upK_le {d : Int → Int} {k v : Int} (h : v ≤ d k) (x : Int) : upK d k v x ≤ d x := by
  unfold upK
  split
  · next e => rw [e]; exact h
  · exact Int.le_refl _
theorem ivE_r {e : Int} (he : 0 ≤ e ∧ e < 4) : 0 ≤ ivE e ∧ ivE e < 4 := by
  unfold ivE
  split
  · omega
  · split <;> omega
theorem P_fill32 {v : Int} (σ : KM) : fAr_fill2_32 v σ = some (0, fun c j => if c = 32 ∧ 0 ≤ j ∧ j < 24 then v else σ c j) := by
  refine kT.eq ?_
  unfold fAr_fill2_32 fAr_fill2_32_L5
  refine kT_for (fun i s => s = ((i : Int), fun c j => if c = 32 ∧ 0 ≤ j ∧ j < (i : Int) then v else σ c j)) 24 ?_ ?_ 0 (by omega) kF _ ?_ (kF_lt (by omega))
  · rintro i s hi rfl
    show kT (fAr_fill2_32_B5 v 24 i _) _
    unfold fAr_fill2_32_B5
    refine kT_ltt (by omega) (by omega) ?_
    refine kT_wr (by omega) (kT_let (kT_inl ?_))
    refine Prod.ext (by simp) ?_
    funext c j
    simp only [ks_ap]
    by_cases hc : c = 32 ∧ 0 ≤ j ∧ j < (i : Int)
    · rw [if_pos hc, if_neg (by omega), if_pos (by omega)]
    · rw [if_neg hc]
      by_cases hj : c = 32 ∧ j = i
      · rw [if_pos hj, if_pos (by omega)]
      · rw [if_neg hj, if_neg (by omega)]
  · rintro s rfl
    show kT (fAr_fill2_32_B5 v 24 24 _) _
    unfold fAr_fill2_32_B5 fAr_fill2_32_J20
    exact kT_ltf (by omega) (by omega) (kT_exit (kT_ri rfl))
  · refine Prod.ext rfl ?_
    funext c j
    dsimp only
    rw [if_neg (by omega)]
theorem P_rankOfStep {f r a : Int} {σ : KM} (hq : σ 7 0 = f ∧ σ 7 1 = r ∧ σ 7 2 = a) {e : Int} (he : 0 ≤ e ∧ e < 4) : fNe_rankOfStep e σ = some (stE (prS f r a) e, σ) := by
  obtain ⟨h1, h2, h3⟩ := hq
  refine kT.eq ?_
  unfold fNe_rankOfStep fNe_rankOfStep_J14 fNe_rankOfStep_J32
  rw [h1, h2, h3]
  rcases (show e = 0 ∨ e = 1 ∨ e = 2 ∨ e = 3 by omega) with rfl | rfl | rfl | rfl
  all_goals ((repeat (first | ((with_reducible refine kT_let ?_)) | ((with_reducible refine kT_rd ?_ ?_); omega) | ((with_reducible refine kT_wr ?_ ?_); omega) | ((with_reducible refine kT_wf ?_)) | ((with_reducible refine kT_wfz ?_ ?_); omega) | ((with_reducible refine kT_ltt ?_ ?_ ?_); omega; omega) | ((with_reducible refine kT_ltf ?_ ?_ ?_); omega; omega) | ((with_reducible refine kT_eqt ?_ ?_ ?_); omega; omega) | ((with_reducible refine kT_eqf ?_ ?_ ?_ ?_); omega; omega; omega) | ((with_reducible refine kT_ck ?_ ?_); omega) | ((with_reducible refine kT_ck6 ?_ ?_ ?_); omega; omega) | ((with_reducible refine kT_mx ?_ ?_ ?_); omega; omega) | ((with_reducible refine kT_mn ?_ ?_ ?_); omega; omega) | ((with_reducible refine kT_dv ?_ ?_ ?_ ?_); omega; omega; omega) | ((with_reducible refine kT_rm ?_ ?_ ?_ ?_); omega; omega; omega) | ((with_reducible refine kT_exit ?_)) | ((with_reducible refine kT_ri ?_)) | ((with_reducible refine kT_rz ?_ ?_); omega) | ((with_reducible refine kT_inl ?_)))); rfl)
theorem M_costs {f r a : Int} {σ : KM} (hq : σ 10 13 = f ∧ σ 10 14 = r ∧ σ 10 15 = a) {e : Int} (he : 0 ≤ e ∧ e < 4) : fM_costs e σ = some (prS f r a e, σ) := by
  obtain ⟨h1, h2, h3⟩ := hq
  refine kT.eq ?_
  unfold fM_costs fM_costs_J28
  rw [h1, h2, h3]
  rcases (show e = 0 ∨ e = 1 ∨ e = 2 ∨ e = 3 by omega) with rfl | rfl | rfl | rfl
  all_goals ((repeat (first | ((with_reducible refine kT_let ?_)) | ((with_reducible refine kT_rd ?_ ?_); omega) | ((with_reducible refine kT_wr ?_ ?_); omega) | ((with_reducible refine kT_wf ?_)) | ((with_reducible refine kT_wfz ?_ ?_); omega) | ((with_reducible refine kT_ltt ?_ ?_ ?_); omega; omega) | ((with_reducible refine kT_ltf ?_ ?_ ?_); omega; omega) | ((with_reducible refine kT_eqt ?_ ?_ ?_); omega; omega) | ((with_reducible refine kT_eqf ?_ ?_ ?_ ?_); omega; omega; omega) | ((with_reducible refine kT_ck ?_ ?_); omega) | ((with_reducible refine kT_ck6 ?_ ?_ ?_); omega; omega) | ((with_reducible refine kT_mx ?_ ?_ ?_); omega; omega) | ((with_reducible refine kT_mn ?_ ?_ ?_); omega; omega) | ((with_reducible refine kT_dv ?_ ?_ ?_ ?_); omega; omega; omega) | ((with_reducible refine kT_rm ?_ ?_ ?_ ?_); omega; omega; omega) | ((with_reducible refine kT_exit ?_)) | ((with_reducible refine kT_ri ?_)) | ((with_reducible refine kT_rz ?_ ?_); omega) | ((with_reducible refine kT_inl ?_)))); rfl)
/-- what the class has done within a pass -/
def pcE (pr : Int → Int) (t : Int) (d0 : Int → Int) (σ : KM) (key e fl : Int) (M : KM) : Prop := ∃ d, M 7 = σ 7 ∧ (∀ k, 0 ≤ k → k < 24 → M 32 k = d k) ∧ psE pr t d0 d fl ∧ ∀ k' e', 0 ≤ k' → k' < 24 → 0 ≤ e' → e' < 4 → (k' < key ∨ (k' = key ∧ e' < e)) → d (nbS k' e') ≤ stE pr e' + d0 k'
theorem P_reachFrom {f r a : Int} (hp : prOK (prS f r a)) {σ : KM} (hq : σ 7 0 = f ∧ σ 7 1 = r ∧ σ 7 2 = a) {t : Int} (ht : 0 ≤ t ∧ t < 24) : kT (fNe_reachFrom t σ) (fun z => ∃ d, rnE (prS f r a) t 0 d 0 ∧ ∀ k, 0 ≤ k → k < 24 → z.2 32 k = d k) := by
  unfold fNe_reachFrom
  refine kT_callE (P_fill32 σ) (kT_wr (by omega) ?_)
  unfold fNe_reachFrom_L20
  refine kT_for (fun i s => ∃ d fl M, s = (fl, (i : Int), M) ∧ M 7 = σ 7 ∧ (∀ k, 0 ≤ k → k < 24 → M 32 k = d k) ∧ rnE (prS f r a) t i d fl ∧ (fl = 0 ∨ fl = 1)) 24 ?_ ?_ 0 (by omega) kF _ ?_ (kF_lt (by omega))
  · rintro i s hi ⟨d0, fl, M, rfl, h7, h32, hr, hfl⟩
    show kT (fNe_reachFrom_B20 fl i M) _
    unfold fNe_reachFrom_B20 fNe_reachFrom_J117
    refine kT_ltt (by omega) (by omega) ?_
    refine kT_eq (by omega) (by omega) (fun c => ?_) (fun c => ?_)
    · subst c
      exact kT_exit (kT_ri ⟨d0, ⟨hr.1, by rcases hr.2 with h | h; exact Or.inl h; omega⟩, h32⟩)
    · have e1 : fl = 1 := by omega
      subst e1
      unfold fNe_reachFrom_L35
      refine kT_for (fun j s => ∃ fl M, s = (fl, (j : Int), M) ∧ pcE (prS f r a) t d0 σ j 0 fl M) 24 ?_ ?_ 0 (by omega) kF _ ?_ (kF_lt (by omega))
      · rintro j s hj ⟨fl, M, rfl, hm⟩
        show kT (fNe_reachFrom_B35 i fl j M) _
        unfold fNe_reachFrom_B35 fNe_reachFrom_L45
        refine kT_ltt (by omega) (by omega) ?_
        refine kT_for (fun l s => ∃ fl M, s = (fl, (l : Int), M) ∧ pcE (prS f r a) t d0 σ j l fl M) 4 ?_ ?_ 0 (by omega) kF _ ⟨fl, M, rfl, hm⟩ (kF_lt (by omega))
        · rintro l s hl ⟨fl, M, rfl, d, g7, g32, gp, ga⟩
          show kT (fNe_reachFrom_B45 i j fl l M) _
          unfold fNe_reachFrom_B45 fNe_reachFrom_J99
          have nr := nbS_r (k := j) (e := l) (by omega)
          have n1 := nV_r gp.1 (k := j) (by omega)
          have n2 := nV_r gp.1 nr
          have hs := hp l
          have hst : stE (prS f r a) l = 64 * prS f r a l + 1 := rfl
          refine kT_ltt (by omega) (by omega) ?_
          refine kT_callE (P_neighbour (by omega) (by omega) M) ?_
          refine kT_rd (by omega) ?_
          refine kT_callE (P_rankOfStep (by rw [g7]; exact hq) (by omega)) (kT_let (kT_rd (by omega) ?_))
          rw [g32 j (by omega) (by omega), g32 _ nr.1 nr.2]
          refine kT_lt (by omega) (by omega) (fun c => ?_) (fun c => ?_)
          · refine kT_wr (by omega) (kT_let (kT_inl ?_))
            refine ⟨_, _, rfl, upK d (nbS j l) (d j + stE (prS f r a) l), ?_, ?_, ?_, ?_⟩
            · exact g7
            · intro k a0 a1
              rw [ks_ap]
              unfold upK
              by_cases hk : k = nbS j l
              · rw [if_pos ⟨rfl, hk⟩, if_pos hk]
              · rw [if_neg (fun h => hk h.2), if_neg hk]; exact g32 k a0 a1
            · have e2 := prS_iv f r a (e := l) (by omega)
              have := psE.up hp gp (k := nbS j l) (o := j) (e := ivE l) nr (ivE_r (by omega)) (by omega) (nb_iv (by omega) (by omega)) (by rw [e2]; exact c)
              rw [e2] at this
              exact this
            · intro k' e' a0 a1 b0 b1 hx
              by_cases hl2 : k' = j ∧ e' = l
              · rw [hl2.1, hl2.2]
                have e3 : upK d (nbS j l) (d j + stE (prS f r a) l) (nbS j l) = d j + stE (prS f r a) l := by simp [upK]
                have := gp.2.1 j (by omega) (by omega)
                omega
              · exact Int.le_trans (upK_le (by omega) _) (ga k' e' a0 a1 b0 b1 (by omega))
          · refine kT_let (kT_inl ?_)
            refine ⟨_, _, rfl, d, g7, g32, gp, ?_⟩
            intro k' e' a0 a1 b0 b1 hx
            by_cases hl2 : k' = j ∧ e' = l
            · rw [hl2.1, hl2.2]
              have := gp.2.1 j (by omega) (by omega)
              omega
            · exact ga k' e' a0 a1 b0 b1 (by omega)
        · rintro s ⟨fl, M, rfl, d, g7, g32, gp, ga⟩
          show kT (fNe_reachFrom_B45 i j fl 4 M) _
          unfold fNe_reachFrom_B45 fNe_reachFrom_J105
          refine kT_ltf (by omega) (by omega) (kT_exit (kT_let (kT_inl ?_)))
          exact ⟨fl, M, rfl, d, g7, g32, gp, fun k' e' a0 a1 b0 b1 hx => ga k' e' a0 a1 b0 b1 (by omega)⟩
      · rintro s ⟨fl, M, rfl, d, g7, g32, gp, ga⟩
        show kT (fNe_reachFrom_B35 i fl 24 M) _
        unfold fNe_reachFrom_B35 fNe_reachFrom_J111
        refine kT_ltf (by omega) (by omega) (kT_exit (kT_let (kT_inl ?_)))
        refine ⟨d, fl, M, rfl, g7, g32, rnE.next hr gp ?_, gp.2.2.1⟩
        intro k e a0 a1 b0 b1
        have nr := nbS_r (e := e) ⟨a0, a1⟩
        have iv := ivE_r ⟨b0, b1⟩
        have := ga (nbS k e) (ivE e) nr.1 nr.2 iv.1 iv.2 (by omega)
        rw [nb_iv ⟨a0, a1⟩ ⟨b0, b1⟩, prS_iv f r a ⟨b0, b1⟩] at this
        exact this
      · exact ⟨0, M, rfl, d0, h7, h32, ⟨hr.1, fun k _ _ => Int.le_refl _, by omega, fun _ k _ _ => rfl, fun c => by omega⟩, fun k' e' a0 a1 b0 b1 hx => by omega⟩
  · rintro s ⟨d0, fl, M, rfl, h7, h32, hr, hfl⟩
    show kT (fNe_reachFrom_B20 fl 24 M) _
    unfold fNe_reachFrom_B20 fNe_reachFrom_J117
    refine kT_ltf (by omega) (by omega) (kT_exit (kT_ri ⟨d0, ⟨hr.1, ?_⟩, h32⟩))
    rcases hr.2 with h | h
    · exact Or.inl ⟨rfl, h.2⟩
    · omega
  · refine ⟨d0S t, 1, _, rfl, rfl, fun k a0 a1 => ?_, rnE.init _, by omega⟩
    rw [ks_ap]
    unfold d0S
    by_cases hk : k = t
    · rw [if_pos ⟨rfl, hk⟩, if_pos hk]
    · rw [if_neg (fun h => hk h.2), if_neg hk]
      rw [if_pos ⟨rfl, a0, a1⟩]
/-- the least ranks, once and for all -/
theorem dOK {f r a : Int} (hp : prOK (prS f r a)) {t : Int} (ht : 0 ≤ t ∧ t < 24) : (∀ k, 0 ≤ k → k < 24 → BS (prS f r a) t 23 k % 64 ≤ 23) ∧ (∀ k e, 0 ≤ k → k < 24 → 0 ≤ e → e < 4 → BS (prS f r a) t 23 k ≤ stE (prS f r a) e + BS (prS f r a) t 23 (nbS k e)) := by
  obtain ⟨z, _, d, hd, _⟩ := P_reachFrom (f := f) (r := r) (a := a) hp (σ := fun _ i => if i = 0 then f else if i = 1 then r else a) ⟨rfl, rfl, rfl⟩ ht
  obtain ⟨h1, h2⟩ := hd.done
  refine ⟨fun k a0 a1 => ?_, fun k e a0 a1 b0 b1 => ?_⟩
  · have := h1 k a0 a1; omega
  · have nr := nbS_r (e := e) ⟨a0, a1⟩
    have := h1 k a0 a1
    have := h1 _ nr.1 nr.2
    have := h2 k e a0 a1 b0 b1
    omega
/-! turning -/
def roS (k s : Int) : Int := if k < 12 then (k + s) % 12 else (k + s) % 12 + 12
theorem roS_r (k s : Int) (hk : 0 ≤ k ∧ k < 24) : 0 ≤ roS k s ∧ roS k s < 24 := by
  unfold roS
  split <;> omega
theorem roS_nb {k s e : Int} (hk : 0 ≤ k ∧ k < 24) (he : 0 ≤ e ∧ e < 4) : nbS (roS k s) e = roS (nbS k e) s := by
  rcases (show e = 0 ∨ e = 1 ∨ e = 2 ∨ e = 3 by omega) with rfl | rfl | rfl | rfl
  all_goals (
    simp only [nbS, roS, reduceIte, Int.reduceEq]
    by_cases c : k < 12
    · simp only [c, if_true]
      repeat' split
      all_goals omega
    · simp only [c, if_false]
      repeat' split
      all_goals omega)
theorem roS_inj {k j s : Int} (hk : 0 ≤ k ∧ k < 24) (hj : 0 ≤ j ∧ j < 24) (h : roS k s = roS j s) : k = j := by
  unfold roS at h
  split at h <;> split at h <;> omega
theorem BS_rot {pr : Int → Int} {t s : Int} (ht : 0 ≤ t ∧ t < 24) : ∀ (r : Nat) (k : Int), 0 ≤ k → k < 24 → BS pr (roS t s) r (roS k s) = BS pr t r k
  | 0, k, a, c => by
    rw [BS, BS]
    by_cases hk : k = t
    · rw [if_pos hk, if_pos (by rw [hk])]
    · rw [if_neg hk, if_neg (fun h => hk (roS_inj ⟨a, c⟩ ht h))]
  | r + 1, k, a, c => by
    have n := fun e => nbS_r (k := k) (e := e) ⟨a, c⟩
    rw [BS, BS, BS_rot ht r k a c, roS_nb ⟨a, c⟩ (e := 0) (by omega), roS_nb ⟨a, c⟩ (e := 1) (by omega), roS_nb ⟨a, c⟩ (e := 2) (by omega), roS_nb ⟨a, c⟩ (e := 3) (by omega), BS_rot ht r _ (n 0).1 (n 0).2, BS_rot ht r _ (n 1).1 (n 1).2, BS_rot ht r _ (n 2).1 (n 2).2, BS_rot ht r _ (n 3).1 (n 3).2]
theorem BS_cs {pr : Int → Int} {t : Int} {r : Nat} {k : Int} : BS pr t (r + 1) k = BS pr t r k ∨ ∃ e, 0 ≤ e ∧ e < 4 ∧ BS pr t (r + 1) k = stE pr e + BS pr t r (nbS k e) := by
  rw [BS]
  rcases Int.min_def (BS pr t r k) (min (min (stE pr 0 + BS pr t r (nbS k 0)) (stE pr 1 + BS pr t r (nbS k 1))) (min (stE pr 2 + BS pr t r (nbS k 2)) (stE pr 3 + BS pr t r (nbS k 3)))) with h
  rw [h]
  split
  · exact Or.inl rfl
  · right
    rw [Int.min_def]
    split
    · rw [Int.min_def]
      split
      · exact ⟨0, by omega, by omega, rfl⟩
      · exact ⟨1, by omega, by omega, rfl⟩
    · rw [Int.min_def]
      split
      · exact ⟨2, by omega, by omega, rfl⟩
      · exact ⟨3, by omega, by omega, rfl⟩
theorem BS_last {pr : Int → Int} (hp : prOK pr) {t' w : Int} (ht : 0 ≤ t' ∧ t' < 24) (hw : 0 ≤ w ∧ w < 4) : ∀ (r : Nat) (k : Int), 0 ≤ k → k < 24 → BS pr (nbS t' w) (r + 1) k ≤ stE pr w + BS pr t' r k
  | 0, k, a, c => by
    rw [show BS pr t' 0 k = if k = t' then 0 else 1000000000 from rfl]
    split
    · next e =>
      subst e
      have := BS_le2 pr (nbS k w) 0 k hw
      rw [BS_t hp] at this
      exact this
    · have := (BS_r hp (nbS t' w) (0 + 1) k).2
      have := hp w
      unfold stE
      omega
  | r + 1, k, a, c => by
    rcases BS_cs (pr := pr) (t := t') (r := r) (k := k) with h | ⟨e, e0, e1, h⟩
    · rw [h]
      exact Int.le_trans (BS_le _ _ _ _) (BS_last hp ht hw r k a c)
    · rw [h]
      have n := nbS_r (k := k) (e := e) ⟨a, c⟩
      have h1 := BS_le2 pr (nbS t' w) (r + 1) k ⟨e0, e1⟩
      have h2 := BS_last hp ht hw r (nbS k e) n.1 n.2
      omega
theorem BS_sle {f r a : Int} (hp : prOK (prS f r a)) : ∀ (n : Nat) (t k : Int), 0 ≤ t ∧ t < 24 → 0 ≤ k ∧ k < 24 → BS (prS f r a) k n t ≤ BS (prS f r a) t n k
  | 0, t, k, ht, hk => by
    rw [BS, BS]
    by_cases c : k = t
    · rw [if_pos c, if_pos c.symm]; exact Int.le_refl _
    · rw [if_neg c, if_neg (fun h => c h.symm)]; exact Int.le_refl _
  | n + 1, t, k, ht, hk => by
    rcases BS_cs (pr := prS f r a) (t := t) (r := n) (k := k) with h | ⟨e, e0, e1, h⟩
    · rw [h]
      exact Int.le_trans (BS_le _ _ _ _) (BS_sle hp n t k ht hk)
    · rw [h]
      have nr := nbS_r (k := k) (e := e) hk
      have h1 := BS_sle hp n t (nbS k e) ht nr
      have h2 := BS_last hp (t' := nbS k e) (w := ivE e) nr (ivE_r ⟨e0, e1⟩) n t ht.1 ht.2
      rw [nb_iv hk ⟨e0, e1⟩, prS_iv f r a ⟨e0, e1⟩] at h2
      omega
theorem BS_sym {f r a : Int} (hp : prOK (prS f r a)) (n : Nat) {t k : Int} (ht : 0 ≤ t ∧ t < 24) (hk : 0 ≤ k ∧ k < 24) : BS (prS f r a) k n t = BS (prS f r a) t n k := Int.le_antisymm (BS_sle hp n t k ht hk) (BS_sle hp n k t hk ht)
/-- every key is reached -/
theorem BS_fin {f r a : Int} (hp : prOK (prS f r a)) {t k : Int} (ht : 0 ≤ t ∧ t < 24) (hk : 0 ≤ k ∧ k < 24) : BS (prS f r a) t 23 k ≤ 767244 := by
  obtain ⟨_, h2⟩ := dOK hp ht
  have h0 := BS_t hp t 23
  generalize BS (prS f r a) t 23 = d at h0 h2 ⊢
  have hs : ∀ e, stE (prS f r a) e ≤ 63937 := fun e => by have := hp e; unfold stE; omega
  have ch : ∀ j : Nat, d (roS t (5 * j)) ≤ 63937 * j := by
    intro j
    induction j with
    | zero =>
      have e : roS t (5 * ((0 : Nat) : Int)) = t := by unfold roS; split <;> omega
      rw [e, h0]; omega
    | succ j ih =>
      have rr := roS_r t (5 * ((j + 1 : Nat) : Int)) ht
      have h3 := h2 _ 0 rr.1 rr.2 (by omega) (by omega)
      have e : nbS (roS t (5 * ((j + 1 : Nat) : Int))) 0 = roS t (5 * (j : Int)) := by
        simp only [nbS, roS, if_true]
        by_cases c : t < 12
        · simp only [c, if_true]
          split <;> omega
        · simp only [c, if_false]
          split <;> omega
      rw [e] at h3
      have := hs 0
      omega
  have same : ∀ x, 0 ≤ x → x < 24 → (x < 12 ↔ t < 12) → d x ≤ 703307 := by
    intro x x0 x1 hx
    have e : roS t (5 * (((5 * (x - t)) % 12).toNat : Int)) = x := by
      unfold roS
      split <;> omega
    have := ch ((5 * (x - t)) % 12).toNat
    rw [e] at this
    omega
  by_cases c : (k < 12 ↔ t < 12)
  · have := same k hk.1 hk.2 c; omega
  · have h3 := h2 k 3 hk.1 hk.2 (by omega) (by omega)
    have nr := nbS_r (k := k) (e := 3) hk
    have h4 := same (nbS k 3) nr.1 nr.2 (by
      simp only [nbS, Int.reduceEq, if_false]
      split <;> omega)
    have := hs 3
    omega
