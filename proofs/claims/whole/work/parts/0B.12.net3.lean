/-! ===== distances and ways ===== -/
def prB (b : KB) : Int → Int := prS (bf b) (br b) (ba b)
theorem prB_ok {b : KB} (hb : kB b) : prOK (prB b) := by
  have := hb.2.2.2.2
  exact prS_ok ⟨⟨by omega, by omega⟩, ⟨by omega, by omega⟩, ⟨by omega, by omega⟩⟩
def dR (b : KB) (fr to : Int) : Int := BS (prB b) to 23 fr
def dS (b : KB) (fr to : Int) : Int := dR b fr to / 64
theorem dR_r {b : KB} (hb : kB b) {fr to : Int} (h1 : 0 ≤ fr ∧ fr < 24) (h2 : 0 ≤ to ∧ to < 24) : 0 ≤ dR b fr to ∧ dR b fr to ≤ 767244 ∧ dR b fr to % 64 ≤ 23 := by
  have hp := prB_ok hb
  have := BS_fin hp h2 h1
  have := (dOK hp h2).1 fr h1.1 h1.2
  have := BS_r hp to 23 fr
  unfold dR
  unfold prB at *
  omega
theorem dS_r {b : KB} (hb : kB b) {fr to : Int} (h1 : 0 ≤ fr ∧ fr < 24) (h2 : 0 ≤ to ∧ to < 24) : 0 ≤ dS b fr to ∧ dS b fr to ≤ 12000 := by
  have := dR_r hb h1 h2
  unfold dS
  omega
theorem dR_s {b : KB} (hb : kB b) (k : Int) : dR b k k = 0 := BS_t (prB_ok hb) k 23
theorem dS_s {b : KB} (hb : kB b) (k : Int) : dS b k k = 0 := by
  unfold dS
  rw [dR_s hb]
  rfl
theorem dR_fix {b : KB} (hb : kB b) {k t e : Int} (hk : 0 ≤ k ∧ k < 24) (ht : 0 ≤ t ∧ t < 24) (he : 0 ≤ e ∧ e < 4) : dR b k t ≤ stE (prB b) e + dR b (nbS k e) t := (dOK (prB_ok hb) ht).2 k e hk.1 hk.2 he.1 he.2
theorem BS_real {pr : Int → Int} {t k : Int} (hk : k ≠ t) : ∀ r : Nat, r ≤ 23 → BS pr t r k < 1000000000 → ∃ e, (0 ≤ e ∧ e < 4) ∧ stE pr e + BS pr t 23 (nbS k e) ≤ BS pr t r k
  | 0, _, h => by rw [BS, if_neg hk] at h; omega
  | r + 1, hr, h => by
    rcases BS_cs (pr := pr) (t := t) (r := r) (k := k) with c | ⟨e, e0, e1, c⟩
    · rw [c] at h ⊢
      exact BS_real hk r (by omega) h
    · refine ⟨e, ⟨e0, e1⟩, ?_⟩
      rw [c]
      have := BS_anti pr t (nbS k e) r (23 - r)
      rw [show r + (23 - r) = 23 by omega] at this
      omega
theorem dR_real {b : KB} (hb : kB b) {k t : Int} (hk : 0 ≤ k ∧ k < 24) (ht : 0 ≤ t ∧ t < 24) (hn : k ≠ t) : ∃ e, (0 ≤ e ∧ e < 4) ∧ dR b k t = stE (prB b) e + dR b (nbS k e) t := by
  obtain ⟨e, he, h⟩ := BS_real (pr := prB b) hn 23 (by omega) (by have := dR_r hb hk ht; unfold dR at this; omega)
  exact ⟨e, he, Int.le_antisymm (dR_fix hb hk ht he) h⟩
/-! the next key on the way, and the way -/
def nxL (b : KB) (k t : Int) : Nat → Int
  | 0 => 24
  | i + 1 => if dR b k t = stE (prB b) i + dR b (nbS k i) t ∧ nbS k i < nxL b k t i then nbS k i else nxL b k t i
theorem nxL_r {b : KB} {k t : Int} (hk : 0 ≤ k ∧ k < 24) : ∀ i : Nat, i ≤ 4 → (nxL b k t i = 24 ∨ ∃ e, (0 ≤ e ∧ e < i) ∧ nxL b k t i = nbS k e ∧ dR b k t = stE (prB b) e + dR b (nbS k e) t) ∧ (∀ e : Int, 0 ≤ e → e < i → dR b k t = stE (prB b) e + dR b (nbS k e) t → nxL b k t i < 24)
  | 0, _ => ⟨Or.inl rfl, fun e a c => by omega⟩
  | i + 1, hi => by
    obtain ⟨h1, h2⟩ := nxL_r hk i (by omega)
    have n := nbS_r (k := k) (e := i) hk
    rw [nxL]
    by_cases c : dR b k t = stE (prB b) i + dR b (nbS k i) t ∧ nbS k i < nxL b k t i
    · rw [if_pos c]
      exact ⟨Or.inr ⟨i, by omega, rfl, c.1⟩, fun _ _ _ _ => n.2⟩
    · rw [if_neg c]
      refine ⟨?_, fun e a e1 h => ?_⟩
      · rcases h1 with h1 | ⟨e, he, h1⟩
        · exact Or.inl h1
        · exact Or.inr ⟨e, by omega, h1⟩
      · by_cases ce : e = i
        · subst ce
          have : ¬ nbS k i < nxL b k t i := fun h3 => c ⟨h, h3⟩
          omega
        · exact h2 e a (by omega) h
theorem nxL_n {b : KB} (hb : kB b) {k t : Int} (hk : 0 ≤ k ∧ k < 24) (ht : 0 ≤ t ∧ t < 24) (hn : k ≠ t) : (0 ≤ nxL b k t 4 ∧ nxL b k t 4 < 24) ∧ dR b (nxL b k t 4) t % 64 = dR b k t % 64 - 1 := by
  obtain ⟨e0, he0, h0⟩ := dR_real hb hk ht hn
  obtain ⟨h1, h2⟩ := nxL_r (b := b) (k := k) (t := t) hk 4 (by omega)
  have h3 := h2 e0 he0.1 (by omega) h0
  rcases h1 with h1 | ⟨e, he, h4, h5⟩
  · omega
  · have n := nbS_r (k := k) (e := e) hk
    rw [h4]
    refine ⟨n, ?_⟩
    have r1 := dR_r hb hk ht
    have r2 := dR_r hb n ht
    unfold stE at h5
    omega
def wyS (b : KB) (fr to : Int) : Nat → Int
  | 0 => fr
  | j + 1 => nxL b (wyS b fr to j) to 4
theorem wyS_r {b : KB} (hb : kB b) {fr to : Int} (h1 : 0 ≤ fr ∧ fr < 24) (h2 : 0 ≤ to ∧ to < 24) : ∀ j : Nat, (j : Int) ≤ dR b fr to % 64 → (0 ≤ wyS b fr to j ∧ wyS b fr to j < 24) ∧ dR b (wyS b fr to j) to % 64 = dR b fr to % 64 - j
  | 0, _ => ⟨h1, by simp [wyS]⟩
  | j + 1, h => by
    obtain ⟨a, c⟩ := wyS_r hb h1 h2 j (by omega)
    have hn : wyS b fr to j ≠ to := fun e => by
      rw [e, dR_s hb] at c
      omega
    have := nxL_n hb a h2 hn
    rw [wyS]
    omega
def qDist (b : KB) (fr to : Int) : Int := if (fr < 0 ∨ 23 < fr) ∨ (to < 0 ∨ 23 < to) then -2 else bx b * dS b fr to
def qWay (b : KB) (fr to k : Int) : Int := if (fr < 0 ∨ 23 < fr) ∨ (to < 0 ∨ 23 < to) then -2 else if k < 0 then -3 else if dR b fr to % 64 < k then -1 else wyS b fr to k.toNat
/-! the reference -/
def mD (M : KM) (d : Int → Int) : Prop := ∀ k, 0 ≤ k → k < 24 → (d k = 1000000000 ∧ M 56 k = 1000000000) ∨ (d k < 1000000000 ∧ M 56 k = d k / 64 ∧ M 57 k = d k % 64)
def mcE (pr : Int → Int) (t : Int) (d0 : Int → Int) (σ : KM) (key e fl : Int) (M : KM) : Prop := ∃ d, M 10 = σ 10 ∧ mD M d ∧ psE pr t d0 d fl ∧ ∀ k' e', 0 ≤ k' → k' < 24 → 0 ≤ e' → e' < 4 → (k' < key ∨ (k' = key ∧ e' < e)) → d k' ≤ stE pr e' + d0 (nbS k' e')
theorem mcE.skip {pr : Int → Int} {t : Int} {d0 : Int → Int} {σ : KM} {key : Int} {l : Nat} {fl : Int} {M : KM} {d : Int → Int} (g7 : M 10 = σ 10) (gm : mD M d) (gp : psE pr t d0 d fl) (ga : ∀ k' e', 0 ≤ k' → k' < 24 → 0 ≤ e' → e' < 4 → (k' < key ∨ (k' = key ∧ e' < (l : Int))) → d k' ≤ stE pr e' + d0 (nbS k' e')) (hk : 0 ≤ key ∧ key < 24) (h : d key ≤ stE pr l + d (nbS key l)) : mcE pr t d0 σ key ((l + 1 : Nat) : Int) fl M := by
  refine ⟨d, g7, gm, gp, fun k' e' a0 a1 b0 b1 hx => ?_⟩
  by_cases hl2 : k' = key ∧ e' = l
  · rw [hl2.1, hl2.2]
    have nr := nbS_r (k := key) (e := l) hk
    have := gp.2.1 _ nr.1 nr.2
    omega
  · exact ga k' e' a0 a1 b0 b1 (by omega)
theorem mcE.up {pr : Int → Int} (hp : prOK pr) {t : Int} {d0 : Int → Int} {σ : KM} {key : Int} {l : Nat} {fl : Int} {M M' : KM} {d : Int → Int} (g7 : M' 10 = σ 10) (gm : mD M d) (gp : psE pr t d0 d fl) (ga : ∀ k' e', 0 ≤ k' → k' < 24 → 0 ≤ e' → e' < 4 → (k' < key ∨ (k' = key ∧ e' < (l : Int))) → d k' ≤ stE pr e' + d0 (nbS k' e')) (hk : 0 ≤ key ∧ key < 24) (hl : l < 4) (h : d (nbS key l) + stE pr l < d key) (hm : ∀ k, k ≠ key → M' 56 k = M 56 k ∧ M' 57 k = M 57 k) (hm1 : M' 56 key = d (nbS key l) / 64 + pr l) (hm2 : M' 57 key = d (nbS key l) % 64 + 1) : mcE pr t d0 σ key ((l + 1 : Nat) : Int) 1 M' := by
  have nr := nbS_r (k := key) (e := l) hk
  have n2 := nV_r gp.1 nr
  have nk := nV_r gp.1 hk
  have hpl := hp l
  have hst : stE pr l = 64 * pr l + 1 := rfl
  refine ⟨upK d key (d (nbS key l) + stE pr l), g7, ?_, psE.up hp gp hk (by omega) nr rfl h, fun k' e' a0 a1 b0 b1 hx => ?_⟩
  · intro k a c
    unfold upK
    by_cases e : k = key
    · rw [if_pos e, e, hm1, hm2]
      refine Or.inr ⟨by omega, by omega, by omega⟩
    · rw [if_neg e, (hm k e).1, (hm k e).2]
      exact gm k a c
  · by_cases hl2 : k' = key ∧ e' = l
    · rw [hl2.1, hl2.2]
      have e3 : upK d key (d (nbS key l) + stE pr l) key = d (nbS key l) + stE pr l := by simp [upK]
      have := gp.2.1 _ nr.1 nr.2
      omega
    · exact Int.le_trans (upK_le (by omega) _) (ga k' e' a0 a1 b0 b1 (by omega))
theorem M_laysFar {b : KB} (hb : kB b) {σ : KM} (hm : mB b σ) {t : Int} (ht : 0 ≤ t ∧ t < 24) : kT (fM_laysFar t σ) (fun z => ∀ k, 0 ≤ k → k < 24 → z.2 56 k = dS b k t ∧ z.2 57 k = dR b k t % 64) := by
  have hp := prB_ok hb
  have hq : σ 10 13 = bf b ∧ σ 10 14 = br b ∧ σ 10 15 = ba b := ⟨hm.2.2.2.2.1, hm.2.2.2.2.2.1, hm.2.2.2.2.2.2.1⟩
  have hEnd : ∀ (d : Int → Int) (M : KM) (i : Nat), mD M d → rnE (prB b) t i d 0 → ∀ k, 0 ≤ k → k < 24 → M 56 k = dS b k t ∧ M 57 k = dR b k t % 64 := by
    intro d M i hd hr k a c
    have h1 := (hr.done).1 k a c
    have h2 := dR_r hb ⟨a, c⟩ ht
    have e : dR b k t = d k := h1.1.symm
    unfold dS
    rw [e] at h2 ⊢
    rcases hd k a c with h | h
    · omega
    · exact ⟨h.2.1, h.2.2⟩
  unfold fM_laysFar fM_laysFar_L2
  refine kT_for (fun i s => ∃ M, s = ((i : Int), M) ∧ M 10 = σ 10 ∧ ∀ k : Int, 0 ≤ k → k < (i : Int) → M 56 k = 1000000000) 24 ?_ ?_ 0 (by omega) kF _ ⟨σ, rfl, rfl, fun k a c => by omega⟩ (kF_lt (by omega))
  · rintro i s hi ⟨M, rfl, h10, h56⟩
    show kT (fM_laysFar_B2 t i M) _
    unfold fM_laysFar_B2
    refine kT_ltt (by omega) (by omega) (kT_wr (by omega) (kT_let (kT_inl ?_)))
    refine ⟨_, rfl, h10, fun k a c => ?_⟩
    rw [ks_ap]
    by_cases e : k = i
    · rw [if_pos ⟨rfl, e⟩]
    · rw [if_neg (fun h => e h.2)]; exact h56 k a (by omega)
  · rintro s ⟨M0, rfl, h10, h56⟩
    show kT (fM_laysFar_B2 t 24 M0) _
    unfold fM_laysFar_B2 fM_laysFar_J22 fM_laysFar_L38
    refine kT_ltf (by omega) (by omega) (kT_exit (kT_wr (by omega) (kT_wr (by omega) ?_)))
    refine kT_for (fun i s => ∃ d fl M, s = (fl, M) ∧ M 10 = σ 10 ∧ mD M d ∧ rnE (prB b) t i d fl ∧ (fl = 0 ∨ fl = 1)) 24 ?_ ?_ 0 (by omega) kF _ ?_ (kF_lt (by omega))
    · rintro i s hi ⟨d0, fl, M, rfl, h7, h32, hr, hfl⟩
      show kT (fM_laysFar_B38 fl M) _
      unfold fM_laysFar_B38 fM_laysFar_J183
      refine kT_eq (by omega) (by omega) (fun c => ?_) (fun c => ?_)
      · subst c
        exact kT_exit (kT_ri (hEnd d0 M i h32 hr))
      · have e1 : fl = 1 := by omega
        subst e1
        unfold fM_laysFar_L46
        refine kT_for (fun j s => ∃ fl M, s = (fl, (j : Int), M) ∧ mcE (prB b) t d0 σ j 0 fl M) 24 ?_ ?_ 0 (by omega) kF _ ?_ (kF_lt (by omega))
        · rintro j s hj ⟨fl, M, rfl, hm⟩
          show kT (fM_laysFar_B46 fl j M) _
          unfold fM_laysFar_B46 fM_laysFar_L55
          refine kT_ltt (by omega) (by omega) ?_
          refine kT_for (fun l s => ∃ fl M, s = (fl, (l : Int), M) ∧ mcE (prB b) t d0 σ j l fl M) 4 ?_ ?_ 0 (by omega) kF _ ⟨fl, M, rfl, hm⟩ (kF_lt (by omega))
          · rintro l s hl ⟨fl, M, rfl, d, g7, gm, gp, ga⟩
            show kT (fM_laysFar_B55 j fl l M) _
            unfold fM_laysFar_B55 fM_laysFar_J168 fM_laysFar_J143
            have nr := nbS_r (k := j) (e := l) (by omega)
            have n1 := nV_r gp.1 (k := j) (by omega)
            have n2 := nV_r gp.1 nr
            have m1 := gm j (by omega) (by omega)
            have m2 := gm _ nr.1 nr.2
            have hs := hp l
            have hst : stE (prB b) l = 64 * prB b l + 1 := rfl
            refine kT_ltt (by omega) (by omega) ?_
            refine kT_callE (M_next (by omega) (by omega) M) ?_
            refine kT_rd (by omega) ?_
            refine kT_eq (by omega) (by omega) (fun c => ?_) (fun c => ?_)
            · refine kT_let (kT_inl ⟨_, _, rfl, mcE.skip g7 gm gp ga (by omega) (by omega)⟩)
            · refine kT_rd (by omega) ?_
              refine kT_callE (M_costs (by rw [g7]; exact hq) (by omega)) (kT_let (kT_rd (by omega) ?_))
              change kT (kLt (M 56 j) (M 56 (nbS j l) + prB b l) _ _) _
              refine kT_lt (by omega) (by omega) (fun c2 => ?_) (fun c2 => ?_)
              · refine kT_let (kT_inl ⟨_, _, rfl, mcE.skip g7 gm gp ga (by omega) (by omega)⟩)
              · refine kT_rd (by omega) ?_
                change kT (kEq (M 56 (nbS j l) + prB b l) _ _ _) _
                refine kT_eq (by omega) (by omega) (fun c3 => ?_) (fun c3 => ?_)
                · refine kT_rd (by omega) (kT_rd (by omega) ?_)
                  refine kT_lt (by omega) (by omega) (fun c4 => ?_) (fun c4 => ?_)
                  · have hlt : nbS j l ≠ j := fun e => by rw [e] at c4; omega
                    refine kT_wr (by omega) (kT_rd (by omega) (kT_wr (by omega) (kT_let (kT_inl ?_))))
                    refine ⟨_, _, rfl, mcE.up hp g7 gm gp ga (by omega) hl (by omega) (fun k hk => ⟨?_, ?_⟩) ?_ ?_⟩
                    · rw [ks_c (by decide), ks_i hk]
                    · rw [ks_i hk, ks_c (by decide)]
                    · rw [ks_c (by decide), ks_s]
                      change M 56 (nbS j l) + prB b l = _
                      omega
                    · rw [ks_s, ks_c (by decide)]
                      omega
                  · refine kT_let (kT_inl ⟨_, _, rfl, mcE.skip g7 gm gp ga (by omega) (by omega)⟩)
                · refine kT_wr (by omega) (kT_rd (by omega) (kT_wr (by omega) (kT_let (kT_inl ?_))))
                  refine ⟨_, _, rfl, mcE.up hp g7 gm gp ga (by omega) hl (by omega) (fun k hk => ⟨?_, ?_⟩) ?_ ?_⟩
                  · rw [ks_c (by decide), ks_i hk]
                  · rw [ks_i hk, ks_c (by decide)]
                  · rw [ks_c (by decide), ks_s]
                    change M 56 (nbS j l) + prB b l = _
                    omega
                  · rw [ks_s, ks_c (by decide)]
                    omega
          · rintro s ⟨fl, M, rfl, d, g7, g32, gp, ga⟩
            show kT (fM_laysFar_B55 j fl 4 M) _
            unfold fM_laysFar_B55 fM_laysFar_J174
            refine kT_ltf (by omega) (by omega) (kT_exit (kT_let (kT_inl ?_)))
            exact ⟨fl, M, rfl, d, g7, g32, gp, fun k' e' a0 a1 b0 b1 hx => ga k' e' a0 a1 b0 b1 (by omega)⟩
        · rintro s ⟨fl, M, rfl, d, g7, g32, gp, ga⟩
          show kT (fM_laysFar_B46 fl 24 M) _
          unfold fM_laysFar_B46 fM_laysFar_J180
          refine kT_ltf (by omega) (by omega) (kT_exit (kT_inl ?_))
          exact ⟨d, fl, M, rfl, g7, g32, rnE.next hr gp (fun k e a0 a1 b0 b1 => ga k e a0 a1 b0 b1 (by omega)), gp.2.2.1⟩
        · exact ⟨0, M, rfl, d0, h7, h32, ⟨hr.1, fun k _ _ => Int.le_refl _, by omega, fun _ k _ _ => rfl, fun c => by omega⟩, fun k' e' a0 a1 b0 b1 hx => by omega⟩
    · rintro s ⟨d0, fl, M, rfl, h7, h32, hr, hfl⟩
      have c : fl = 0 := by
        rcases hr.2 with h | h
        · exact h.1
        · omega
      subst c
      show kT (fM_laysFar_B38 0 M) _
      unfold fM_laysFar_B38 fM_laysFar_J183
      exact kT_eqt rfl (by omega) (kT_exit (kT_ri (hEnd d0 M 24 h32 hr)))
    · refine ⟨d0S t, 1, _, rfl, h10, fun k a0 a1 => ?_, rnE.init _, by omega⟩
      unfold d0S
      by_cases hk : k = t
      · rw [if_pos hk, hk, ks_c (by decide), ks_s, ks_s]
        exact Or.inr ⟨by omega, by omega, by omega⟩
      · rw [if_neg hk, ks_c (by decide), ks_i hk]
        exact Or.inl ⟨rfl, h56 k a0 a1⟩
