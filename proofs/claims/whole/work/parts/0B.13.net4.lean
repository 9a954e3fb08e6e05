/-! ===== THE NET laid out; distance and way ===== -/
def nOK (b : KB) (σ : KM) : Prop := ∀ fr to, 0 ≤ fr → fr < 24 → 0 ≤ to → to < 24 → σ 31 (fr * 24 + to) = dR b fr to ∧ σ 30 (fr * 24 + to) = dS b fr to
def nC (b : KB) (σ : KM) : Prop := (σ 7 4 = 0 ∧ nOK b σ) ∨ σ 7 4 = 1
theorem nOK.fr {b : KB} {W : List (Nat × Option Int)} {σ τ : KM} (h : nOK b σ) (hf : kFr W σ τ) (hk : kKeep W [30, 31] [] = true) : nOK b τ := by
  have c30 := kKeep.cell hk hf (c := 30) (by decide)
  have c31 := kKeep.cell hk hf (c := 31) (by decide)
  unfold nOK
  rw [c30, c31]
  exact h
theorem M_laysNet {b : KB} (hb : kB b) {σ : KM} (hm : mB b σ) : kT (fM_laysNet σ) (fun z => ∀ k to, 0 ≤ k → k < 24 → 0 ≤ to → to < 24 → z.2 58 (24 * k + to) = dS b k to) := by
  unfold fM_laysNet fM_laysNet_L2
  refine kT_for (fun i s => ∃ M, s = ((i : Int), M) ∧ kFr wfM_laysNet σ M ∧ ∀ k to : Int, 0 ≤ k → k < 24 → 0 ≤ to → to < (i : Int) → M 58 (24 * k + to) = dS b k to) 24 ?_ ?_ 0 (by omega) kF _ ⟨σ, rfl, kFr.rf, fun k to _ _ a c => by omega⟩ (kF_lt (by omega))
  · rintro i s hi ⟨M, rfl, hf, h⟩
    have hmM := hm.fr hf rfl
    show kT (fM_laysNet_B2 i M) _
    unfold fM_laysNet_B2
    refine kT_ltt (by omega) (by omega) ?_
    refine kT_callT (kT.fr (M_laysFar hb hmM (t := i) (by omega)) (rfM_laysFar i M)) (fun r τ hz => ?_)
    obtain ⟨hz, hf2⟩ := hz
    dsimp only at hz hf2
    have c58 : τ 58 = M 58 := hf2.cell rfl
    unfold fM_laysNet_L15
    refine kT_for (fun j s => ∃ M', s = ((j : Int), M') ∧ kFr wfM_laysNet σ M' ∧ M' 56 = τ 56 ∧ (∀ k to : Int, 0 ≤ k → k < 24 → 0 ≤ to → to < (i : Int) → M' 58 (24 * k + to) = dS b k to) ∧ (∀ k : Int, 0 ≤ k → k < (j : Int) → M' 58 (24 * k + i) = dS b k i)) 24 ?_ ?_ 0 (by omega) kF _ ?_ (kF_lt (by omega))
    · rintro j s hj ⟨M', rfl, hf3, h56, h58, h59⟩
      show kT (fM_laysNet_B15 i j M') _
      unfold fM_laysNet_B15
      refine kT_ltt (by omega) (by omega) (kT_rd (by omega) (kT_wr (by omega) (kT_let (kT_inl ?_))))
      refine ⟨_, rfl, hf3.put rfl, h56, fun k to a0 a1 b0 b1 => ?_, fun k a0 a1 => ?_⟩
      · rw [ks_i (by omega)]; exact h58 k to a0 a1 b0 b1
      · by_cases e : k = j
        · rw [e, ks_s, h56]; exact (hz j (by omega) (by omega)).1
        · rw [ks_i (by omega)]; exact h59 k a0 (by omega)
    · rintro s ⟨M', rfl, hf3, h56, h58, h59⟩
      show kT (fM_laysNet_B15 i 24 M') _
      unfold fM_laysNet_B15 fM_laysNet_J44
      refine kT_ltf (by omega) (by omega) (kT_exit (kT_let (kT_inl ?_)))
      refine ⟨M', rfl, hf3, fun k to a0 a1 b0 b1 => ?_⟩
      by_cases e : to = i
      · rw [e]; exact h59 k a0 (by omega)
      · exact h58 k to a0 a1 b0 (by omega)
    · exact ⟨τ, rfl, hf.trans (hf2.mono rfl), rfl, fun k to a0 a1 b0 b1 => by rw [c58]; exact h k to a0 a1 b0 b1, fun k a0 a1 => by omega⟩
  · rintro s ⟨M, rfl, hf, h⟩
    show kT (fM_laysNet_B2 24 M) _
    unfold fM_laysNet_B2 fM_laysNet_J50
    exact kT_ltf (by omega) (by omega) (kT_exit (kT_ri h))
theorem P_raised {k s m : Int} (hk : 0 ≤ k ∧ k < 24) (hs : 0 ≤ s ∧ s < 24) (hm : m = if k < 12 then 0 else 1) (σ : KM) : fNe_raised k s m σ = some (roS k s, σ) := by
  refine kT.eq ?_
  unfold fNe_raised
  refine kT_rm (by omega) (by omega) (by omega) (kT_ri ?_)
  rw [tmod_e (by omega), hm]
  unfold roS
  split
  · refine Prod.ext ?_ rfl
    dsimp only
    omega
  · refine Prod.ext ?_ rfl
    dsimp only
    omega
theorem P_copyRow {σ : KM} {g : Int → Int} {fr s : Int} (h : ∀ k, 0 ≤ k → k < 24 → σ 32 k = g k ∧ 0 ≤ g k ∧ g k ≤ 1000000000) (hf : 0 ≤ fr ∧ fr < 24) (hs : 0 ≤ s ∧ s < 12) : kT (fNe_copyRow fr s σ) (fun z => (∀ k, 0 ≤ k → k < 24 → z.2 31 (fr * 24 + roS k s) = g k ∧ z.2 30 (fr * 24 + roS k s) = g k / 64) ∧ ∀ j, j < fr * 24 ∨ fr * 24 + 24 ≤ j → z.2 31 j = σ 31 j ∧ z.2 30 j = σ 30 j) := by
  unfold fNe_copyRow fNe_copyRow_L2
  refine kT_for (fun i s' => ∃ M, s' = ((i : Int), M) ∧ M 32 = σ 32 ∧ (∀ k : Int, 0 ≤ k → k < (i : Int) → M 31 (fr * 24 + roS k s) = g k ∧ M 30 (fr * 24 + roS k s) = g k / 64) ∧ ∀ j, j < fr * 24 ∨ fr * 24 + 24 ≤ j → M 31 j = σ 31 j ∧ M 30 j = σ 30 j) 24 ?_ ?_ 0 (by omega) kF _ ⟨σ, rfl, rfl, fun k a c => by omega, fun j _ => ⟨rfl, rfl⟩⟩ (kF_lt (by omega))
  · rintro i s' hi ⟨M, rfl, h32, hk, ho⟩
    have r := roS_r i s (by omega)
    obtain ⟨g1, g2, g3⟩ := h i (by omega) (by omega)
    show kT (fNe_copyRow_B2 fr s i M) _
    unfold fNe_copyRow_B2
    refine kT_ltt (by omega) (by omega) ?_
    refine kT_callE (P_modeOf (by omega) M) ?_
    refine kT_callE (P_raised (by omega) (by omega) rfl M) ?_
    refine kT_let (kT_rd (by omega) (kT_wr (by omega) (kT_rd (by omega) ?_)))
    rw [h32, ks_c (by decide), h32, g1]
    refine kT_dv (by omega) (by omega) (by omega) ?_
    rw [tdiv_e g2]
    refine kT_wr (by omega) (kT_let (kT_inl ⟨_, rfl, ?_, fun k a0 a1 => ?_, fun j hj => ?_⟩))
    · exact h32
    · by_cases e : k = i
      · rw [e, ks_c (by decide), ks_s, ks_s]
        exact ⟨rfl, rfl⟩
      · have r2 := roS_r k s (by omega)
        have n : roS k s ≠ roS i s := fun c => e (roS_inj (by omega) (by omega) c)
        rw [ks_c (by decide), ks_i (by omega), ks_i (by omega), ks_c (by decide)]
        exact hk k a0 (by omega)
    · rw [ks_c (by decide), ks_i (by omega), ks_i (by omega), ks_c (by decide)]
      exact ho j hj
  · rintro s' ⟨M, rfl, h32, hk, ho⟩
    show kT (fNe_copyRow_B2 fr s 24 M) _
    unfold fNe_copyRow_B2 fNe_copyRow_J59
    exact kT_ltf (by omega) (by omega) (kT_exit (kT_ri ⟨fun k a c => hk k a (by omega), ho⟩))
theorem roS_on {x s : Int} (hx : 0 ≤ x ∧ x < 24) : roS (roS x ((12 - s) % 12)) s = x := by
  unfold roS
  by_cases c : x < 12
  · rw [if_pos c, if_pos (by omega)]; omega
  · rw [if_neg c, if_neg (by omega)]; omega
theorem row_dR {b : KB} (hb : kB b) {m s x : Int} (hm : m = 0 ∨ m = 1) (hs : 0 ≤ s ∧ s < 12) (hx : 0 ≤ x ∧ x < 24) : BS (prB b) (m * 12) 23 (roS x ((12 - s) % 12)) = dR b (m * 12 + s) x := by
  have r := roS_r x ((12 - s) % 12) hx
  have e : roS (m * 12) s = m * 12 + s := by
    unfold roS
    rcases hm with rfl | rfl
    · rw [if_pos (by omega)]; omega
    · rw [if_neg (by omega)]; omega
  have h := BS_rot (pr := prB b) (t := m * 12) (s := s) (by omega) 23 _ r.1 r.2
  rw [roS_on hx, e] at h
  rw [← h]
  unfold dR
  exact BS_sym (prB_ok hb) 23 hx (by omega)
theorem P_refresh {b : KB} (hb : kB b) {σ : KM} (hc : cB b σ) (hn : nC b σ) : kT (fNe_refresh σ) (fun z => (nOK b z.2 ∧ z.2 7 4 = 0) ∧ kFr wfNe_refresh σ z.2) := by
  refine kT.fr ?_ (rfNe_refresh σ)
  unfold fNe_refresh fNe_refresh_L10
  refine kT_eq (by rcases hn with h | h <;> omega) (by omega) (fun c => ?_) (fun c => ?_)
  · rcases hn with h | h
    · exact kT_ri ⟨h.2, h.1⟩
    · omega
  refine kT_for (fun i s => ∃ M, s = ((i : Int), M) ∧ kFr wfNe_refresh σ M ∧ ∀ fr to : Int, 0 ≤ fr → fr < 12 * (i : Int) → 0 ≤ to → to < 24 → M 31 (fr * 24 + to) = dR b fr to ∧ M 30 (fr * 24 + to) = dS b fr to) 2 ?_ ?_ 0 (by omega) kF _ ⟨σ, rfl, kFr.rf, fun fr to _ _ a c => by omega⟩ (kF_lt (by omega))
  · rintro i s hi ⟨M, rfl, hf, h⟩
    have hcM := hc.fr hf rfl
    show kT (fNe_refresh_B10 i M) _
    unfold fNe_refresh_B10
    refine kT_ltt (by omega) (by omega) ?_
    refine kT_callT (kT.fr (P_reachFrom (prB_ok hb) ⟨hcM.2.2.2.2.1, hcM.2.2.2.2.2.1, hcM.2.2.2.2.2.2.1⟩ (t := i * 12) (by omega)) (rfNe_reachFrom (i * 12) M)) (fun r τ hz => ?_)
    obtain ⟨⟨d, hd, hz⟩, hf2⟩ := hz
    dsimp only at hz hf2
    have hD := (hd.done).1
    have c30 : τ 30 = M 30 := hf2.cell rfl
    have c31 : τ 31 = M 31 := hf2.cell rfl
    unfold fNe_refresh_L25
    refine kT_for (fun j s => ∃ M', s = ((j : Int), M') ∧ kFr wfNe_refresh σ M' ∧ M' 32 = τ 32 ∧ (∀ fr to : Int, 0 ≤ fr → fr < 12 * (i : Int) + j → 0 ≤ to → to < 24 → M' 31 (fr * 24 + to) = dR b fr to ∧ M' 30 (fr * 24 + to) = dS b fr to)) 12 ?_ ?_ 0 (by omega) kF _ ?_ (kF_lt (by omega))
    · rintro j s hj ⟨M', rfl, hf3, h32, h31⟩
      show kT (fNe_refresh_B25 i j M') _
      unfold fNe_refresh_B25
      refine kT_ltt (by omega) (by omega) ?_
      refine kT_callT (kT.fr (P_copyRow (g := d) (fr := i * 12 + j) (s := j) (fun k a0 a1 => ⟨by rw [h32]; exact hz k a0 a1, by have := nV_r hd.1 ⟨a0, a1⟩; omega⟩) (by omega) (by omega)) (rfNe_copyRow (i * 12 + j) j M')) (fun r τ2 hz2 => ?_)
      obtain ⟨⟨q1, q2⟩, hf4⟩ := hz2
      dsimp only at q1 q2 hf4
      have c32 : τ2 32 = M' 32 := hf4.cell rfl
      refine kT_let (kT_inl ⟨τ2, rfl, hf3.trans (hf4.mono rfl), by rw [c32, h32], fun fr to a0 a1 b0 b1 => ?_⟩)
      by_cases e : fr = i * 12 + j
      · have r := roS_r to ((12 - (j : Int)) % 12) ⟨b0, b1⟩
        have := q1 _ r.1 r.2
        rw [roS_on ⟨b0, b1⟩, (hD _ r.1 r.2).1, show BS (prS (bf b) (br b) (ba b)) = BS (prB b) from rfl, row_dR hb (by omega) (by omega) ⟨b0, b1⟩] at this
        rw [e]
        exact this
      · have q := q2 (fr * 24 + to) (by omega)
        rw [q.1, q.2]
        exact h31 fr to a0 (by omega) b0 b1
    · rintro s ⟨M', rfl, hf3, h32, h31⟩
      show kT (fNe_refresh_B25 i 12 M') _
      unfold fNe_refresh_B25 fNe_refresh_J48
      refine kT_ltf (by omega) (by omega) (kT_exit (kT_let (kT_inl ⟨M', rfl, hf3, fun fr to a0 a1 b0 b1 => h31 fr to a0 (by omega) b0 b1⟩)))
    · exact ⟨τ, rfl, hf.trans (hf2.mono rfl), rfl, fun fr to a0 a1 b0 b1 => by rw [c30, c31]; exact h fr to a0 (by omega) b0 b1⟩
  · rintro s ⟨M, rfl, hf, h⟩
    show kT (fNe_refresh_B10 2 M) _
    unfold fNe_refresh_B10 fNe_refresh_J54
    refine kT_ltf (by omega) (by omega) (kT_exit (kT_wfz (by omega) (kT_ri ?_)))
    dsimp only
    exact ⟨fun fr to a0 a1 b0 b1 => h fr to a0 (by omega) b0 b1, ks_s _ _ _ _⟩
/-! ways -/
theorem P_nextOnWay {b : KB} (hb : kB b) {σ : KM} (hc : cB b σ) (hn : nOK b σ) {k t : Int} (hk : 0 ≤ k ∧ k < 24) (ht : 0 ≤ t ∧ t < 24) (hkt : k ≠ t) : fNe_nextOnWay k t σ = some (nxL b k t 4, σ) := by
  refine kP ?_ (rfNe_nextOnWay k t σ)
  have hN := nxL_n hb hk ht hkt
  unfold fNe_nextOnWay fNe_nextOnWay_L6
  refine kT_for (fun i s => s = (nxL b k t i, (i : Int), σ)) 4 ?_ ?_ 0 (by omega) kF _ rfl (kF_lt (by omega))
  · rintro i s hi rfl
    have nr := nbS_r (k := k) (e := i) hk
    have r1 := dR_r hb hk ht
    have r2 := dR_r hb nr ht
    have hp := prB_ok hb i
    have hst : stE (prB b) i = 64 * prB b i + 1 := rfl
    have hx : 0 ≤ nxL b k t i ∧ nxL b k t i ≤ 24 := by
      rcases (nxL_r (b := b) (t := t) hk i (by omega)).1 with h | ⟨e, _, h, _⟩
      · omega
      · have := nbS_r (k := k) (e := e) hk; omega
    show kT (fNe_nextOnWay_B6 k t (nxL b k t i) i σ) _
    unfold fNe_nextOnWay_B6 fNe_nextOnWay_J60
    refine kT_ltt (by omega) (by omega) (kT_callE (P_neighbour hk (by omega) σ) (kT_rd (by omega) ?_))
    refine kT_callE (P_rankOfStep ⟨hc.2.2.2.2.1, hc.2.2.2.2.2.1, hc.2.2.2.2.2.2.1⟩ (by omega)) (kT_rd (by omega) ?_)
    rw [(hn k t hk.1 hk.2 ht.1 ht.2).1, (hn _ t nr.1 nr.2 ht.1 ht.2).1]
    change kT (kEq (dR b k t) (stE (prB b) i + dR b (nbS k i) t) _ _) _
    refine kT_eq (by omega) (by omega) (fun c => ?_) (fun c => ?_)
    · refine kT_mn (by omega) (by omega) (kT_let (kT_inl ?_))
      rw [nxL]
      by_cases c2 : nbS k i < nxL b k t i
      · rw [if_pos c2, if_pos ⟨c, c2⟩]; rfl
      · rw [if_neg c2, if_neg (fun h => c2 h.2)]; rfl
    · refine kT_let (kT_inl ?_)
      rw [nxL, if_neg (fun h => c h.1)]
      rfl
  · rintro s rfl
    show kT (fNe_nextOnWay_B6 k t (nxL b k t 4) 4 σ) _
    unfold fNe_nextOnWay_B6 fNe_nextOnWay_J66 fNe_nextOnWay_J77
    exact kT_ltf (by omega) (by omega) (kT_exit (kT_ltt (by omega) (by omega) (kT_ri rfl)))
theorem P_keyOnWay {b : KB} (hb : kB b) {σ : KM} (hc : cB b σ) (hn : nOK b σ) {fr to k : Int} (h1 : 0 ≤ fr ∧ fr < 24) (h2 : 0 ≤ to ∧ to < 24) (hk : 0 ≤ k ∧ k < 2147483648) : fNe_keyOnWay fr to k σ = some (if dR b fr to % 64 < k then -1 else wyS b fr to k.toNat, σ) := by
  refine kP ?_ (rfNe_keyOnWay fr to k σ)
  have r := dR_r hb h1 h2
  unfold fNe_keyOnWay
  refine kT_lt (by omega) (by omega) (fun c => ?_) (fun c => ?_)
  · unfold fNe_keyOnWay_L14
    refine kT_for (fun i s => s = (wyS b fr to i, (i : Int), σ) ∧ (i : Int) ≤ dR b fr to % 64) k.toNat ?_ ?_ 0 (by omega) kF _ ⟨rfl, by omega⟩ (kF_lt (by omega))
    · rintro i s hi ⟨rfl, hle⟩
      obtain ⟨w1, w2⟩ := wyS_r hb h1 h2 i hle
      show kT (fNe_keyOnWay_B14 to k (wyS b fr to i) i σ) _
      unfold fNe_keyOnWay_B14 fNe_keyOnWay_J26
      refine kT_ltt (by omega) (by omega) ?_
      refine kT_eq (by omega) (by omega) (fun c2 => ?_) (fun c2 => ?_)
      · refine kT_exit (kT_ri ?_)
        rw [c2, dR_s hb] at w2
        rw [if_pos (by omega)]
      · refine kT_callE (P_nextOnWay hb hc hn w1 h2 c2) (kT_let (kT_inl ⟨rfl, ?_⟩))
        have := (nxL_n hb w1 h2 c2).2
        have := Int.emod_nonneg (dR b (nxL b (wyS b fr to i) to 4) to) (show (64 : Int) ≠ 0 by omega)
        omega
    · rintro s ⟨rfl, hle⟩
      obtain ⟨w1, w2⟩ := wyS_r hb h1 h2 k.toNat hle
      show kT (fNe_keyOnWay_B14 to k (wyS b fr to k.toNat) (k.toNat : Nat) σ) _
      unfold fNe_keyOnWay_B14 fNe_keyOnWay_J43
      refine kT_ltf (by omega) (by omega) (kT_exit (kT_ri ?_))
      rw [if_neg (by omega)]
  · refine kT_ri ?_
    rw [if_pos (by omega)]
theorem mB.th {b : KB} {σ : KM} (h : mB b σ) : mB b (ks σ 10 0 0) := h.fr (W := [(10, some 0)]) (kFr.rf.putf rfl) rfl
theorem M_distance {b : KB} (hb : kB b) {σ : KM} (hm : mB b σ) {x y : Int} (hx : -2147483648 ≤ x ∧ x < 2147483648) (hy : -2147483648 ≤ y ∧ y < 2147483648) : kT (fM_distance x y σ) (fun z => z.1 = qDist b x y) := by
  unfold fM_distance fM_distance_J19 qDist
  refine kT_wf ?_
  have hm1 : mB b (ks σ 10 0 0) := hm.th
  generalize ks σ 10 0 0 = M at hm1 ⊢
  refine kT_callE (M_isKey hx M) ?_
  by_cases c : x < 0 ∨ 23 < x
  · rw [if_pos c, if_pos (Or.inl c)]
    exact kT_eqt rfl (by omega) (kT_ri rfl)
  · rw [if_neg c]
    refine kT_eqf (by omega) (by omega) (by omega) (kT_callE (M_isKey hy M) ?_)
    by_cases c2 : y < 0 ∨ 23 < y
    · rw [if_pos c2, if_pos (Or.inr c2)]
      exact kT_eqt rfl (by omega) (kT_ri rfl)
    · rw [if_neg c2, if_neg (by omega)]
      refine kT_eqf (by omega) (by omega) (by omega) ?_
      refine kT_callT (kT.fr (M_laysFar hb hm1 (t := y) (by omega)) (rfM_laysFar y M)) (fun r τ hz => ?_)
      obtain ⟨hz, hf⟩ := hz
      have hm2 := hm1.fr hf rfl
      dsimp only at hz hm2
      refine kT_rd (by omega) (kT_ri ?_)
      rw [(hz x (by omega) (by omega)).1, hm2.2.2.2.2.2.2.2, Int.mul_comm]
theorem M_way {b : KB} (hb : kB b) {σ : KM} (hm : mB b σ) {x y k : Int} (hx : -2147483648 ≤ x ∧ x < 2147483648) (hy : -2147483648 ≤ y ∧ y < 2147483648) (hk : -2147483648 ≤ k ∧ k < 2147483648) : kT (fM_way x y k σ) (fun z => z.1 = qWay b x y k) := by
  unfold fM_way fM_way_J19 qWay
  refine kT_wf ?_
  have hm1 : mB b (ks σ 10 0 0) := hm.th
  generalize ks σ 10 0 0 = M at hm1 ⊢
  refine kT_callE (M_isKey hx M) ?_
  by_cases c : x < 0 ∨ 23 < x
  · rw [if_pos c, if_pos (Or.inl c)]
    exact kT_eqt rfl (by omega) (kT_ri rfl)
  · rw [if_neg c]
    refine kT_eqf (by omega) (by omega) (by omega) (kT_callE (M_isKey hy M) ?_)
    by_cases c2 : y < 0 ∨ 23 < y
    · rw [if_pos c2, if_pos (Or.inr c2)]
      exact kT_eqt rfl (by omega) (kT_ri rfl)
    · rw [if_neg c2, if_neg (show ¬ ((x < 0 ∨ 23 < x) ∨ (y < 0 ∨ 23 < y)) by omega)]
      refine kT_eqf (by omega) (by omega) (by omega) ?_
      refine kT_lt (by omega) (by omega) (fun c3 => ?_) (fun c3 => ?_)
      · rw [if_pos c3]
        exact kT_ri rfl
      rw [if_neg (show ¬ k < 0 by omega)]
      refine kT_callT (kT.fr (M_laysFar hb hm1 (t := y) (by omega)) (rfM_laysFar y M)) (fun r τ hz => ?_)
      obtain ⟨hz, hf⟩ := hz
      have hm2 := hm1.fr hf rfl
      dsimp only at hz hm2
      have r1 := dR_r hb (fr := x) (to := y) (by omega) (by omega)
      refine kT_rd (by omega) ?_
      rw [(hz x (by omega) (by omega)).2]
      refine kT_lt (by omega) (by omega) (fun c4 => ?_) (fun c4 => ?_)
      · rw [if_pos c4]
        exact kT_ri rfl
      rw [if_neg (show ¬ dR b x y % 64 < k by omega)]
      unfold fM_way_L52
      refine kT_for (fun i s => s = (wyS b x y i, (i : Int), τ)) k.toNat ?_ ?_ 0 (by omega) kF _ rfl (kF_lt (by omega))
      · rintro i s hi rfl
        obtain ⟨w1, w2⟩ := wyS_r hb (fr := x) (to := y) (by omega) (by omega) i (by omega)
        have hn : wyS b x y i ≠ y := fun e => by
          rw [e, dR_s hb] at w2
          omega
        show kT (fM_way_B52 k (wyS b x y i) i τ) _
        generalize hA : wyS b x y i = at0 at w1 w2 hn ⊢
        unfold fM_way_B52 fM_way_L65
        refine kT_ltt (by omega) (by omega) ?_
        refine kT_for (fun l s => s = (nxL b at0 y l, (l : Int), τ)) 4 ?_ ?_ 0 (by omega) kF _ rfl (kF_lt (by omega))
        · rintro l s hl rfl
          have nr := nbS_r (k := at0) (e := l) w1
          have r2 := dR_r hb w1 (to := y) (by omega)
          have r3 := dR_r hb nr (to := y) (by omega)
          have hp := prB_ok hb l
          have hst : stE (prB b) l = 64 * prB b l + 1 := rfl
          have hdv : ∀ k, dS b k y = dR b k y / 64 := fun _ => rfl
          have hx : 0 ≤ nxL b at0 y l ∧ nxL b at0 y l ≤ 24 := by
            rcases (nxL_r (b := b) (t := y) w1 l (by omega)).1 with h | ⟨e, _, h, _⟩
            · omega
            · have := nbS_r (k := at0) (e := e) w1; omega
          show kT (fM_way_B65 k at0 i (nxL b at0 y l) l τ) _
          unfold fM_way_B65 fM_way_J134
          refine kT_ltt (by omega) (by omega) (kT_callE (M_next w1 (by omega) τ) (kT_rd (by omega) ?_))
          refine kT_callE (M_costs ⟨hm2.2.2.2.2.1, hm2.2.2.2.2.2.1, hm2.2.2.2.2.2.2.1⟩ (by omega)) (kT_rd (by omega) ?_)
          rw [(hz _ nr.1 nr.2).1, (hz at0 w1.1 w1.2).1, hdv, hdv]
          change kT (kEq (dR b (nbS at0 l) y / 64 + prB b l) (dR b at0 y / 64) _ _) _
          refine kT_eq (by omega) (by omega) (fun c5 => ?_) (fun c5 => ?_)
          · refine kT_rd (by omega) (kT_rd (by omega) ?_)
            rw [(hz _ nr.1 nr.2).2, (hz at0 w1.1 w1.2).2]
            refine kT_eq (by omega) (by omega) (fun c6 => ?_) (fun c6 => ?_)
            · refine kT_lt (by omega) (by omega) (fun c7 => ?_) (fun c7 => ?_)
              · refine kT_let (kT_inl ?_)
                rw [nxL, if_pos ⟨by omega, c7⟩]
                rfl
              · refine kT_let (kT_inl ?_)
                rw [nxL, if_neg (by omega)]
                rfl
            · refine kT_let (kT_inl ?_)
              rw [nxL, if_neg (by omega)]
              rfl
          · refine kT_let (kT_inl ?_)
            rw [nxL, if_neg (by omega)]
            rfl
        · rintro s rfl
          show kT (fM_way_B65 k at0 i (nxL b at0 y 4) 4 τ) _
          unfold fM_way_B65 fM_way_J140
          refine kT_ltf (by omega) (by omega) (kT_exit (kT_let (kT_inl ?_)))
          rw [wyS, hA]
          rfl
      · rintro s rfl
        show kT (fM_way_B52 k (wyS b x y k.toNat) (k.toNat : Nat) τ) _
        unfold fM_way_B52 fM_way_J150
        exact kT_ltf (by omega) (by omega) (kT_exit (kT_ri rfl))
