/-! ===== lasting in the reference ===== -/
def lfS (X : KX) (p w : Nat) (c : Int) : Int := lrS X p w (c / 24).toNat (c % 24)
theorem lfS_e (X : KX) (p w l : Nat) {k : Int} (hk : 0 ≤ k ∧ k < 24) : lfS X p w (24 * (l : Int) + k) = lrS X p w l k := by
  unfold lfS
  rw [show (24 * (l : Int) + k) / 24 = l by omega, show (24 * (l : Int) + k) % 24 = k by omega, Int.toNat_natCast]
def laS (X : KX) (p i l : Nat) (k : Int) : Int := addS (lrS X p i l k) (xo X ((i : Int) + 1) k)
def s0S (X : KX) (p i L r : Nat) (k : Int) : Int := if 1 ≤ r ∧ r - 1 < L then laS X p i (r - 1) k else 1000000000
def s1S (X : KX) (p i L r : Nat) (k : Int) : Int := if r = p ∧ p < L then miS (s0S X p i L r k) (laS X p i p k) else s0S X p i L r k
theorem laS_r {X : KX} (hv : xV X) (p : Nat) {i : Nat} (hi : i < xn X) (l : Nat) {k : Int} (hk : 0 ≤ k ∧ k < 24) : 0 ≤ laS X p i l k ∧ laS X p i l k ≤ 1000000000 := by
  have hn := hv.1
  exact fnB_le (fnB_add (lrS_r hv p i l k hk.1 hk.2) (C := 9900) (hv.2.1 ((i : Int) + 1) k hk.1 hk.2)) (by omega)
theorem s0S_r {X : KX} (hv : xV X) (p : Nat) {i : Nat} (hi : i < xn X) (L r : Nat) {k : Int} (hk : 0 ≤ k ∧ k < 24) : 0 ≤ s0S X p i L r k ∧ s0S X p i L r k ≤ 1000000000 := by
  unfold s0S
  split
  · exact laS_r hv p hi _ hk
  · omega
theorem s1S_r {X : KX} (hv : xV X) (p : Nat) {i : Nat} (hi : i < xn X) (L r : Nat) {k : Int} (hk : 0 ≤ k ∧ k < 24) : 0 ≤ s1S X p i L r k ∧ s1S X p i L r k ≤ 1000000000 := by
  have h1 := s0S_r hv p hi L r hk
  have h2 := laS_r hv p hi p hk
  unfold s1S miS
  split
  · split <;> omega
  · exact h1
/-- one row more -/
theorem s1S_s {X : KX} (hv : xV X) (p : Nat) {i : Nat} (hi : i < xn X) {l : Nat} (hl : l ≤ p) {k : Int} (hk : 0 ≤ k ∧ k < 24) (r : Nat) (hr : r ≤ p) : s1S X p i (l + 1) r k = if r = (if l + 1 ≤ p then l + 1 else l) then miS (s1S X p i l r k) (laS X p i l k) else s1S X p i l r k := by
  have h2 := laS_r hv p hi l hk
  have mi1 : miS 1000000000 (laS X p i l k) = laS X p i l k := by
    unfold miS
    split <;> omega
  by_cases c : l + 1 ≤ p
  · rw [if_pos c]
    have e1 : s1S X p i (l + 1) r k = s0S X p i (l + 1) r k := by unfold s1S; rw [if_neg (by omega)]
    have e2 : s1S X p i l r k = s0S X p i l r k := by unfold s1S; rw [if_neg (by omega)]
    rw [e1, e2]
    by_cases cr : r = l + 1
    · rw [if_pos cr]
      unfold s0S
      rw [if_pos (by omega), if_neg (by omega), mi1, show r - 1 = l by omega]
    · rw [if_neg cr]
      unfold s0S
      by_cases c3 : 1 ≤ r ∧ r - 1 < l
      · rw [if_pos c3, if_pos (by omega)]
      · rw [if_neg c3, if_neg (by omega)]
  · rw [if_neg c]
    have lp : l = p := by omega
    subst lp
    have e2 : s1S X l i l r k = s0S X l i l r k := by unfold s1S; rw [if_neg (by omega)]
    have e3 : s0S X l i (l + 1) r k = s0S X l i l r k := by
      unfold s0S
      by_cases c3 : 1 ≤ r ∧ r - 1 < l
      · rw [if_pos c3, if_pos (by omega)]
      · rw [if_neg c3, if_neg (by omega)]
    by_cases cr : r = l
    · rw [if_pos cr, e2]
      unfold s1S
      rw [if_pos (by omega), e3]
    · rw [if_neg cr, e2]
      unfold s1S
      rw [if_neg (by omega), e3]
/-- behind all rows -/
theorem s1S_e {X : KX} (hv : xV X) (p : Nat) {i : Nat} (hi : i < xn X) {k : Int} (hk : 0 ≤ k ∧ k < 24) : (s1S X p i (p + 1) 0 k = if p = 0 then laS X p i 0 k else 1000000000) ∧ ∀ r, r + 1 ≤ p → s1S X p i (p + 1) (r + 1) k = lrS X p (i + 1) (r + 1) k := by
  have h2 := laS_r hv p hi p hk
  constructor
  · unfold s1S s0S
    by_cases c : p = 0
    · subst c
      rw [if_pos (by omega), if_neg (by omega), if_pos rfl]
      unfold miS
      split <;> omega
    · rw [if_neg (by omega), if_neg (by omega), if_neg c]
  · intro r hr
    rw [lrS]
    unfold s1S s0S
    rw [if_pos (show 1 ≤ r + 1 ∧ r + 1 - 1 < p + 1 by omega), show r + 1 - 1 = r by omega]
    by_cases c : r + 1 = p
    · rw [if_pos (by omega), if_pos c]
      unfold laS
      rw [← c]
    · rw [if_neg (by omega), if_neg c]
      rfl
theorem M_lasting {b : KB} {σ : KM} (hb : kB b) (hm : mB b σ) {n : Int} (hx : i32 n) : kT (fM_lasting n σ) (fun z => z.1 = qLasting b n) := by
  have eN := nB_i hb
  have n48 := nB_48 hb
  have hv := XP_v hb
  unfold fM_lasting qLasting
  refine kT_wf ?_
  have hm1 := hm.th
  generalize ks σ 10 0 0 = M at hm1 ⊢
  refine kT_ck hx (kT_callE (M_isIn (by omega) (by omega) hx M) ?_)
  by_cases c2 : n < 1 ∨ 16 < n
  · rw [if_pos c2, if_pos c2]
    exact kT_eqt rfl (by omega) (kT_ri rfl)
  rw [if_neg c2, if_neg c2]
  refine kT_eqf (by omega) (by omega) (by omega) (kT_callT (M_has hb hm1) (fun r τ hz => ?_))
  obtain ⟨hr, hp⟩ := hz
  dsimp only at hr hp
  rw [hr]
  by_cases c : hP b
  · rw [if_pos c, if_pos c]
    have hl : lsS (XP b) < 1000000000 := c
    have h37 : τ 10 37 = (nB b : Int) := (hp.g hb c).1
    refine kT_eqf (by omega) (by omega) (by omega) ?_
    rw [h37]
    by_cases h0 : nB b = 0
    · rw [if_pos h0]
      exact kT_eqt (by omega) (by omega) (kT_ri rfl)
    rw [if_neg h0]
    refine kT_eqf (by omega) (by omega) (by omega) ?_
    obtain ⟨p, rfl⟩ : ∃ p : Nat, n = (p : Int) + 1 := ⟨(n - 1).toNat, by omega⟩
    rw [show ((p : Int) + 1).toNat - 1 = p by omega]
    have e37 : ∀ T : KM, mP b T → T 10 37 = (nB b : Int) := fun T hT => (hT.g hb c).1
    have hxx := fun (T : KM) (hT : mP b T) => hT.x hb
    have exn : xn (XP b) = nB b := rfl
    generalize hX : XP b = X at hv hl hxx exn ⊢
    unfold fM_lasting_L41
    refine kT_for (fun i s => ∃ T : KM, s = ((i : Int), T) ∧ mP b T ∧ ∀ c : Int, 0 ≤ c → c < i → T 65 c = lfS X p 0 c) (24 * (p + 1)) ?_ ?_ 0 (by omega) kF _ ⟨τ, rfl, hp, fun c _ h => by omega⟩ (kF_lt (by omega))
    · rintro i s hi ⟨T, rfl, hT, h65⟩
      have x1 := (hxx T hT).1
      have st : ∀ v, v = lfS X p 0 i → kT (fM_lasting_J71 ((p : Int) + 1) i v i T) (kS (fun s => ∃ T : KM, s = (((i + 1 : Nat) : Int), T) ∧ mP b T ∧ ∀ c : Int, 0 ≤ c → c < ((i + 1 : Nat) : Int) → T 65 c = lfS X p 0 c) (fun z => z.1 = toS (mnS (lrS X p (nB b - 1) p) 24))) := by
        rintro v rfl
        unfold fM_lasting_J71
        refine kT_wr (by omega) (kT_let (kT_inl ⟨_, rfl, hT.fr (W := [(65, none)]) (kFr.rf.put rfl) rfl rfl rfl, fun c c0 c1 => ?_⟩))
        by_cases e : c = i
        · rw [e, ks_s]
        · rw [ks_i e]; exact h65 c c0 (by omega)
      show kT (fM_lasting_B41 ((p : Int) + 1) i T) _
      unfold fM_lasting_B41
      refine kT_ltt (by omega) (by omega) (kT_lt (by omega) (by omega) (fun d => ?_) (fun d => ?_))
      · refine kT_rd (by omega) (st _ ?_)
        have := x1.2.1 0 i (by omega) (by omega) (by omega) (by omega)
        rw [show 24 * 0 + (i : Int) = i by omega] at this
        rw [this]
        have e := lfS_e X p 0 0 (k := (i : Int)) (by omega)
        rw [show 24 * ((0 : Nat) : Int) + (i : Int) = i by omega] at e
        rw [e, lrS]
      · refine st _ ?_
        have e := lfS_e X p 0 (i / 24) (k := (i : Int) % 24) (by omega)
        rw [show 24 * ((i / 24 : Nat) : Int) + (i : Int) % 24 = i by omega] at e
        rw [e]
        obtain ⟨q, hq⟩ : ∃ q, i / 24 = q + 1 := ⟨i / 24 - 1, by omega⟩
        rw [hq, lrS]
    · rintro s ⟨T0, rfl, hT0, h65⟩
      show kT (fM_lasting_B41 ((p : Int) + 1) ((24 * (p + 1) : Nat) : Int) T0) _
      unfold fM_lasting_B41 fM_lasting_J78 fM_lasting_L80
      refine kT_ltf (by omega) (by omega) (kT_exit ?_)
      refine kT_for (fun i s => ∃ T : KM, s = ((i : Int) + 1, T) ∧ mP b T ∧ ∀ c : Int, 0 ≤ c → c < 24 * ((p : Int) + 1) → T 65 c = lfS X p i c) (nB b - 1) ?_ ?_ 0 (by omega) kF _ ⟨T0, rfl, hT0, fun c c0 c1 => h65 c c0 (by omega)⟩ (kF_lt (by omega))
      · rintro i s hi ⟨T, rfl, hT, h65⟩
        show kT (fM_lasting_B80 ((p : Int) + 1) ((i : Int) + 1) T) _
        unfold fM_lasting_B80 fM_lasting_L90
        rw [e37 T hT]
        refine kT_ltt (by omega) (by omega) ?_
        refine kT_for (fun j s => ∃ T : KM, s = ((j : Int), T) ∧ mP b T ∧ (∀ c : Int, 0 ≤ c → c < 24 * ((p : Int) + 1) → T 65 c = lfS X p i c) ∧ ∀ c : Int, 0 ≤ c → c < (j : Int) → T 66 c = 1000000000) (24 * (p + 1)) ?_ ?_ 0 (by omega) kF _ ⟨T, rfl, hT, h65, fun c c0 c1 => by omega⟩ (kF_lt (by omega))
        · rintro j s hj ⟨T, rfl, hT, h65, h66⟩
          show kT (fM_lasting_B90 ((p : Int) + 1) ((i : Int) + 1) j T) _
          unfold fM_lasting_B90
          refine kT_ltt (by omega) (by omega) (kT_wr (by omega) (kT_let (kT_inl ⟨_, rfl, hT.fr (W := [(66, none)]) (kFr.rf.put rfl) rfl rfl rfl, h65, fun c c0 c1 => ?_⟩)))
          by_cases e : c = j
          · rw [e, ks_s]
          · rw [ks_i e]; exact h66 c c0 (by omega)
        · rintro s ⟨T, rfl, hT, h65, h66⟩
          show kT (fM_lasting_B90 ((p : Int) + 1) ((i : Int) + 1) ((24 * (p + 1) : Nat) : Int) T) _
          unfold fM_lasting_B90 fM_lasting_J112 fM_lasting_L114
          refine kT_ltf (by omega) (by omega) (kT_exit ?_)
          refine kT_for (fun l s => ∃ T : KM, s = ((l : Int), T) ∧ mP b T ∧ (∀ c : Int, 0 ≤ c → c < 24 * ((p : Int) + 1) → T 65 c = lfS X p i c) ∧ (∀ (r : Nat) (k : Int), r ≤ p → 0 ≤ k → k < 24 → T 66 (24 * (r : Int) + k) = s1S X p i l r k)) (p + 1) ?_ ?_ 0 (by omega) kF _ ⟨T, rfl, hT, h65, fun r k hr k0 k1 => ?_⟩ (kF_lt (by omega))
          · rintro l s hl9 ⟨T, rfl, hT, h65, h66⟩
            show kT (fM_lasting_B114 ((p : Int) + 1) ((i : Int) + 1) l T) _
            unfold fM_lasting_B114 fM_lasting_L122
            refine kT_ltt (by omega) (by omega) ?_
            refine kT_for (fun j s => ∃ T : KM, s = ((j : Int), T) ∧ mP b T ∧ (∀ c : Int, 0 ≤ c → c < 24 * ((p : Int) + 1) → T 65 c = lfS X p i c) ∧ (∀ (r : Nat) (k : Int), r ≤ p → 0 ≤ k → k < 24 → T 66 (24 * (r : Int) + k) = if k < (j : Int) then s1S X p i (l + 1) r k else s1S X p i l r k)) 24 ?_ ?_ 0 (by omega) kF _ ⟨T, rfl, hT, h65, fun r k hr k0 k1 => by rw [if_neg (by omega)]; exact h66 r k hr k0 k1⟩ (kF_lt (by omega))
            · rintro j s hj ⟨T, rfl, hT, h65, h66⟩
              obtain ⟨x1, x2, x3⟩ := hxx T hT
              have ow := hv.2.1 ((i : Int) + 1) j (by omega) (by omega)
              have e59 := x1.2.1 ((i : Int) + 1) j (by omega) (by omega) (by omega) (by omega)
              have e65 : T 65 (24 * (l : Int) + j) = lrS X p i l j := by rw [h65 _ (by omega) (by omega)]; exact lfS_e X p i l (by omega)
              have r65 := lr_le hv p (w := i) (by omega) l (k := j) (by omega)
              have rA := laS_r hv p (i := i) (by omega) l (k := j) (by omega)
              have main : ∀ t : Nat, t = (if l + 1 ≤ p then l + 1 else l) → kT (fM_lasting_J145 ((p : Int) + 1) ((i : Int) + 1) l j t 24 T) (kS (fun s => ∃ T : KM, s = (((j + 1 : Nat) : Int), T) ∧ mP b T ∧ (∀ c : Int, 0 ≤ c → c < 24 * ((p : Int) + 1) → T 65 c = lfS X p i c) ∧ (∀ (r : Nat) (k : Int), r ≤ p → 0 ≤ k → k < 24 → T 66 (24 * (r : Int) + k) = if k < ((j + 1 : Nat) : Int) then s1S X p i (l + 1) r k else s1S X p i l r k)) (kS (fun s => ∃ T : KM, s = (((l + 1 : Nat) : Int), T) ∧ mP b T ∧ (∀ c : Int, 0 ≤ c → c < 24 * ((p : Int) + 1) → T 65 c = lfS X p i c) ∧ (∀ (r : Nat) (k : Int), r ≤ p → 0 ≤ k → k < 24 → T 66 (24 * (r : Int) + k) = s1S X p i (l + 1) r k)) (kS (fun s => ∃ T : KM, s = (((i + 1 : Nat) : Int) + 1, T) ∧ mP b T ∧ ∀ c : Int, 0 ≤ c → c < 24 * ((p : Int) + 1) → T 65 c = lfS X p (i + 1) c) (fun z => z.1 = toS (mnS (lrS X p (nB b - 1) p) 24))))) := by
                intro t et
                have tp : t ≤ p := by rw [et]; split <;> omega
                have rs := s1S_r hv p (i := i) (by omega) l t (k := j) (by omega)
                have e66 := h66 t j tp (by omega) (by omega)
                rw [if_neg (by omega)] at e66
                have ss := fun (r : Nat) (hr : r ≤ p) => s1S_s hv p (i := i) (by omega) (l := l) (by omega) (k := (j : Int)) (by omega) r hr
                have put : ∀ v, v = miS (s1S X p i l t j) (laS X p i l j) → kT (fM_lasting_J210 ((p : Int) + 1) ((i : Int) + 1) l j v (24 * t + j) T) (kS (fun s => ∃ T : KM, s = (((j + 1 : Nat) : Int), T) ∧ mP b T ∧ (∀ c : Int, 0 ≤ c → c < 24 * ((p : Int) + 1) → T 65 c = lfS X p i c) ∧ (∀ (r : Nat) (k : Int), r ≤ p → 0 ≤ k → k < 24 → T 66 (24 * (r : Int) + k) = if k < ((j + 1 : Nat) : Int) then s1S X p i (l + 1) r k else s1S X p i l r k)) (kS (fun s => ∃ T : KM, s = (((l + 1 : Nat) : Int), T) ∧ mP b T ∧ (∀ c : Int, 0 ≤ c → c < 24 * ((p : Int) + 1) → T 65 c = lfS X p i c) ∧ (∀ (r : Nat) (k : Int), r ≤ p → 0 ≤ k → k < 24 → T 66 (24 * (r : Int) + k) = s1S X p i (l + 1) r k)) (kS (fun s => ∃ T : KM, s = (((i + 1 : Nat) : Int) + 1, T) ∧ mP b T ∧ ∀ c : Int, 0 ≤ c → c < 24 * ((p : Int) + 1) → T 65 c = lfS X p (i + 1) c) (fun z => z.1 = toS (mnS (lrS X p (nB b - 1) p) 24))))) := by
                  intro v ev
                  unfold fM_lasting_J210
                  refine kT_wr (by omega) (kT_let (kT_inl ⟨_, rfl, hT.fr (W := [(66, none)]) (kFr.rf.put rfl) rfl rfl rfl, h65, fun r k hr k0 k1 => ?_⟩))
                  by_cases e : r = t ∧ k = j
                  · obtain ⟨rfl, rfl⟩ := e
                    rw [ks_s, if_pos (by omega), ss r hr, if_pos et, ev]
                  · rw [ks_i (by omega), h66 r k hr k0 k1]
                    by_cases ek : k = j
                    · rw [if_neg (by omega), if_pos (by omega), ek, ss r hr, if_neg (by rw [← et]; omega)]
                    · by_cases ej : k < (j : Int)
                      · rw [if_pos ej, if_pos (by omega)]
                      · rw [if_neg ej, if_neg (by omega)]
                unfold fM_lasting_J145
                refine kT_let (kT_rd (by omega) (kT_rd (by omega) ?_))
                rw [e65, e59]
                refine kT_callE (M_added (by omega) (by omega) T) (kT_rd (by omega) ?_)
                rw [e66]
                change kT (kLt (laS X p i l j) _ _ _) _
                refine kT_lt (by omega) (by omega) (fun d => ?_) (fun d => ?_)
                · refine put _ ?_
                  unfold miS
                  rw [if_pos d]
                  rfl
                · refine kT_rd (by omega) ?_
                  rw [e66]
                  refine put _ ?_
                  unfold miS
                  rw [if_neg (by omega)]
              show kT (fM_lasting_B122 ((p : Int) + 1) ((i : Int) + 1) l j T) _
              unfold fM_lasting_B122
              refine kT_ltt (by omega) (by omega) (kT_lt (by omega) (by omega) (fun d => ?_) (fun d => ?_))
              · exact main (l + 1) (by rw [if_pos (by omega)])
              · exact main l (by rw [if_neg (by omega)])
            · rintro s ⟨T, rfl, hT, h65, h66⟩
              show kT (fM_lasting_B122 ((p : Int) + 1) ((i : Int) + 1) l 24 T) _
              unfold fM_lasting_B122 fM_lasting_J217
              exact kT_ltf (by omega) (by omega) (kT_exit (kT_let (kT_inl ⟨T, rfl, hT, h65, fun r k hr k0 k1 => by rw [h66 r k hr k0 k1, if_pos (by omega)]⟩)))
          · rintro s ⟨T, rfl, hT, h65, h66⟩
            show kT (fM_lasting_B114 ((p : Int) + 1) ((i : Int) + 1) ((p + 1 : Nat) : Int) T) _
            unfold fM_lasting_B114 fM_lasting_J223 fM_lasting_L225
            refine kT_ltf (by omega) (by omega) (kT_exit ?_)
            have eA : ∀ k, 0 ≤ k → k < 24 → lrS X p (i + 1) 0 k = mnA (s1S X p i (p + 1) 0 k) (loW X (lrS X p i p) ((i : Int) + 1) k) 24 := fun k k0 k1 => by
              rw [(s1S_e hv p (i := i) (by omega) ⟨k0, k1⟩).1, lrS]
              rfl
            refine kT_for (fun j s => ∃ T : KM, s = ((j : Int), T) ∧ mP b T ∧ (∀ c : Int, 0 ≤ c → c < 24 * ((p : Int) + 1) → T 65 c = lfS X p i c) ∧ (∀ (r : Nat) (k : Int), r + 1 ≤ p → 0 ≤ k → k < 24 → T 66 (24 * ((r + 1 : Nat) : Int) + k) = lrS X p (i + 1) (r + 1) k) ∧ ∀ k : Int, 0 ≤ k → k < 24 → T 66 k = if k < (j : Int) then lrS X p (i + 1) 0 k else s1S X p i (p + 1) 0 k) 24 ?_ ?_ 0 (by omega) kF _ ⟨T, rfl, hT, h65, fun r k hr k0 k1 => ?_, fun k k0 k1 => ?_⟩ (kF_lt (by omega))
            · rintro j s hj ⟨T, rfl, hT, h65, h66, h67⟩
              show kT (fM_lasting_B225 ((p : Int) + 1) ((i : Int) + 1) j T) _
              unfold fM_lasting_B225 fM_lasting_L234
              refine kT_ltt (by omega) (by omega) ?_
              have rb := s1S_r hv p (i := i) (by omega) (p + 1) 0 (k := j) (by omega)
              have rA : ∀ l : Nat, l ≤ 24 → 0 ≤ mnA (s1S X p i (p + 1) 0 j) (loW X (lrS X p i p) ((i : Int) + 1) j) l ∧ mnA (s1S X p i (p + 1) 0 j) (loW X (lrS X p i p) ((i : Int) + 1) j) l ≤ 1000000000 := fun l hl9 => by
                have m := (mnA_lo (s1S X p i (p + 1) 0 j) (loW X (lrS X p i p) ((i : Int) + 1) j) l).1
                refine ⟨?_, by omega⟩
                rcases mnA_at (s1S X p i (p + 1) 0 j) (loW X (lrS X p i p) ((i : Int) + 1) j) l with e | ⟨o, ho, e⟩
                · omega
                · rw [← e]
                  unfold loW
                  split
                  · omega
                  · exact (fnB_le (fnB_add (fnB_add (lrS_r hv p i p o ho.1 (by omega)) (mvS_r hv ((i : Int) + 1) (k := o) (o := j) (by omega) (by omega))) (C := 9900) (hv.2.1 ((i : Int) + 1) j (by omega) (by omega))) (by omega)).1
              refine kT_for (fun l s => ∃ T : KM, s = ((l : Int), T) ∧ mP b T ∧ (∀ c : Int, 0 ≤ c → c < 24 * ((p : Int) + 1) → T 65 c = lfS X p i c) ∧ (∀ (r : Nat) (k : Int), r + 1 ≤ p → 0 ≤ k → k < 24 → T 66 (24 * ((r + 1 : Nat) : Int) + k) = lrS X p (i + 1) (r + 1) k) ∧ ∀ k : Int, 0 ≤ k → k < 24 → T 66 k = if k < (j : Int) then lrS X p (i + 1) 0 k else if k = (j : Int) then mnA (s1S X p i (p + 1) 0 k) (loW X (lrS X p i p) ((i : Int) + 1) k) l else s1S X p i (p + 1) 0 k) 24 ?_ ?_ 0 (by omega) kF _ ⟨T, rfl, hT, h65, h66, fun k k0 k1 => ?_⟩ (kF_lt (by omega))
              · rintro l s hl9 ⟨T, rfl, hT, h65, h66, h67⟩
                obtain ⟨x1, x2, x3⟩ := hxx T hT
                have ow := hv.2.1 ((i : Int) + 1) j (by omega) (by omega)
                have e59 := x1.2.1 ((i : Int) + 1) j (by omega) (by omega) (by omega) (by omega)
                have e65 : T 65 (24 * (p : Int) + l) = lrS X p i p l := by rw [h65 _ (by omega) (by omega)]; exact lfS_e X p i p (by omega)
                have r65 := lr_le hv p (w := i) (by omega) p (k := l) (by omega)
                have rv := mvS_r hv ((i : Int) + 1) (k := l) (o := j) (by omega) (by omega)
                have e66 := h67 j (by omega) (by omega)
                rw [if_neg (by omega), if_pos rfl] at e66
                have r1 := rA l (by omega)
                have go : ∀ T' : KM, mP b T' → T' 65 = T 65 → (∀ c, c ≠ (j : Int) → T' 66 c = T 66 c) → T' 66 j = mnA (s1S X p i (p + 1) 0 j) (loW X (lrS X p i p) ((i : Int) + 1) j) (l + 1) → kT (fM_lasting_J323 ((p : Int) + 1) ((i : Int) + 1) j l T') (kS (fun s => ∃ T : KM, s = (((l + 1 : Nat) : Int), T) ∧ mP b T ∧ (∀ c : Int, 0 ≤ c → c < 24 * ((p : Int) + 1) → T 65 c = lfS X p i c) ∧ (∀ (r : Nat) (k : Int), r + 1 ≤ p → 0 ≤ k → k < 24 → T 66 (24 * ((r + 1 : Nat) : Int) + k) = lrS X p (i + 1) (r + 1) k) ∧ ∀ k : Int, 0 ≤ k → k < 24 → T 66 k = if k < (j : Int) then lrS X p (i + 1) 0 k else if k = (j : Int) then mnA (s1S X p i (p + 1) 0 k) (loW X (lrS X p i p) ((i : Int) + 1) k) (l + 1) else s1S X p i (p + 1) 0 k) (kS (fun s => ∃ T : KM, s = (((j + 1 : Nat) : Int), T) ∧ mP b T ∧ (∀ c : Int, 0 ≤ c → c < 24 * ((p : Int) + 1) → T 65 c = lfS X p i c) ∧ (∀ (r : Nat) (k : Int), r + 1 ≤ p → 0 ≤ k → k < 24 → T 66 (24 * ((r + 1 : Nat) : Int) + k) = lrS X p (i + 1) (r + 1) k) ∧ ∀ k : Int, 0 ≤ k → k < 24 → T 66 k = if k < ((j + 1 : Nat) : Int) then lrS X p (i + 1) 0 k else s1S X p i (p + 1) 0 k) (kS (fun s => ∃ T : KM, s = (((i + 1 : Nat) : Int) + 1, T) ∧ mP b T ∧ ∀ c : Int, 0 ≤ c → c < 24 * ((p : Int) + 1) → T 65 c = lfS X p (i + 1) c) (fun z => z.1 = toS (mnS (lrS X p (nB b - 1) p) 24))))) := by
                  intro T' hT' g65 g66 gj
                  unfold fM_lasting_J323
                  refine kT_let (kT_inl ⟨T', rfl, hT', by rw [g65]; exact h65, fun r k hr k0 k1 => ?_, fun k k0 k1 => ?_⟩)
                  · rw [g66 _ (by omega)]; exact h66 r k hr k0 k1
                  · by_cases ek : k = (j : Int)
                    · rw [ek, gj, if_neg (by omega), if_pos rfl]
                    · rw [g66 k ek, h67 k k0 k1, if_neg ek, if_neg ek]
                show kT (fM_lasting_B234 ((p : Int) + 1) ((i : Int) + 1) j l T) _
                unfold fM_lasting_B234
                refine kT_ltt (by omega) (by omega) (kT_eq (by omega) (by omega) (fun d => ?_) (fun d => ?_))
                · refine go T hT rfl (fun _ _ => rfl) ?_
                  rw [e66, mnA_f]
                  unfold loW
                  rw [if_pos d]
                  exact r1.2
                · have eo : loW X (lrS X p i p) ((i : Int) + 1) j l = addS (addS (lrS X p i p l) (mvS X ((i : Int) + 1) l j)) (xo X ((i : Int) + 1) j) := by
                    unfold loW
                    rw [if_neg d]
                  have ra : 0 ≤ addS (lrS X p i p l) (mvS X ((i : Int) + 1) l j) ∧ addS (lrS X p i p l) (mvS X ((i : Int) + 1) l j) ≤ 1000000000 := fnB_le (fnB_add (lrS_r hv p i p l (by omega) (by omega)) rv) (by omega)
                  have ra2 : 0 ≤ addS (addS (lrS X p i p l) (mvS X ((i : Int) + 1) l j)) (xo X ((i : Int) + 1) j) ∧ addS (addS (lrS X p i p l) (mvS X ((i : Int) + 1) l j)) (xo X ((i : Int) + 1) j) ≤ 1000000000 := fnB_le (fnB_add (fnB_add (lrS_r hv p i p l (by omega) (by omega)) rv) (C := 9900) ow) (by omega)
                  refine kT_rd (by omega) ?_
                  rw [show (24 * (((p : Int) + 1) - 1)) + (l : Int) = 24 * (p : Int) + l by omega, e65, x3]
                  refine kT_callE (M_moves hv x1 x2 (by omega) (by omega) (by omega)) (kT_callE (M_added (by omega) (by omega) T) (kT_rd (by omega) ?_))
                  rw [e59]
                  refine kT_callE (M_added (by omega) (by omega) T) (kT_rd (by omega) ?_)
                  rw [e66, ← eo]
                  rw [← eo] at ra2
                  have put : ∀ v, v = mnA (s1S X p i (p + 1) 0 j) (loW X (lrS X p i p) ((i : Int) + 1) j) (l + 1) → kT (fM_lasting_J322 ((p : Int) + 1) ((i : Int) + 1) j l v j T) (kS (fun s => ∃ T : KM, s = (((l + 1 : Nat) : Int), T) ∧ mP b T ∧ (∀ c : Int, 0 ≤ c → c < 24 * ((p : Int) + 1) → T 65 c = lfS X p i c) ∧ (∀ (r : Nat) (k : Int), r + 1 ≤ p → 0 ≤ k → k < 24 → T 66 (24 * ((r + 1 : Nat) : Int) + k) = lrS X p (i + 1) (r + 1) k) ∧ ∀ k : Int, 0 ≤ k → k < 24 → T 66 k = if k < (j : Int) then lrS X p (i + 1) 0 k else if k = (j : Int) then mnA (s1S X p i (p + 1) 0 k) (loW X (lrS X p i p) ((i : Int) + 1) k) (l + 1) else s1S X p i (p + 1) 0 k) (kS (fun s => ∃ T : KM, s = (((j + 1 : Nat) : Int), T) ∧ mP b T ∧ (∀ c : Int, 0 ≤ c → c < 24 * ((p : Int) + 1) → T 65 c = lfS X p i c) ∧ (∀ (r : Nat) (k : Int), r + 1 ≤ p → 0 ≤ k → k < 24 → T 66 (24 * ((r + 1 : Nat) : Int) + k) = lrS X p (i + 1) (r + 1) k) ∧ ∀ k : Int, 0 ≤ k → k < 24 → T 66 k = if k < ((j + 1 : Nat) : Int) then lrS X p (i + 1) 0 k else s1S X p i (p + 1) 0 k) (kS (fun s => ∃ T : KM, s = (((i + 1 : Nat) : Int) + 1, T) ∧ mP b T ∧ ∀ c : Int, 0 ≤ c → c < 24 * ((p : Int) + 1) → T 65 c = lfS X p (i + 1) c) (fun z => z.1 = toS (mnS (lrS X p (nB b - 1) p) 24))))) := by
                    intro v ev
                    unfold fM_lasting_J322
                    refine kT_wr (by omega) (go _ (hT.fr (W := [(66, none)]) (kFr.rf.put rfl) rfl rfl rfl) rfl (fun c hc => ks_i hc) ?_)
                    rw [ks_s, ev]
                  refine kT_lt (by omega) (by omega) (fun d2 => ?_) (fun d2 => ?_)
                  · exact put _ (mnA_t d2).symm
                  · refine kT_rd (by omega) ?_
                    rw [e66]
                    exact put _ (mnA_f d2).symm
              · rintro s ⟨T, rfl, hT, h65, h66, h67⟩
                show kT (fM_lasting_B234 ((p : Int) + 1) ((i : Int) + 1) j 24 T) _
                unfold fM_lasting_B234 fM_lasting_J329
                refine kT_ltf (by omega) (by omega) (kT_exit (kT_let (kT_inl ⟨T, rfl, hT, h65, h66, fun k k0 k1 => ?_⟩)))
                rw [h67 k k0 k1]
                by_cases ek : k = (j : Int)
                · rw [if_neg (by omega), if_pos ek, if_pos (by omega), eA k k0 k1]
                · by_cases ej : k < (j : Int)
                  · rw [if_pos ej, if_pos (by omega)]
                  · rw [if_neg ej, if_neg ek, if_neg (by omega)]
              · rw [h67 k k0 k1]
                by_cases ek : k = (j : Int)
                · rw [if_neg (by omega), if_neg (by omega), if_pos ek, mnA]
                · rw [if_neg ek]
            · rintro s ⟨T, rfl, hT, h65, h66, h67⟩
              show kT (fM_lasting_B225 ((p : Int) + 1) ((i : Int) + 1) 24 T) _
              unfold fM_lasting_B225 fM_lasting_J335
              refine kT_ltf (by omega) (by omega) (kT_exit ?_)
              have et := M_turns (σ := T) (rows := p + 1) (by omega)
              rw [show ((p + 1 : Nat) : Int) = (p : Int) + 1 by omega] at et
              refine kT_callT et (fun r τ2 hz => ?_)
              obtain ⟨z1, z2⟩ := hz
              dsimp only at z1 z2
              refine kT_let (kT_inl ⟨τ2, ?_, hT.fr z1 rfl rfl rfl, fun c c0 c1 => ?_⟩)
              · refine Prod.ext ?_ rfl
                dsimp only
                omega
              · rw [z2 c c0 (by omega)]
                have e := lfS_e X p (i + 1) (c / 24).toNat (k := c % 24) (by omega)
                rw [show 24 * (((c / 24).toNat : Nat) : Int) + c % 24 = c by omega] at e
                rw [e]
                by_cases cr : c < 24
                · rw [show (c / 24).toNat = 0 by omega, show c % 24 = c by omega, h67 c c0 cr, if_pos (by omega)]
                · obtain ⟨q, hq⟩ : ∃ q, (c / 24).toNat = q + 1 := ⟨(c / 24).toNat - 1, by omega⟩
                  rw [hq, ← h66 q (c % 24) (by omega) (by omega) (by omega)]
                  rw [show 24 * ((q + 1 : Nat) : Int) + c % 24 = c by omega]
            · rw [h66 (r + 1) k hr k0 k1]
              exact (s1S_e hv p (i := i) (by omega) ⟨k0, k1⟩).2 r hr
            · have := h66 0 k (by omega) k0 k1
              rw [show 24 * ((0 : Nat) : Int) + k = k by omega] at this
              rw [this, if_neg (by omega)]
          · rw [h66 _ (by omega) (by omega)]
            unfold s1S s0S
            rw [if_neg (by omega), if_neg (by omega)]
      · rintro s ⟨T, rfl, hT, h65⟩
        show kT (fM_lasting_B80 ((p : Int) + 1) (((nB b - 1 : Nat) : Int) + 1) T) _
        unfold fM_lasting_B80 fM_lasting_J346
        rw [e37 T hT]
        refine kT_ltf (by omega) (by omega) (kT_exit ?_)
        have e := M_leastOf (σ := T) (a := 24 * p) (n := 24) (g := lrS X p (nB b - 1) p) (by omega) (fun o o0 o1 => ⟨?_, ?_⟩)
        · rw [show ((24 * p : Nat) : Int) = 24 * (((p : Int) + 1) - 1) by omega, show 24 * (((p : Int) + 1) - 1) + ((24 : Nat) : Int) = 24 * ((p : Int) + 1) by omega] at e
          exact kT_callE e (kT_ri rfl)
        · exact lr_le hv p (by omega) p ⟨o0, by omega⟩
        · rw [show ((24 * p : Nat) : Int) + o = 24 * (p : Int) + o by omega, h65 _ (by omega) (by omega)]
          exact lfS_e X p (nB b - 1) p ⟨o0, by omega⟩
  · rw [if_neg c, if_neg c]
    exact kT_eqt rfl (by omega) (kT_ri rfl)
