/-! ===== the reference lays THE PATH ===== -/
def mvS (X : KX) (w k o : Int) : Int := if xk X w = 1 ∧ k ≠ o then 1000000000 else xs X k o
def xM (X : KX) (σ : KM) : Prop := σ 10 37 = xn X ∧ (∀ w k, 0 ≤ w → w < (xn X : Int) → 0 ≤ k → k < 24 → σ 59 (24 * w + k) = xo X w k) ∧ (∀ w, 1 ≤ w → w < (xn X : Int) → σ 64 w = xk X w)
def nM (X : KX) (f : Int) (σ : KM) : Prop := ∀ k o, 0 ≤ k → k < 24 → 0 ≤ o → o < 24 → σ 58 (24 * k + o) * f = xs X k o
def pM (X : KX) (σ : KM) : Prop := (∀ (w : Nat) (k : Int), w < xn X → 0 ≤ k → k < 24 → σ 61 (24 * (w : Int) + k) = bhS X (xn X - 1 - w) k ∧ (bhS X (xn X - 1 - w) k < 1000000000 → σ 62 (24 * (w : Int) + k) = tiS X (xn X - 1 - w) k)) ∧ σ 10 38 = lsS X ∧ (lsS X < 1000000000 → ∀ w : Nat, w < xn X → σ 63 w = paS X w)
theorem xM.fr {X : KX} {W : List (Nat × Option Int)} {σ τ : KM} (h : xM X σ) (hf : kFr W σ τ) (hk : kKeep W [59, 64] [(10, 37)] = true) : xM X τ := by
  have c59 := kKeep.cell hk hf (c := 59) (by decide)
  have c64 := kKeep.cell hk hf (c := 64) (by decide)
  have f37 := kKeep.fld hk hf (c := 10) (i := 37) (by decide)
  unfold xM
  rw [c59, c64, f37]
  exact h
theorem nM.fr {X : KX} {f : Int} {W : List (Nat × Option Int)} {σ τ : KM} (h : nM X f σ) (hf : kFr W σ τ) (hk : kKeep W [58] [] = true) : nM X f τ := by
  have c58 := kKeep.cell hk hf (c := 58) (by decide)
  unfold nM
  rw [c58]
  exact h
theorem mvS_r {X : KX} (hv : xV X) (w : Int) {k o : Int} (hk : 0 ≤ k ∧ k < 24) (ho : 0 ≤ o ∧ o < 24) : mvS X w k o = 1000000000 ∨ (0 ≤ mvS X w k o ∧ mvS X w k o ≤ 1200000) := by
  have := hv.2.2.2.1 k o hk.1 hk.2 ho.1 ho.2
  unfold mvS
  split <;> omega
theorem M_moves {X : KX} (hv : xV X) {σ : KM} (hx : xM X σ) {f : Int} (hn : nM X f σ) {w k o : Int} (hw : 1 ≤ w ∧ w < (xn X : Int)) (hk : 0 ≤ k ∧ k < 24) (ho : 0 ≤ o ∧ o < 24) : fM_moves k o w f σ = some (mvS X w k o, σ) := by
  refine kT.eq ?_
  have hn1 := hv.1
  have e64 := hx.2.2 w hw.1 hw.2
  have kr := hv.2.2.1 w
  have e58 := hn k o hk.1 hk.2 ho.1 ho.2
  unfold fM_moves fM_moves_J19 fM_moves_J33 mvS
  refine kT_rd (by omega) ?_
  rw [e64]
  refine kT_eq (by omega) (by omega) (fun c => ?_) (fun c => ?_)
  · refine kT_rd (by omega) (kT_ri ?_)
    rw [e58, if_neg (by omega)]
  · refine kT_eq (by omega) (by omega) (fun c2 => ?_) (fun c2 => ?_)
    · refine kT_rd (by omega) (kT_ri ?_)
      rw [e58, if_neg (fun h => h.2 c2)]
    · refine kT_ri ?_
      rw [if_pos ⟨by omega, c2⟩]
/-- all but one lie out of reach -/
theorem one_mn {p : Int → Int} {k : Int} (hp : ∀ o, o ≠ k → p o = 1000000000) (hk : p k ≤ 1000000000) (k0 : 0 ≤ k) : ∀ j : Nat, mnS p j = if k < j then p k else 1000000000
  | 0 => by rw [mnS, if_neg (by omega)]
  | j + 1 => by
    have ih := one_mn hp hk k0 j
    by_cases e : (j : Int) = k
    · rw [if_pos (by omega)]
      rw [if_neg (by omega)] at ih
      by_cases c : p k < 1000000000
      · rw [mnS_t (by rw [e, ih]; exact c), e]
      · rw [mnS_f (by rw [e, ih]; omega), ih]; omega
    · have e2 := hp j e
      have ml := mnS_le p j
      rw [mnS_f (by omega), ih]
      by_cases c : k < j
      · rw [if_pos c, if_pos (by omega)]
      · rw [if_neg c, if_neg (by omega)]
theorem one_tf {p t : Int → Int} {k : Int} (hp : ∀ o, o ≠ k → p o = 1000000000) (hk : p k < 1000000000) (k0 : 0 ≤ k) : ∀ j : Nat, tfS p t j = if k < j then t k else 0
  | 0 => by rw [tfS, if_neg (by omega)]
  | j + 1 => by
    have ih := one_tf (t := t) hp hk k0 j
    have im := one_mn hp (by omega) k0 j
    by_cases e : (j : Int) = k
    · rw [if_pos (by omega)]
      rw [if_neg (by omega)] at im
      rw [tfS_t (by rw [e, im]; exact hk), e]
    · have e2 := hp j e
      have ml := mnS_le p j
      rw [tfS_f (by omega), ih]
      by_cases c : k < j
      · rw [if_pos c, if_pos (by omega)]
      · rw [if_neg c, if_neg (by omega)]
def ppS (X : KX) (i : Nat) (k : Int) : Int → Int := fun o => addS (mvS X ((xn X : Int) - 1 - i) k o) (bhS X i o)
theorem ppS_v {X : KX} (hv : xV X) {i : Nat} (hi : i < xn X) {k : Int} (hk : 0 ≤ k ∧ k < 24) : mnS (ppS X i k) 24 = (if xk X ((xn X : Int) - 1 - i) = 1 then bhS X i k else mnS (fun o => addS (xs X k o) (bhS X i o)) 24) ∧ (mnS (ppS X i k) 24 < 1000000000 → tfS (ppS X i k) (tiS X i) 24 = (if xk X ((xn X : Int) - 1 - i) = 1 then tiS X i k else tfS (fun o => addS (xs X k o) (bhS X i o)) (tiS X i) 24)) := by
  by_cases c : xk X ((xn X : Int) - 1 - i) = 1
  · rw [if_pos c, if_pos c]
    have h1 : ∀ o, o ≠ k → ppS X i k o = 1000000000 := fun o ho => by
      unfold ppS mvS
      rw [if_pos ⟨c, fun h => ho h.symm⟩]
      unfold addS
      rw [if_neg (by omega)]
    have h2 : ppS X i k k = bhS X i k := by
      have := bhS_r hv i k hk.1 hk.2
      have := hv.1
      unfold ppS mvS
      rw [if_neg (fun h => h.2 rfl), hv.2.2.2.2 k hk.1 hk.2]
      unfold addS
      split <;> omega
    have h3 := bhS_r hv i k hk.1 hk.2
    have h4 := one_mn h1 (by rw [h2]; have := hv.1; omega) hk.1 24
    rw [if_pos (by omega), h2] at h4
    refine ⟨h4, fun hlt => ?_⟩
    rw [one_tf h1 (by omega) hk.1 24, if_pos (by omega)]
  · rw [if_neg c, if_neg c]
    have e : ppS X i k = fun o => addS (xs X k o) (bhS X i o) := by
      funext o
      unfold ppS mvS
      rw [if_neg (fun h => c h.1)]
    rw [e]
    exact ⟨rfl, fun _ => rfl⟩
def rwM (X : KX) (i : Nat) (σ : KM) : Prop := ∀ k, 0 ≤ k → k < 24 → σ 61 (24 * ((xn X : Int) - 1 - i) + k) = bhS X i k ∧ (bhS X i k < 1000000000 → σ 62 (24 * ((xn X : Int) - 1 - i) + k) = tiS X i k)
theorem addS_0 {v : Int} (h : v ≤ 1000000000) : addS 0 v = v ∧ addS v 0 = v := by
  unfold addS
  constructor <;> split <;> omega
theorem pa_next {X : KX} (hv : xV X) (hl : lsS X < 1000000000) {w : Nat} (hw : w + 1 < xn X) : fkS (fun k => addS (mvS X ((w : Int) + 1) (paS X w) k) (bhS X (xn X - 1 - (w + 1)) k)) (bhS X (xn X - 1 - w) (paS X w) - xo X w (paS X w)) 24 = paS X (w + 1) := by
  have hn := hv.1
  obtain ⟨hp, hb⟩ := paS_r hv hl w (by omega)
  obtain ⟨r1, r2, r3⟩ := bh_rest hw hb
  by_cases c : xk X ((w : Int) + 1) = 1
  · rw [if_pos c] at r2
    have e2 : paS X (w + 1) = paS X w := by rw [paS, if_pos c]
    rw [e2]
    have rb := bhS_r hv (xn X - 1 - (w + 1)) (paS X w) hp.1 hp.2
    have g1 : addS (mvS X ((w : Int) + 1) (paS X w) (paS X w)) (bhS X (xn X - 1 - (w + 1)) (paS X w)) = bhS X (xn X - 1 - w) (paS X w) - xo X w (paS X w) := by
      unfold mvS
      rw [if_neg (fun h => h.2 rfl), hv.2.2.2.2 _ hp.1 hp.2, (addS_0 (by omega)).1, r2]
    obtain ⟨q1, q2, _⟩ := fkS_ex (g := fun k => addS (mvS X ((w : Int) + 1) (paS X w) k) (bhS X (xn X - 1 - (w + 1)) k)) (v := bhS X (xn X - 1 - w) (paS X w) - xo X w (paS X w)) ⟨paS X w, hp, g1⟩
    generalize fkS (fun k => addS (mvS X ((w : Int) + 1) (paS X w) k) (bhS X (xn X - 1 - (w + 1)) k)) (bhS X (xn X - 1 - w) (paS X w) - xo X w (paS X w)) 24 = r at q1 q2 ⊢
    by_cases e : r = paS X w
    · exact e
    · exfalso
      unfold mvS at q2
      rw [if_pos ⟨c, fun h => e h.symm⟩] at q2
      unfold addS at q2
      rw [if_neg (by omega)] at q2
      omega
  · rw [paS, if_neg c]
    have e : (fun k => addS (mvS X ((w : Int) + 1) (paS X w) k) (bhS X (xn X - 1 - (w + 1)) k)) = (fun k => addS (xs X (paS X w) k) (bhS X (xn X - 1 - (w + 1)) k)) := by
      funext k
      unfold mvS
      rw [if_neg (fun h => c h.1)]
    rw [e]
theorem M_laysPath {X : KX} (hv : xV X) {σ : KM} (hx : xM X σ) {f : Int} (hnm : nM X f σ) : kT (fM_laysPath f σ) (fun z => z.1 = (if lsS X < 1000000000 then 1 else 0) ∧ pM X z.2) := by
  have hn := hv.1
  unfold fM_laysPath
  rw [hx.1]
  refine kT_let ?_
  unfold fM_laysPath_L7
  refine kT_for (fun i s => ∃ M : KM, s = ((xn X : Int) - 1 - i, M) ∧ xM X M ∧ nM X f M ∧ ∀ i' : Nat, i' < i → rwM X i' M) (xn X) ?_ ?_ 0 (by omega) kF _ ⟨σ, by simp, hx, hnm, fun i' h => by omega⟩ (kF_lt (by omega))
  · rintro i s hi ⟨M, rfl, hxM, hsM, hr⟩
    show kT (fM_laysPath_B7 f ((xn X : Int) - 1 - i) M) _
    unfold fM_laysPath_B7 fM_laysPath_L13
    refine kT_ltf (by omega) (by omega) ?_
    refine kT_for (fun j s => ∃ M : KM, s = ((j : Int), M) ∧ xM X M ∧ nM X f M ∧ (∀ i' : Nat, i' < i → rwM X i' M) ∧ ∀ k : Int, 0 ≤ k → k < j → M 61 (24 * ((xn X : Int) - 1 - i) + k) = bhS X i k ∧ (bhS X i k < 1000000000 → M 62 (24 * ((xn X : Int) - 1 - i) + k) = tiS X i k)) 24 ?_ ?_ 0 (by omega) kF _ ⟨M, rfl, hxM, hsM, hr, fun k _ h => by omega⟩ (kF_lt (by omega))
    · rintro j s hj ⟨M, rfl, hxM, hsM, hr, hk⟩
      have ow := hv.2.1 ((xn X : Int) - 1 - i) j (by omega) (by omega)
      have e59 := hxM.2.1 ((xn X : Int) - 1 - i) j (by omega) (by omega) (by omega) (by omega)
      show kT (fM_laysPath_B13 f ((xn X : Int) - 1 - i) j M) _
      unfold fM_laysPath_B13
      rw [hxM.1]
      refine kT_ltt (by omega) (by omega) (kT_let ?_)
      have fin : ∀ best many, 0 ≤ best ∧ best ≤ 1000000000 → addS (xo X ((xn X : Int) - 1 - i) j) best = bhS X i j → (bhS X i j < 1000000000 → many = tiS X i j) → kT (fM_laysPath_J200 f ((xn X : Int) - 1 - i) j (24 * ((xn X : Int) - 1 - i) + j) best many M) (kS (fun s => ∃ M : KM, s = (((j + 1 : Nat) : Int), M) ∧ xM X M ∧ nM X f M ∧ (∀ i' : Nat, i' < i → rwM X i' M) ∧ ∀ k : Int, 0 ≤ k → k < ((j + 1 : Nat) : Int) → M 61 (24 * ((xn X : Int) - 1 - i) + k) = bhS X i k ∧ (bhS X i k < 1000000000 → M 62 (24 * ((xn X : Int) - 1 - i) + k) = tiS X i k)) (kS (fun s => ∃ M : KM, s = ((xn X : Int) - 1 - ((i + 1 : Nat) : Int), M) ∧ xM X M ∧ nM X f M ∧ ∀ i' : Nat, i' < i + 1 → rwM X i' M) (fun z => z.1 = (if lsS X < 1000000000 then 1 else 0) ∧ pM X z.2))) := by
        intro best many hb e1 e2
        unfold fM_laysPath_J200
        refine kT_rd (by omega) ?_
        rw [e59]
        refine kT_callE (M_added (by omega) (by omega) M) (kT_wr (by omega) (kT_wr (by omega) (kT_let (kT_inl ⟨_, rfl, hxM, hsM, fun i' hi' k a c => ?_, fun k a c => ?_⟩))))
        · rw [ks_c (by decide), ks_i (by omega), ks_i (by omega), ks_c (by decide)]
          exact hr i' hi' k a c
        · by_cases e : k = j
          · rw [e, ks_c (by decide), ks_s, ks_s, e1]
            exact ⟨rfl, e2⟩
          · rw [ks_c (by decide), ks_i (by omega), ks_i (by omega), ks_c (by decide)]
            exact hk k a (by omega)
      unfold fM_laysPath_J43 fM_laysPath_J60 fM_laysPath_L65
      rw [hxM.1]
      by_cases hi0 : i = 0
      · subst hi0
        refine kT_eqt (by omega) (by omega) (kT_eqt (by omega) (by omega) ?_)
        refine kT_for (fun l s => s = (0, 1, (0 : Int), M)) 0 (fun i s hi => by omega) ?_ 0 (by omega) kF _ rfl (kF_lt (by omega))
        rintro s rfl
        show kT (fM_laysPath_B65 f _ j (24 * ((xn X : Int) - 1 - (0 : Nat)) + j) 0 1 0 M) _
        unfold fM_laysPath_B65
        rw [hxM.1]
        refine kT_ltt (by omega) (by omega) (kT_ltf (by omega) (by omega) (kT_exit (fin 0 1 (by omega) ?_ (fun _ => rfl))))
        rw [(addS_0 (by omega)).2, bhS]
        rw [show (xn X : Int) - 1 - (0 : Nat) = (xn X : Int) - 1 by omega]
      · obtain ⟨i', rfl⟩ : ∃ i', i = i' + 1 := ⟨i - 1, by omega⟩
        have hq := hr i' (by omega)
        have hpp := ppS_v hv (i := i') (k := j) (by omega) (by omega)
        have hw1 : (xn X : Int) - 1 - ((i' + 1 : Nat) : Int) + 1 = (xn X : Int) - 1 - i' := by omega
        refine kT_eqf (by omega) (by omega) (by omega) (kT_eqf (by omega) (by omega) (by omega) ?_)
        have rp : ∀ o, 0 ≤ o → o < 24 → ppS X i' j o = 1000000000 ∨ (0 ≤ ppS X i' j o ∧ ppS X i' j o ≤ 60000000) := by
          intro o o0 o1
          have h3 := bhS_r hv i' o o0 o1
          have h4 := mvS_r hv ((xn X : Int) - 1 - i') (k := j) (o := o) (by omega) (by omega)
          unfold ppS addS
          split <;> omega
        have mr : ∀ l : Nat, l ≤ 24 → mnS (ppS X i' j) l = 1000000000 ∨ (0 ≤ mnS (ppS X i' j) l ∧ mnS (ppS X i' j) l ≤ 60000000) := by
          intro l hl
          rcases mnS_at (ppS X i' j) l with e | ⟨o, ho, e⟩
          · exact Or.inl e
          · rw [← e]; exact rp o ho.1 (by omega)
        have tr := fun (l : Nat) (hl : l ≤ 24) => tfS_r (p := ppS X i' j) (t := tiS X i') (fun o o0 o1 ho => tiS_r hv i' o o0 o1 (addS_lt ho).2.1) l hl
        refine kT_for (fun l s => s = (mnS (ppS X i' j) l, tfS (ppS X i' j) (tiS X i') l, (l : Int), M)) 24 ?_ ?_ 0 (by omega) kF _ rfl (kF_lt (by omega))
        · rintro l s hl rfl
          have rl := rp l (by omega) (by omega)
          have ml := mr l (by omega)
          have tl := tr l (by omega)
          have q := hq l (by omega) (by omega)
          have rb := bhS_r hv i' l (by omega) (by omega)
          have rv := mvS_r hv ((xn X : Int) - 1 - i') (k := j) (o := l) (by omega) (by omega)
          have t1 := tiS_r hv i' l (by omega) (by omega)
          show kT (fM_laysPath_B65 f ((xn X : Int) - 1 - ((i' + 1 : Nat) : Int)) j (24 * ((xn X : Int) - 1 - ((i' + 1 : Nat) : Int)) + j) (mnS (ppS X i' j) l) (tfS (ppS X i' j) (tiS X i') l) l M) _
          unfold fM_laysPath_B65 fM_laysPath_J194 fM_laysPath_J170 fM_laysPath_J188 fM_laysPath_J194
          rw [hxM.1, hw1]
          refine kT_ltt (by omega) (by omega) (kT_ltt (by omega) (by omega) ?_)
          refine kT_callE (M_moves hv hxM hsM (by omega) (by omega) (by omega)) (kT_rd (by omega) ?_)
          rw [q.1]
          refine kT_callE (M_added (by omega) (by omega) M) ?_
          change kT (kLt (ppS X i' j l) 1000000000 _ _) _
          have pb : ppS X i' j l < 1000000000 → bhS X i' l < 1000000000 := fun h => (addS_lt h).2.1
          refine kT_lt (by omega) (by omega) (fun c => ?_) (fun c => ?_)
          · change kT (kLt (mnS (ppS X i' j) l) (ppS X i' j l) _ (kLt (ppS X i' j l) (mnS (ppS X i' j) l) _ _)) _
            refine kT_lt (by omega) (by omega) (fun c2 => ?_) (fun c2 => ?_)
            · refine kT_let (kT_inl ?_)
              rw [mnS_f (by omega), tfS_f (by omega)]
              rfl
            · refine kT_lt (by omega) (by omega) (fun c3 => ?_) (fun c3 => ?_)
              · refine kT_rd (by omega) ?_
                rw [q.2 (pb c)]
                have := t1 (pb c)
                refine kT_ltf (by omega) (by omega) (kT_let (kT_inl ?_))
                rw [mnS_t (by omega), tfS_t (by omega)]
                rfl
              · refine kT_rd (by omega) ?_
                rw [q.2 (pb c)]
                have := t1 (pb c)
                have ee : ppS X i' j l = mnS (ppS X i' j) l := by omega
                refine kT_lt (by omega) (by omega) (fun c4 => ?_) (fun c4 => ?_)
                · refine kT_let (kT_inl ?_)
                  rw [mnS_f (by omega), tfS_e ee c, if_pos c4, ← ee]
                  rfl
                · refine kT_let (kT_inl ?_)
                  rw [mnS_f (by omega), tfS_e ee c, if_neg (by omega), ← ee]
                  rfl
          · refine kT_let (kT_inl ?_)
            rw [mnS_f (by omega), tfS_f (by omega)]
            rfl
        · rintro s rfl
          have ml := mr 24 (by omega)
          show kT (fM_laysPath_B65 f ((xn X : Int) - 1 - ((i' + 1 : Nat) : Int)) j (24 * ((xn X : Int) - 1 - ((i' + 1 : Nat) : Int)) + j) (mnS (ppS X i' j) 24) (tfS (ppS X i' j) (tiS X i') 24) 24 M) _
          unfold fM_laysPath_B65
          have eb : addS (xo X ((xn X : Int) - 1 - ((i' + 1 : Nat) : Int)) j) (mnS (ppS X i' j) 24) = bhS X (i' + 1) j := by
            rw [hpp.1, bhS, show (xn X : Int) - 1 - ((i' + 1 : Nat) : Int) = (xn X : Int) - 1 - ((i' : Int) + 1) by omega]
          refine kT_ltf (by omega) (by omega) (kT_exit (fin _ _ (by omega) eb ?_))
          intro hlt
          rw [← eb] at hlt
          rw [tiS]
          exact hpp.2 (addS_lt hlt).2.1
    · rintro s ⟨M, rfl, hxM, hsM, hr, hk⟩
      show kT (fM_laysPath_B13 f ((xn X : Int) - 1 - i) 24 M) _
      unfold fM_laysPath_B13 fM_laysPath_J234
      refine kT_ltf (by omega) (by omega) (kT_exit (kT_let (kT_inl ⟨M, ?_, hxM, hsM, fun i' hi' => ?_⟩)))
      · refine Prod.ext ?_ rfl
        dsimp only
        omega
      · by_cases e : i' = i
        · rw [e]; exact hk
        · exact hr i' (by omega)
  · rintro s ⟨M, rfl, hxM, hsM, hr⟩
    have haM : ∀ (w : Nat) (k : Int), w < xn X → 0 ≤ k → k < 24 → M 61 (24 * (w : Int) + k) = bhS X (xn X - 1 - w) k ∧ (bhS X (xn X - 1 - w) k < 1000000000 → M 62 (24 * (w : Int) + k) = tiS X (xn X - 1 - w) k) := fun w k hw a c => by
      have := hr (xn X - 1 - w) (by omega) k a c
      rw [show (xn X : Int) - 1 - ((xn X - 1 - w : Nat) : Int) = w by omega] at this
      exact this
    show kT (fM_laysPath_B7 f ((xn X : Int) - 1 - (xn X : Nat)) M) _
    unfold fM_laysPath_B7 fM_laysPath_J240 fM_laysPath_J254
    rw [hxM.1]
    refine kT_ltt (by omega) (by omega) (kT_exit ?_)
    have lr := lsS_r hv
    have fin : ∀ M' : KM, xM X M' → nM X f M' → M' 61 = M 61 → M' 62 = M 62 → M' 10 38 = lsS X → kT (fM_laysPath_J308 f M') (fun z => z.1 = (if lsS X < 1000000000 then 1 else 0) ∧ pM X z.2) := by
      intro M' hxM' hsM' h61 h62 h38
      unfold fM_laysPath_J308
      rw [h38]
      refine kT_lt (by omega) (by omega) (fun hl => ?_) (fun hl => ?_)
      · refine kT_let ?_
        rw [if_pos hl]
        unfold fM_laysPath_L326
        refine kT_for (fun w s => ∃ lf M'', s = (lf, (w : Int), M'') ∧ xM X M'' ∧ nM X f M'' ∧ M'' 61 = M 61 ∧ M'' 62 = M 62 ∧ M'' 10 38 = lsS X ∧ (∀ v : Nat, v < w → M'' 63 v = paS X v) ∧ lf = (if w = 0 then lsS X else bhS X (xn X - 1 - (w - 1)) (paS X (w - 1)) - xo X ((w - 1 : Nat) : Int) (paS X (w - 1)))) (xn X) ?_ ?_ 0 (by omega) kF _ ⟨_, _, rfl, hxM', hsM', h61, h62, h38, fun v h => by omega, by rw [if_pos rfl]⟩ (kF_lt (by omega))
        · rintro w s hw ⟨lf, N, rfl, hxN, hsN, n61, n62, n38, n63, elf⟩
          obtain ⟨hp, hb⟩ := paS_r hv hl w hw
          have e61 := (haM w (paS X w) hw hp.1 hp.2).1
          have rbw := bhS_r hv (xn X - 1 - w) (paS X w) hp.1 hp.2
          have row := hv.2.1 w (paS X w) hp.1 hp.2
          have fin2 : kT (fM_laysPath_J386 f w (paS X w) N) (kS (fun s => ∃ lf M'', s = (lf, ((w + 1 : Nat) : Int), M'') ∧ xM X M'' ∧ nM X f M'' ∧ M'' 61 = M 61 ∧ M'' 62 = M 62 ∧ M'' 10 38 = lsS X ∧ (∀ v : Nat, v < w + 1 → M'' 63 v = paS X v) ∧ lf = (if w + 1 = 0 then lsS X else bhS X (xn X - 1 - (w + 1 - 1)) (paS X (w + 1 - 1)) - xo X ((w + 1 - 1 : Nat) : Int) (paS X (w + 1 - 1)))) (fun z => z.1 = 1 ∧ pM X z.2)) := by
            unfold fM_laysPath_J386
            refine kT_wr (by omega) (kT_rd (by omega) (kT_rd (by omega) (kT_let (kT_let (kT_inl ⟨_, _, rfl, hxN, hsN, n61, n62, n38, fun v hv => ?_, ?_⟩)))))
            · by_cases e : v = w
              · rw [e, ks_s]
              · rw [ks_i (by omega)]; exact n63 v (by omega)
            · rw [ks_c (by decide), ks_c (by decide), n61, e61, hxN.2.1 w _ (by omega) (by omega) hp.1 hp.2, if_neg (by omega), show w + 1 - 1 = w by omega]
          show kT (fM_laysPath_B326 f lf w N) _
          unfold fM_laysPath_B326 fM_laysPath_L337
          rw [hxN.1]
          refine kT_ltt (by omega) (by omega) ?_
          cases w with
          | zero =>
            rw [if_pos rfl] at elf
            subst elf
            have eP : paS X 0 = fkS (bhS X (xn X - 1)) (lsS X) 24 := rfl
            refine kT_for (fun i s => s = ((i : Int), N) ∧ fkS (bhS X (xn X - 1)) (lsS X) i = -1) 24 ?_ ?_ 0 (by omega) kF _ ⟨rfl, rfl⟩ (kF_lt (by omega))
            · rintro i s hi ⟨rfl, hfk⟩
              have q := (haM 0 i hw (by omega) (by omega)).1
              rw [Nat.sub_zero] at q
              have rb := bhS_r hv (xn X - 1) i (by omega) (by omega)
              show kT (fM_laysPath_B337 f (lsS X) ((0 : Nat) : Int) i N) _
              unfold fM_laysPath_B337 fM_laysPath_J361
              refine kT_eqt (by omega) (by omega) (kT_rd (by omega) ?_)
              rw [n61, q]
              refine kT_callE (M_added (by omega) (by omega) N) ?_
              rw [(addS_0 (by omega)).1]
              refine kT_eq (by omega) (by omega) (fun c => ?_) (fun c => ?_)
              · have e9 := fkS_24 hi hfk c
                rw [← eP] at e9
                rw [← e9]
                exact kT_exit fin2
              · exact kT_let (kT_inl ⟨rfl, fkS_n hfk c⟩)
            · rintro s ⟨rfl, hfk⟩
              rw [eP] at hp
              omega
          | succ w =>
            rw [if_neg (by omega), show w + 1 - 1 = w by omega] at elf
            have eP := pa_next hv hl hw
            rw [← elf] at eP
            obtain ⟨hp0, hb0⟩ := paS_r hv hl w (by omega)
            obtain ⟨_, _, r3⟩ := bh_rest hw hb0
            have rb0 := bhS_r hv (xn X - 1 - w) (paS X w) hp0.1 hp0.2
            have ro0 := hv.2.1 w (paS X w) hp0.1 hp0.2
            refine kT_for (fun i s => s = ((i : Int), N) ∧ fkS (fun k => addS (mvS X ((w : Int) + 1) (paS X w) k) (bhS X (xn X - 1 - (w + 1)) k)) lf i = -1) 24 ?_ ?_ 0 (by omega) kF _ ⟨rfl, rfl⟩ (kF_lt (by omega))
            · rintro i s hi ⟨rfl, hfk⟩
              have q := (haM (w + 1) i hw (by omega) (by omega)).1
              have rb := bhS_r hv (xn X - 1 - (w + 1)) i (by omega) (by omega)
              have rv := mvS_r hv ((w : Int) + 1) (k := paS X w) (o := i) hp0 (by omega)
              have e63 := n63 w (by omega)
              have ra : 0 ≤ addS (mvS X ((w : Int) + 1) (paS X w) i) (bhS X (xn X - 1 - (w + 1)) i) ∧ addS (mvS X ((w : Int) + 1) (paS X w) i) (bhS X (xn X - 1 - (w + 1)) i) ≤ 1000000000 := by
                unfold addS
                split <;> omega
              show kT (fM_laysPath_B337 f lf ((w + 1 : Nat) : Int) i N) _
              unfold fM_laysPath_B337 fM_laysPath_J361
              refine kT_eqf (by omega) (by omega) (by omega) (kT_rd (by omega) ?_)
              rw [show ((w + 1 : Nat) : Int) - 1 = w by omega, e63]
              refine kT_callE (M_moves hv hxN hsN (by omega) hp0 (by omega)) (kT_rd (by omega) ?_)
              rw [n61, q]
              rw [show mvS X ((w + 1 : Nat) : Int) = mvS X ((w : Int) + 1) from rfl]
              refine kT_callE (M_added (by omega) (by omega) N) ?_
              refine kT_eq (by omega) (by omega) (fun c => ?_) (fun c => ?_)
              · have e9 := fkS_24 hi hfk c
                rw [eP] at e9
                rw [← e9]
                exact kT_exit fin2
              · exact kT_let (kT_inl ⟨rfl, fkS_n hfk c⟩)
            · rintro s ⟨rfl, hfk⟩
              rw [← eP] at hp
              omega
        · rintro s ⟨lf, N, rfl, hxN, hsN, n61, n62, n38, n63, elf⟩
          show kT (fM_laysPath_B326 f lf (xn X : Nat) N) _
          unfold fM_laysPath_B326 fM_laysPath_J426
          rw [hxN.1]
          refine kT_ltf (by omega) (by omega) (kT_exit (kT_rz (by omega) ⟨rfl, ?_, n38, fun _ => n63⟩))
          dsimp only
          rw [n61, n62]
          exact haM
      · rw [if_neg (by omega)]
        refine kT_rz (by omega) ⟨rfl, ?_, h38, fun h => by omega⟩
        dsimp only
        rw [h61, h62]
        exact haM
    refine kT_eq (by omega) (by omega) (fun c => ?_) (fun c => ?_)
    · refine kT_wf ?_
      unfold fM_laysPath_L259
      refine kT_for (fun i s => s = ((0 : Int), ks M 10 38 0)) 0 (fun i s hi => by omega) ?_ 0 (by omega) kF _ rfl (kF_lt (by omega))
      rintro s rfl
      show kT (fM_laysPath_B259 f 0 (ks M 10 38 0)) _
      unfold fM_laysPath_B259
      refine kT_ltt (by omega) (by omega) ?_
      rw [ks_i (by decide), hxM.1]
      refine kT_ltf (by omega) (by omega) (kT_exit (fin _ ?_ hsM rfl rfl ?_))
      · exact hxM.fr (W := [(10, some 38)]) (kFr.rf.putf rfl) rfl
      · rw [ks_s]; unfold lsS; rw [if_pos (by omega)]
    · refine kT_wf ?_
      have eL : lsS X = mnS (bhS X (xn X - 1)) 24 := by unfold lsS; rw [if_neg (by omega)]
      unfold fM_laysPath_L259
      have hr : ∀ j : Nat, j ≤ 24 → mnS (bhS X (xn X - 1)) j = 1000000000 ∨ (0 ≤ mnS (bhS X (xn X - 1)) j ∧ mnS (bhS X (xn X - 1)) j ≤ 60000000) := by
        intro j hj
        rcases mnS_at (bhS X (xn X - 1)) j with h | ⟨k, hk, h⟩
        · exact Or.inl h
        · rw [← h]
          have := bhS_r hv (xn X - 1) k hk.1 (by omega)
          omega
      have ha0 : ∀ k, 0 ≤ k → k < 24 → M 61 k = bhS X (xn X - 1) k := by
        intro k a d
        have := (haM 0 k (by omega) a d).1
        rw [show (24 * ((0 : Nat) : Int) + k) = k by omega, Nat.sub_zero] at this
        exact this
      refine kT_for (fun j s => ∃ M' : KM, s = ((j : Int), M') ∧ xM X M' ∧ nM X f M' ∧ M' 61 = M 61 ∧ M' 62 = M 62 ∧ M' 10 38 = mnS (bhS X (xn X - 1)) j) 24 ?_ ?_ 0 (by omega) kF _ ?_ (kF_lt (by omega))
      · rintro j s hj ⟨M', rfl, hxM', hsM', h61, h62, h38⟩
        have q := ha0 j (by omega) (by omega)
        have rm := hr j (by omega)
        have rb := bhS_r hv (xn X - 1) j (by omega) (by omega)
        have st : ∀ v, v = mnS (bhS X (xn X - 1)) (j + 1) → kT (fM_laysPath_J299 f j v M') (kS (fun s => ∃ M' : KM, s = (((j + 1 : Nat) : Int), M') ∧ xM X M' ∧ nM X f M' ∧ M' 61 = M 61 ∧ M' 62 = M 62 ∧ M' 10 38 = mnS (bhS X (xn X - 1)) (j + 1)) (fun z => z.1 = (if lsS X < 1000000000 then 1 else 0) ∧ pM X z.2)) := by
          rintro v rfl
          unfold fM_laysPath_J299
          exact kT_wf (kT_let (kT_inl ⟨_, rfl, hxM'.fr (W := [(10, some 38)]) (kFr.rf.putf rfl) rfl, hsM', h61, h62, ks_s _ _ _ _⟩))
        show kT (fM_laysPath_B259 f j M') _
        unfold fM_laysPath_B259
        rw [hxM'.1, h38]
        refine kT_ltt (by omega) (by omega) (kT_ltt (by omega) (by omega) (kT_rd (by omega) ?_))
        rw [h61, q]
        refine kT_lt (by omega) (by omega) (fun d => ?_) (fun d => ?_)
        · refine kT_rd (by omega) (st _ ?_)
          rw [h61, q, mnS_t d]
        · exact st _ (by rw [mnS_f d])
      · rintro s ⟨M', rfl, hxM', hsM', h61, h62, h38⟩
        show kT (fM_laysPath_B259 f 24 M') _
        unfold fM_laysPath_B259
        exact kT_ltf (by omega) (by omega) (kT_exit (fin _ hxM' hsM' h61 h62 (by rw [eL]; exact h38)))
      · exact ⟨_, rfl, hxM.fr (W := [(10, some 38)]) (kFr.rf.putf rfl) rfl, hsM, rfl, rfl, ks_s _ _ _ _⟩
