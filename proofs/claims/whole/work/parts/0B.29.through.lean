/-! ===== through, unsure: the answers ===== -/
def thS (X : KX) (w : Nat) (k : Int) : Int := if ahS X w k < 1000000000 ∧ bhS X (xn X - 1 - w) k < 1000000000 then ahS X w k + bhS X (xn X - 1 - w) k - xo X w k else 1000000000
theorem thS_r {X : KX} (hv : xV X) {w : Nat} (hw : w < xn X) {k : Int} (hk : 0 ≤ k ∧ k < 24) : thS X w k = 1000000000 ∨ (-9900 ≤ thS X w k ∧ thS X w k ≤ 130000000 ∧ xo X w k ≤ 9900 ∧ 0 ≤ xo X w k) := by
  have h1 := ahS_r hv w k hk.1 hk.2
  have h2 := bhS_r hv (xn X - 1 - w) k hk.1 hk.2
  have h3 := hv.2.1 w k hk.1 hk.2
  have hn := hv.1
  have h4 : bhS X (xn X - 1 - w) k < 1000000000 → xo X w k < 1000000000 := fun h => by
    by_cases c : w + 1 < xn X
    · exact (bh_rest c h).1
    · have e : xn X - 1 - w = 0 := by omega
      rw [e, bhS] at h
      rw [show (xn X : Int) - 1 = w by omega] at h
      exact h
  unfold thS
  split
  · omega
  · exact Or.inl rfl
theorem bh_own {X : KX} (hv : xV X) {w : Nat} (hw : w < xn X) {k : Int} (hk : 0 ≤ k ∧ k < 24) : xo X w k ≤ bhS X (xn X - 1 - w) k := by
  have h2 := bhS_r hv (xn X - 1 - w) k hk.1 hk.2
  have h3 := hv.2.1 w k hk.1 hk.2
  have hn := hv.1
  by_cases h : bhS X (xn X - 1 - w) k < 1000000000
  · by_cases c : w + 1 < xn X
    · obtain ⟨r1, r2, r3⟩ := bh_rest c h
      have : 0 ≤ bhS X (xn X - 1 - w) k - xo X w k := by
        rw [r2]
        split
        · have := bhS_r hv (xn X - 1 - (w + 1)) k hk.1 hk.2
          omega
        · rcases mnS_at (fun o => addS (xs X k o) (bhS X (xn X - 1 - (w + 1)) o)) 24 with e | ⟨o, ho, e⟩
          · omega
          · rw [← e]
            have h5 := bhS_r hv (xn X - 1 - (w + 1)) o ho.1 (by omega)
            have h4 := hv.2.2.2.1 k o hk.1 hk.2 ho.1 (by omega)
            unfold addS
            split <;> omega
      omega
    · have e : xn X - 1 - w = 0 := by omega
      rw [e, bhS, show (xn X : Int) - 1 = w by omega]
      exact Int.le_refl _
  · omega
theorem thS_0 {X : KX} (hv : xV X) {w : Nat} (hw : w < xn X) {k : Int} (hk : 0 ≤ k ∧ k < 24) : 0 ≤ thS X w k := by
  have h1 := ahS_r hv w k hk.1 hk.2
  have h2 := bh_own hv hw hk
  unfold thS
  split <;> omega
theorem P_costThrough {X : KX} (hv : xV X) {σ : KM} (hs : sOK X σ) (ha : ahOK X σ) {w : Nat} (hw : w < xn X) {k : Int} (hk : 0 ≤ k ∧ k < 24) : fDe_costThrough w k σ = some (thS X w k, σ) := by
  refine kT.eq ?_
  have hn := hv.1
  have h1 := ahS_r hv w k hk.1 hk.2
  have h2 := bhS_r hv (xn X - 1 - w) k hk.1 hk.2
  have e41 := ha w k hw hk.1 hk.2
  have e37 := (hs.2.2.1 w k hw hk.1 hk.2).1
  have e34 := hs.1.2.1 w k (by omega) (by omega) hk.1 hk.2
  unfold fDe_costThrough fDe_costThrough_J32 thS
  refine kT_let (kT_rd (by omega) ?_)
  rw [e41]
  refine kT_lt (by omega) (by omega) (fun c => ?_) (fun c => ?_)
  · refine kT_rd (by omega) ?_
    rw [e37]
    refine kT_lt (by omega) (by omega) (fun c2 => ?_) (fun c2 => ?_)
    · refine kT_rd (by omega) (kT_rd (by omega) (kT_rd (by omega) (kT_ri ?_)))
      rw [e41, e37, e34, if_pos ⟨c, c2⟩]
    · refine kT_ri ?_
      rw [if_neg (by omega)]
  · refine kT_ri ?_
    rw [if_neg (by omega)]
def qThrough (b : KB) (w k : Int) : Int := if nW b w then -2 else if nK k then -2 else if hP b then (if thS (XP b) w.toNat k < 1000000000 then thS (XP b) w.toNat k else -1) else -5
theorem C_through {b : KB} {σ : KM} (hb : kB b) (h : CI b σ) {w k : Int} (hw : i32 w) (hk : i32 k) : kT (fP_through w k σ) (fun z => z.1 = qThrough b w k ∧ CI b z.2) := by
  have eN := nB_i hb
  have hv := XP_v hb
  unfold fP_through fP_through_J15 qThrough
  refine kT_callT (C_noWindow hb h hw) (fun r τ hz => ?_)
  obtain ⟨hr, hC, hW⟩ := hz
  dsimp only at hr hC hW
  rw [hr]
  by_cases c : nW b w
  · rw [if_pos c, if_pos c]
    exact kT_eqf (by omega) (by omega) (by omega) (kT_ri ⟨rfl, hC⟩)
  rw [if_neg c, if_neg c]
  refine kT_eqt rfl (by omega) (kT_callE (P_noKey hk τ) ?_)
  by_cases c2 : nK k
  · rw [if_pos c2, if_pos c2]
    exact kT_eqf (by omega) (by omega) (by omega) (kT_ri ⟨rfl, hC⟩)
  rw [if_neg c2, if_neg c2]
  refine kT_eqt rfl (by omega) (kT_callT (C_noPath hb hC) (fun r τ2 hz => ?_))
  obtain ⟨hr, hC, hF, hW⟩ := hz
  dsimp only at hr hC hF hW
  rw [hr]
  by_cases c : hP b
  · rw [if_pos c, if_pos c]
    refine kT_eqt rfl (by omega) (kT_callT (C_lookAhead hb hC hF) (fun r τ3 hz => ?_))
    obtain ⟨hC3, hF3, hA⟩ := hz
    dsimp only at hC3 hF3 hA
    have hwn : w.toNat < xn (XP b) := by show w.toNat < nB b; omega
    have tr := thS_r hv hwn (k := k) (by omega)
    have t0 := thS_0 hv hwn (k := k) (by omega)
    have eq := P_costThrough hv hF3.2.1 hA hwn (k := k) (by omega)
    rw [show ((w.toNat : Nat) : Int) = w by omega] at eq
    exact kT_callE eq (kT_callE (P_toldCost (by omega) τ3) (kT_ri ⟨rfl, hC3⟩))
  · rw [if_neg c, if_neg c]
    exact kT_eqf (by omega) (by omega) (by omega) (kT_ri ⟨rfl, hC⟩)
def unS (X : KX) (w : Nat) (m : Int) : Nat → Int
  | 0 => 0
  | k + 1 => if thS X w k ≤ m then unS X w m k + 1 else unS X w m k
theorem unS_r (X : KX) (w : Nat) (m : Int) : ∀ k : Nat, 0 ≤ unS X w m k ∧ unS X w m k ≤ k
  | 0 => by simp [unS]
  | k + 1 => by
    have := unS_r X w m k
    rw [unS]
    split <;> omega
def qUnsure (b : KB) (w d : Int) : Int := if nW b w then -2 else if d < 0 ∨ 9999 < d then -3 else if hP b then unS (XP b) w.toNat (lsS (XP b) + d) 24 else -5
theorem C_unsure {b : KB} {σ : KM} (hb : kB b) (h : CI b σ) {w d : Int} (hw : i32 w) (hd : i32 d) : kT (fP_unsure w d σ) (fun z => z.1 = qUnsure b w d ∧ CI b z.2) := by
  have eN := nB_i hb
  have hv := XP_v hb
  have lr := lsS_r hv
  unfold fP_unsure qUnsure
  refine kT_callT (C_noWindow hb h hw) (fun r τ hz => ?_)
  obtain ⟨hr, hC, hW⟩ := hz
  dsimp only at hr hC hW
  rw [hr]
  by_cases c : nW b w
  · rw [if_pos c, if_pos c]
    exact kT_eqf (by omega) (by omega) (by omega) (kT_ri ⟨rfl, hC⟩)
  rw [if_neg c, if_neg c]
  refine kT_eqt rfl (by omega) (kT_callE (P_outOf (by omega) (by omega) hd τ) ?_)
  by_cases c2 : d < 0 ∨ 9999 < d
  · rw [if_pos c2, if_pos c2]
    exact kT_eqf (by omega) (by omega) (by omega) (kT_ri ⟨rfl, hC⟩)
  rw [if_neg c2, if_neg c2]
  refine kT_eqt rfl (by omega) (kT_callT (C_noPath hb hC) (fun r τ2 hz => ?_))
  obtain ⟨hr, hC, hF, hW⟩ := hz
  dsimp only at hr hC hF hW
  rw [hr]
  by_cases c : hP b
  · rw [if_pos c, if_pos c]
    refine kT_eqt rfl (by omega) (kT_callT (C_lookAhead hb hC hF) (fun r τ3 hz => ?_))
    obtain ⟨hC3, hF3, hA⟩ := hz
    dsimp only at hC3 hF3 hA
    rw [hF3.2.1.2.2.2.1.1]
    have hwn : w.toNat < xn (XP b) := by show w.toNat < nB b; omega
    unfold fDe_keysUpTo fDe_keysUpTo_L6
    refine kT_call ?_
    refine kT_for (fun i s => s = (unS (XP b) w.toNat (lsS (XP b) + d) i, (i : Int), τ3)) 24 ?_ ?_ 0 (by omega) kF _ rfl (kF_lt (by omega))
    · rintro i s hi rfl
      have tr := thS_r hv hwn (k := i) (by omega)
      have ur := unS_r (XP b) w.toNat (lsS (XP b) + d) i
      have eq := P_costThrough hv hF3.2.1 hA hwn (k := i) (by omega)
      rw [show ((w.toNat : Nat) : Int) = w by omega] at eq
      show kT (fDe_keysUpTo_B6 w (lsS (XP b) + d) (unS (XP b) w.toNat (lsS (XP b) + d) i) i τ3) _
      unfold fDe_keysUpTo_B6 fDe_keysUpTo_J28
      refine kT_ltt (by omega) (by omega) (kT_callE eq (kT_lt (by omega) (by omega) (fun k1 => ?_) (fun k1 => ?_)))
      · refine kT_let (kT_inl ?_)
        rw [unS, if_neg (by omega)]
        rfl
      · refine kT_let (kT_let (kT_inl ?_))
        rw [unS, if_pos k1]
        rfl
    · rintro s rfl
      show kT (fDe_keysUpTo_B6 w (lsS (XP b) + d) (unS (XP b) w.toNat (lsS (XP b) + d) 24) 24 τ3) _
      unfold fDe_keysUpTo_B6 fDe_keysUpTo_J34
      exact kT_ltf (by omega) (by omega) (kT_exit (kT_ri (kT_ri ⟨rfl, hC3⟩)))
  · rw [if_neg c, if_neg c]
    exact kT_eqf (by omega) (by omega) (by omega) (kT_ri ⟨rfl, hC⟩)
/-! the reference -/
def ahM (X : KX) (σ : KM) : Prop := ∀ (w : Nat) (k : Int), w < xn X → 0 ≤ k → k < 24 → σ 60 (24 * (w : Int) + k) = ahS X w k
theorem ah_mv {X : KX} (hv : xV X) {w : Nat} (hw : w + 1 < xn X) {k : Int} (hk : 0 ≤ k ∧ k < 24) : mnS (fun o => addS (ahS X w o) (mvS X ((w : Int) + 1) o k)) 24 = (if xk X ((w : Int) + 1) = 1 then ahS X w k else mnS (fun o => addS (ahS X w o) (xs X o k)) 24) := by
  by_cases c : xk X ((w : Int) + 1) = 1
  · rw [if_pos c]
    have hn := hv.1
    have h3 := ahS_r hv w k hk.1 hk.2
    have h1 : ∀ o, o ≠ k → (fun o => addS (ahS X w o) (mvS X ((w : Int) + 1) o k)) o = 1000000000 := fun o ho => by
      show addS (ahS X w o) (mvS X ((w : Int) + 1) o k) = 1000000000
      unfold mvS
      rw [if_pos ⟨c, ho⟩]
      unfold addS
      rw [if_neg (by omega)]
    have h2 : addS (ahS X w k) (mvS X ((w : Int) + 1) k k) = ahS X w k := by
      unfold mvS
      rw [if_neg (fun h => h.2 rfl), hv.2.2.2.2 k hk.1 hk.2]
      exact (addS_0 (by omega)).2
    have h4 := one_mn h1 (by show addS (ahS X w k) (mvS X ((w : Int) + 1) k k) ≤ 1000000000; omega) hk.1 24
    rw [if_pos (by omega)] at h4
    rw [h4]
    exact h2
  · rw [if_neg c]
    have e : (fun o => addS (ahS X w o) (mvS X ((w : Int) + 1) o k)) = (fun o => addS (ahS X w o) (xs X o k)) := by
      funext o
      unfold mvS
      rw [if_neg (fun h => c h.1)]
    rw [e]
