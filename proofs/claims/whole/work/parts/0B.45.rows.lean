/-! ===== rows of notes ===== -/
abbrev bhN (A : NL) (i t l p : Int) : Prop := t < A.2.1 i ∨ (A.2.1 i = t ∧ (p < A.2.2.2 i ∨ (A.2.2.2 i = p ∧ l < A.2.2.1 i)))
def plS (A : NL) (t l p : Int) : Nat → Nat
  | 0 => 0
  | i + 1 => if bhN A i t l p then plS A t l p i else i + 1
theorem plS_r (A : NL) (t l p : Int) : ∀ i : Nat, plS A t l p i ≤ i
  | 0 => Nat.le_refl _
  | i + 1 => by
    have := plS_r A t l p i
    rw [plS]
    split <;> omega
def inF (f : Int → Int) (q v : Int) : Int → Int := fun i => if i < q then f i else if i = q then v else f (i - 1)
def rmF (f : Int → Int) (q : Int) : Int → Int := fun i => if i < q then f i else f (i + 1)
def inS (A : NL) (q t l p : Int) : NL := (A.1 + 1, inF A.2.1 q t, inF A.2.2.1 q l, inF A.2.2.2 q p)
def rvS (A : NL) (q : Int) : NL := (A.1 - 1, rmF A.2.1 q, rmF A.2.2.1 q, rmF A.2.2.2 q)
def mvN (A : NL) (d : Int) : NL := (A.1, A.2.1, A.2.2.1, fun i => A.2.2.2 i + d)
def nEq (A B : NL) : Prop := A.1 = B.1 ∧ ∀ i : Int, 0 ≤ i → i < A.1 → A.2.1 i = B.2.1 i ∧ A.2.2.1 i = B.2.2.1 i ∧ A.2.2.2 i = B.2.2.2 i
abbrev okV (t l p : Int) : Prop := (0 ≤ t ∧ 1 ≤ l ∧ l ≤ 64 ∧ t + l ≤ 512) ∧ 0 ≤ p ∧ p < 128
abbrev cNt (A : NL) (σ : KM) : Prop := kN σ 3 3 16 17 18 A.1 A.2.1 A.2.2.1 A.2.2.2
abbrev fNt (A : NL) (σ : KM) : Prop := kN σ 2 3 13 14 15 A.1 A.2.1 A.2.2.1 A.2.2.2
abbrev mNt (A : NL) (σ : KM) : Prop := kN σ 10 7 45 46 47 A.1 A.2.1 A.2.2.1 A.2.2.2
theorem kN_eq {A B : NL} {σ : KM} {co : Nat} {ko : Int} {ct cl cp : Nat} (h : kN σ co ko ct cl cp A.1 A.2.1 A.2.2.1 A.2.2.2) (e : nEq A B) : kN σ co ko ct cl cp B.1 B.2.1 B.2.2.1 B.2.2.2 := by
  refine ⟨by rw [← e.1]; exact h.1, fun i a c => ?_⟩
  have q := h.2 i a (by rw [e.1]; exact c)
  have r := e.2 i a (by rw [e.1]; exact c)
  rw [q.1, q.2.1, q.2.2, r.1, r.2.1, r.2.2]
  exact ⟨rfl, rfl, rfl⟩
theorem nEq.rf (A : NL) : nEq A A := ⟨rfl, fun _ _ _ => ⟨rfl, rfl, rfl⟩⟩
theorem vN_in {A : NL} (hv : vN A) (hn : A.1 < 100) {q t l p : Int} (hq : 0 ≤ q ∧ q ≤ A.1) (h : okV t l p) : vN (inS A q t l p) := by
  refine ⟨by show A.1 + 1 ≤ 100; omega, fun i a c => ?_⟩
  have c' : i < ((A.1 + 1 : Nat) : Int) := c
  show (0 ≤ inF A.2.1 q t i ∧ 1 ≤ inF A.2.2.1 q l i ∧ inF A.2.2.1 q l i ≤ 64 ∧ inF A.2.1 q t i + inF A.2.2.1 q l i ≤ 512) ∧ 0 ≤ inF A.2.2.2 q p i ∧ inF A.2.2.2 q p i < 128
  unfold inF
  by_cases c1 : i < q
  · rw [if_pos c1, if_pos c1, if_pos c1]; exact hv.2 i a (by omega)
  · rw [if_neg c1, if_neg c1, if_neg c1]
    by_cases c2 : i = q
    · rw [if_pos c2, if_pos c2, if_pos c2]; exact h
    · rw [if_neg c2, if_neg c2, if_neg c2]; exact hv.2 (i - 1) (by omega) (by omega)
theorem vN_rm {A : NL} (hv : vN A) {q : Int} (hq : 0 ≤ q ∧ q < A.1) : vN (rvS A q) := by
  have hn := hv.1
  refine ⟨by show A.1 - 1 ≤ 100; omega, fun i a c => ?_⟩
  have c' : i < ((A.1 - 1 : Nat) : Int) := c
  show (0 ≤ rmF A.2.1 q i ∧ 1 ≤ rmF A.2.2.1 q i ∧ rmF A.2.2.1 q i ≤ 64 ∧ rmF A.2.1 q i + rmF A.2.2.1 q i ≤ 512) ∧ 0 ≤ rmF A.2.2.2 q i ∧ rmF A.2.2.2 q i < 128
  unfold rmF
  by_cases c1 : i < q
  · rw [if_pos c1, if_pos c1, if_pos c1]; exact hv.2 i a (by omega)
  · rw [if_neg c1, if_neg c1, if_neg c1]; exact hv.2 (i + 1) (by omega) (by omega)
/-- taking out what was put in, putting in what was taken out -/
theorem rm_in {A : NL} {q t l p : Int} (hq : 0 ≤ q ∧ q ≤ A.1) : nEq (rvS (inS A q t l p) q) A := by
  refine ⟨by show A.1 + 1 - 1 = A.1; omega, fun i a c => ?_⟩
  have e : ∀ (f : Int → Int) (v : Int), rmF (inF f q v) q i = f i := fun f v => by
    show (if i < q then (if i < q then f i else if i = q then v else f (i - 1)) else (if i + 1 < q then f (i + 1) else if i + 1 = q then v else f (i + 1 - 1))) = f i
    by_cases c1 : i < q
    · rw [if_pos c1, if_pos c1]
    · rw [if_neg c1, if_neg (by omega), if_neg (by omega), show i + 1 - 1 = i by omega]
  exact ⟨e _ _, e _ _, e _ _⟩
theorem in_rm {A : NL} {q : Int} (hq : 0 ≤ q ∧ q < A.1) : nEq (inS (rvS A q) q (A.2.1 q) (A.2.2.1 q) (A.2.2.2 q)) A := by
  refine ⟨by show A.1 - 1 + 1 = A.1; omega, fun i a c => ?_⟩
  have e : ∀ (f : Int → Int), inF (rmF f q) q (f q) i = f i := fun f => by
    show (if i < q then (if i < q then f i else f (i + 1)) else if i = q then f q else (if i - 1 < q then f (i - 1) else f (i - 1 + 1))) = f i
    by_cases c1 : i < q
    · rw [if_pos c1, if_pos c1]
    · rw [if_neg c1]
      by_cases c2 : i = q
      · rw [if_pos c2, c2]
      · rw [if_neg c2, if_neg (by omega), show i - 1 + 1 = i by omega]
  exact ⟨e _, e _, e _⟩
theorem mv_mv {A : NL} {d : Int} : nEq (mvN (mvN A d) (-d)) A := by
  refine ⟨rfl, fun i a c => ⟨rfl, rfl, ?_⟩⟩
  show A.2.2.2 i + d + -d = A.2.2.2 i
  omega
theorem P_isBehind {A : NL} {σ : KM} (h : cNt A σ) (hv : vN A) {i t l p : Int} (hi : 0 ≤ i ∧ i < A.1) (ht : i32 t) (hl : i32 l) (hp : i32 p) : fNo_isBehind i t l p σ = some (if bhN A i t l p then 1 else 0, σ) := by
  refine kT.eq ?_
  obtain ⟨g1, g2, g3⟩ := h.2 i hi.1 hi.2
  have g := hv.2 i hi.1 hi.2
  have n100 := hv.1
  unfold i32 at ht hl hp
  unfold fNo_isBehind fNo_isBehind_J25 fNo_isBehind_J53 fNo_isBehind_J69
  refine kT_rd (by omega) ?_
  rw [g1]
  refine kT_eq (by omega) (by omega) (fun c => ?_) (fun c => ?_)
  · refine kT_rd (by omega) ?_
    rw [g3]
    refine kT_eq (by omega) (by omega) (fun c2 => ?_) (fun c2 => ?_)
    · refine kT_rd (by omega) ?_
      rw [g2]
      refine kT_lt (by omega) (by omega) (fun c3 => ?_) (fun c3 => ?_)
      · exact kT_rz (by omega) (by rw [if_pos (by omega)])
      · exact kT_rz (by omega) (by rw [if_neg (by omega)])
    · refine kT_rd (by omega) ?_
      rw [g3]
      refine kT_lt (by omega) (by omega) (fun c3 => ?_) (fun c3 => ?_)
      · exact kT_rz (by omega) (by rw [if_pos (by omega)])
      · exact kT_rz (by omega) (by rw [if_neg (by omega)])
  · refine kT_rd (by omega) ?_
    rw [g1]
    refine kT_lt (by omega) (by omega) (fun c3 => ?_) (fun c3 => ?_)
    · exact kT_rz (by omega) (by rw [if_pos (by omega)])
    · exact kT_rz (by omega) (by rw [if_neg (by omega)])
theorem P_placeFor {A : NL} {σ : KM} (h : cNt A σ) (hv : vN A) {t l p : Int} (ht : i32 t) (hl : i32 l) (hp : i32 p) : fNo_placeFor t l p σ = some ((plS A t l p A.1 : Int), σ) := by
  refine kP ?_ (rfNo_placeFor t l p σ)
  have n100 := hv.1
  unfold fNo_placeFor fNo_placeFor_L6
  rw [h.1]
  refine kT_let ?_
  refine kT_iter (fun n s => s = ((n : Int), σ) ∧ n ≤ A.1 ∧ plS A t l p A.1 = plS A t l p n) ?_ kF A.1 _ ⟨rfl, Nat.le_refl _, rfl⟩ (kF_lt (by omega))
  rintro n s ⟨rfl, hn, he⟩
  show kT (fNo_placeFor_B6 t l p n σ) _
  unfold fNo_placeFor_B6 fNo_placeFor_J31
  cases n with
  | zero =>
    refine kT_ltf (by omega) (by omega) (kT_exit (kT_ri ?_))
    rw [he, plS]
  | succ n =>
    refine kT_ltt (by omega) (by omega) ?_
    rw [show ((n + 1 : Nat) : Int) - 1 = n by omega]
    refine kT_callE (P_isBehind h hv (by omega) ht hl hp) ?_
    by_cases c : bhN A n t l p
    · rw [if_pos c]
      refine kT_eqf (by omega) (by omega) (by omega) (kT_let (kT_inl ⟨n, by omega, ?_, by omega, ?_⟩))
      · refine Prod.ext ?_ rfl
        dsimp only
        omega
      · rw [he, plS, if_pos c]
    · rw [if_neg c]
      refine kT_eqt rfl (by omega) (kT_exit (kT_ri ?_))
      rw [he, plS, if_neg c]
theorem P_insert {A : NL} {σ : KM} (h : cNt A σ) (hn : A.1 < 100) {q t l p : Int} (hq : 0 ≤ q ∧ q ≤ A.1) : kT (fNo_insert q t l p σ) (fun z => cNt (inS A q t l p) z.2) := by
  unfold fNo_insert
  rw [h.1]
  refine kT_ltt (by omega) (by omega) (kT_ltf (by omega) (by omega) (kT_ltf (by omega) (by omega) (kT_let ?_)))
  refine kT_cpy (by omega) (kT_cpy (by omega) (kT_cpy (by omega) (kT_wr (by omega) (kT_wr (by omega) (kT_wr (by omega) (kT_wf (kT_ri ?_)))))))
  dsimp only
  refine ⟨?_, fun i a c => ?_⟩
  · rw [ks_s]
    show σ 3 3 + 1 = ((A.1 + 1 : Nat) : Int)
    rw [h.1]
    omega
  · have c' : i < ((A.1 + 1 : Nat) : Int) := c
    have e : ∀ (f : Int → Int) (g : Int → Int) (v : Int), (∀ j : Int, 0 ≤ j → j < A.1 → g j = f j) → (if i = q then v else (if q + 1 ≤ i ∧ i < q + 1 + ((A.1 : Int) - q) then g (q + (i - (q + 1))) else g i)) = inF f q v i := by
      intro f g v hg
      unfold inF
      by_cases c2 : i = q
      · rw [if_pos c2, if_neg (by omega), if_pos c2]
      · rw [if_neg c2]
        by_cases c1 : i < q
        · rw [if_neg (by omega), if_pos c1]; exact hg i a (by omega)
        · rw [if_pos (by omega), if_neg c1, if_neg c2, show q + (i - (q + 1)) = i - 1 by omega]; exact hg (i - 1) (by omega) (by omega)
    refine ⟨?_, ?_, ?_⟩
    · refine Eq.trans ?_ (e A.2.1 (σ 16) t (fun j a c => (h.2 j a c).1))
      simp only [ks_ap, kCp_ap, and_true, true_and, and_false, false_and, and_self, if_true, if_false, reduceIte, Nat.reduceEqDiff, Int.reduceEq]
    · refine Eq.trans ?_ (e A.2.2.1 (σ 17) l (fun j a c => (h.2 j a c).2.1))
      simp only [ks_ap, kCp_ap, and_true, true_and, and_false, false_and, and_self, if_true, if_false, reduceIte, Nat.reduceEqDiff, Int.reduceEq]
    · refine Eq.trans ?_ (e A.2.2.2 (σ 18) p (fun j a c => (h.2 j a c).2.2))
      simp only [ks_ap, kCp_ap, and_true, true_and, and_false, false_and, and_self, if_true, if_false, reduceIte, Nat.reduceEqDiff, Int.reduceEq]
theorem P_isBehindF {A : NL} {σ : KM} (h : fNt A σ) (hv : vN A) {i t l p : Int} (hi : 0 ≤ i ∧ i < A.1) (ht : i32 t) (hl : i32 l) (hp : i32 p) : fNo_isBehindF i t l p σ = some (if bhN A i t l p then 1 else 0, σ) := by
  refine kT.eq ?_
  obtain ⟨g1, g2, g3⟩ := h.2 i hi.1 hi.2
  have g := hv.2 i hi.1 hi.2
  have n100 := hv.1
  unfold i32 at ht hl hp
  unfold fNo_isBehindF fNo_isBehindF_J25 fNo_isBehindF_J53 fNo_isBehindF_J69
  refine kT_rd (by omega) ?_
  rw [g1]
  refine kT_eq (by omega) (by omega) (fun c => ?_) (fun c => ?_)
  · refine kT_rd (by omega) ?_
    rw [g3]
    refine kT_eq (by omega) (by omega) (fun c2 => ?_) (fun c2 => ?_)
    · refine kT_rd (by omega) ?_
      rw [g2]
      refine kT_lt (by omega) (by omega) (fun c3 => ?_) (fun c3 => ?_)
      · exact kT_rz (by omega) (by rw [if_pos (by omega)])
      · exact kT_rz (by omega) (by rw [if_neg (by omega)])
    · refine kT_rd (by omega) ?_
      rw [g3]
      refine kT_lt (by omega) (by omega) (fun c3 => ?_) (fun c3 => ?_)
      · exact kT_rz (by omega) (by rw [if_pos (by omega)])
      · exact kT_rz (by omega) (by rw [if_neg (by omega)])
  · refine kT_rd (by omega) ?_
    rw [g1]
    refine kT_lt (by omega) (by omega) (fun c3 => ?_) (fun c3 => ?_)
    · exact kT_rz (by omega) (by rw [if_pos (by omega)])
    · exact kT_rz (by omega) (by rw [if_neg (by omega)])
theorem P_placeForF {A : NL} {σ : KM} (h : fNt A σ) (hv : vN A) {t l p : Int} (ht : i32 t) (hl : i32 l) (hp : i32 p) : fNo_placeForF t l p σ = some ((plS A t l p A.1 : Int), σ) := by
  refine kP ?_ (rfNo_placeForF t l p σ)
  have n100 := hv.1
  unfold fNo_placeForF fNo_placeForF_L6
  rw [h.1]
  refine kT_let ?_
  refine kT_iter (fun n s => s = ((n : Int), σ) ∧ n ≤ A.1 ∧ plS A t l p A.1 = plS A t l p n) ?_ kF A.1 _ ⟨rfl, Nat.le_refl _, rfl⟩ (kF_lt (by omega))
  rintro n s ⟨rfl, hn, he⟩
  show kT (fNo_placeForF_B6 t l p n σ) _
  unfold fNo_placeForF_B6 fNo_placeForF_J31
  cases n with
  | zero =>
    refine kT_ltf (by omega) (by omega) (kT_exit (kT_ri ?_))
    rw [he, plS]
  | succ n =>
    refine kT_ltt (by omega) (by omega) ?_
    rw [show ((n + 1 : Nat) : Int) - 1 = n by omega]
    refine kT_callE (P_isBehindF h hv (by omega) ht hl hp) ?_
    by_cases c : bhN A n t l p
    · rw [if_pos c]
      refine kT_eqf (by omega) (by omega) (by omega) (kT_let (kT_inl ⟨n, by omega, ?_, by omega, ?_⟩))
      · refine Prod.ext ?_ rfl
        dsimp only
        omega
      · rw [he, plS, if_pos c]
    · rw [if_neg c]
      refine kT_eqt rfl (by omega) (kT_exit (kT_ri ?_))
      rw [he, plS, if_neg c]
theorem P_insertF {A : NL} {σ : KM} (h : fNt A σ) (hn : A.1 < 100) {q t l p : Int} (hq : 0 ≤ q ∧ q ≤ A.1) : kT (fNo_insertF q t l p σ) (fun z => fNt (inS A q t l p) z.2) := by
  unfold fNo_insertF
  rw [h.1]
  refine kT_ltt (by omega) (by omega) (kT_ltf (by omega) (by omega) (kT_ltf (by omega) (by omega) (kT_let ?_)))
  refine kT_cpy (by omega) (kT_cpy (by omega) (kT_cpy (by omega) (kT_wr (by omega) (kT_wr (by omega) (kT_wr (by omega) (kT_wf (kT_ri ?_)))))))
  dsimp only
  refine ⟨?_, fun i a c => ?_⟩
  · rw [ks_s]
    show σ 2 3 + 1 = ((A.1 + 1 : Nat) : Int)
    rw [h.1]
    omega
  · have c' : i < ((A.1 + 1 : Nat) : Int) := c
    have e : ∀ (f : Int → Int) (g : Int → Int) (v : Int), (∀ j : Int, 0 ≤ j → j < A.1 → g j = f j) → (if i = q then v else (if q + 1 ≤ i ∧ i < q + 1 + ((A.1 : Int) - q) then g (q + (i - (q + 1))) else g i)) = inF f q v i := by
      intro f g v hg
      unfold inF
      by_cases c2 : i = q
      · rw [if_pos c2, if_neg (by omega), if_pos c2]
      · rw [if_neg c2]
        by_cases c1 : i < q
        · rw [if_neg (by omega), if_pos c1]; exact hg i a (by omega)
        · rw [if_pos (by omega), if_neg c1, if_neg c2, show q + (i - (q + 1)) = i - 1 by omega]; exact hg (i - 1) (by omega) (by omega)
    refine ⟨?_, ?_, ?_⟩
    · refine Eq.trans ?_ (e A.2.1 (σ 13) t (fun j a c => (h.2 j a c).1))
      simp only [ks_ap, kCp_ap, and_true, true_and, and_false, false_and, and_self, if_true, if_false, reduceIte, Nat.reduceEqDiff, Int.reduceEq]
    · refine Eq.trans ?_ (e A.2.2.1 (σ 14) l (fun j a c => (h.2 j a c).2.1))
      simp only [ks_ap, kCp_ap, and_true, true_and, and_false, false_and, and_self, if_true, if_false, reduceIte, Nat.reduceEqDiff, Int.reduceEq]
    · refine Eq.trans ?_ (e A.2.2.2 (σ 15) p (fun j a c => (h.2 j a c).2.2))
      simp only [ks_ap, kCp_ap, and_true, true_and, and_false, false_and, and_self, if_true, if_false, reduceIte, Nat.reduceEqDiff, Int.reduceEq]
theorem P_remove {A : NL} {σ : KM} (h : cNt A σ) (hn : A.1 ≤ 100) {q : Int} (hq : 0 ≤ q ∧ q < A.1) : kT (fNo_remove q σ) (fun z => cNt (rvS A q) z.2) := by
  unfold fNo_remove
  rw [h.1]
  refine kT_ltf (by omega) (by omega) (kT_ltt (by omega) (by omega) (kT_let ?_))
  refine kT_cpy (by omega) (kT_cpy (by omega) (kT_cpy (by omega) (kT_wf (kT_ri ?_))))
  dsimp only
  refine ⟨?_, fun i a c => ?_⟩
  · rw [ks_s]
    show σ 3 3 - 1 = ((A.1 - 1 : Nat) : Int)
    rw [h.1]
    omega
  · have c' : i < ((A.1 - 1 : Nat) : Int) := c
    have e : ∀ (f : Int → Int) (g : Int → Int), (∀ j : Int, 0 ≤ j → j < A.1 → g j = f j) → (if q ≤ i ∧ i < q + ((A.1 : Int) - q - 1) then g (q + 1 + (i - q)) else g i) = rmF f q i := by
      intro f g hg
      unfold rmF
      by_cases c1 : i < q
      · rw [if_neg (by omega), if_pos c1]; exact hg i a (by omega)
      · rw [if_pos (by omega), if_neg c1, show q + 1 + (i - q) = i + 1 by omega]; exact hg (i + 1) (by omega) (by omega)
    refine ⟨?_, ?_, ?_⟩
    · refine Eq.trans ?_ (e A.2.1 (σ 16) (fun j a c => (h.2 j a c).1))
      simp only [ks_ap, kCp_ap, and_true, true_and, and_false, false_and, and_self, if_true, if_false, reduceIte, Nat.reduceEqDiff, Int.reduceEq]
    · refine Eq.trans ?_ (e A.2.2.1 (σ 17) (fun j a c => (h.2 j a c).2.1))
      simp only [ks_ap, kCp_ap, and_true, true_and, and_false, false_and, and_self, if_true, if_false, reduceIte, Nat.reduceEqDiff, Int.reduceEq]
    · refine Eq.trans ?_ (e A.2.2.2 (σ 18) (fun j a c => (h.2 j a c).2.2))
      simp only [ks_ap, kCp_ap, and_true, true_and, and_false, false_and, and_self, if_true, if_false, reduceIte, Nat.reduceEqDiff, Int.reduceEq]
def okM (A : NL) (d : Int) : Nat → Bool
  | 0 => true
  | i + 1 => okM A d i && decide (0 ≤ A.2.2.2 i + d ∧ A.2.2.2 i + d ≤ 127)
theorem okM_f {A : NL} {d : Int} {i : Nat} (h : okM A d i = false) : ∀ j : Nat, okM A d (i + j) = false
  | 0 => h
  | j + 1 => by
    show okM A d ((i + j) + 1) = false
    rw [okM, okM_f h j]
    rfl
theorem okM_t {A : NL} {d : Int} : ∀ n : Nat, okM A d n = true → ∀ i : Int, 0 ≤ i → i < n → 0 ≤ A.2.2.2 i + d ∧ A.2.2.2 i + d ≤ 127
  | 0, _, i, a, c => by omega
  | n + 1, h, i, a, c => by
    rw [okM, Bool.and_eq_true, decide_eq_true_eq] at h
    by_cases e : i = n
    · rw [e]; exact h.2
    · exact okM_t n h.1 i a (by omega)
theorem okM_s {A : NL} {d : Int} {i : Nat} (h : okM A d i = true) (h2 : 0 ≤ A.2.2.2 i + d ∧ A.2.2.2 i + d ≤ 127) : okM A d (i + 1) = true := by
  rw [okM, h, decide_eq_true h2]
  rfl
theorem okM_n {A : NL} {d : Int} {i n : Nat} (hi : i < n) (h2 : ¬ (0 ≤ A.2.2.2 i + d ∧ A.2.2.2 i + d ≤ 127)) : okM A d n = false := by
  have h : okM A d (i + 1) = false := by
    rw [okM, decide_eq_false h2, Bool.and_false]
  have := okM_f h (n - (i + 1))
  rw [show i + 1 + (n - (i + 1)) = n by omega] at this
  exact this
theorem vN_mv {A : NL} (hv : vN A) {d : Int} (h : okM A d A.1 = true) : vN (mvN A d) := by
  refine ⟨hv.1, fun i a c => ⟨(hv.2 i a c).1, ?_⟩⟩
  have := okM_t A.1 h i a c
  show 0 ≤ A.2.2.2 i + d ∧ A.2.2.2 i + d < 128
  omega
theorem P_canMove {A : NL} {σ : KM} (h : cNt A σ) (hv : vN A) {d : Int} (hd : -127 ≤ d ∧ d ≤ 127) : fNo_canMove d σ = some (if okM A d A.1 = true then 1 else 0, σ) := by
  refine kP ?_ (rfNo_canMove d σ)
  have n100 := hv.1
  unfold fNo_canMove fNo_canMove_L2
  refine kT_for (fun i s => s = ((i : Int), σ) ∧ okM A d i = true) A.1 ?_ ?_ 0 (by omega) kF _ ⟨rfl, rfl⟩ (kF_lt (by omega))
  · rintro i s hi ⟨rfl, ho⟩
    obtain ⟨g1, g2, g3⟩ := h.2 i (by omega) (by omega)
    have g := hv.2 i (by omega) (by omega)
    show kT (fNo_canMove_B2 d i σ) _
    unfold fNo_canMove_B2 fNo_canMove_J27
    rw [h.1]
    refine kT_ltt (by omega) (by omega) (kT_rd (by omega) ?_)
    rw [g3]
    refine kT_callE (P_outOf (by omega) (by omega) (by omega) σ) ?_
    by_cases c : A.2.2.2 i + d < 0 ∨ 127 < A.2.2.2 i + d
    · rw [if_pos c]
      refine kT_eqf (by omega) (by omega) (by omega) (kT_exit (kT_rz (by omega) ?_))
      rw [okM_n hi (by omega)]
      rfl
    · rw [if_neg c]
      exact kT_eqt rfl (by omega) (kT_let (kT_inl ⟨rfl, okM_s ho (by omega)⟩))
  · rintro s ⟨rfl, ho⟩
    show kT (fNo_canMove_B2 d (A.1 : Nat) σ) _
    unfold fNo_canMove_B2 fNo_canMove_J35
    rw [h.1]
    refine kT_ltf (by omega) (by omega) (kT_exit (kT_rz (by omega) ?_))
    rw [if_pos ho]
theorem P_move {A : NL} {σ : KM} (h : cNt A σ) (hn : A.1 ≤ 100) (d : Int) : kT (fNo_move d σ) (fun z => cNt (mvN A d) z.2) := by
  unfold fNo_move fNo_move_L2
  refine kT_for (fun i s => ∃ M : KM, s = ((i : Int), M) ∧ kFr wfNo_move σ M ∧ (∀ j : Int, 0 ≤ j → j < i → M 18 j = A.2.2.2 j + d) ∧ ∀ j : Int, i ≤ j → j < A.1 → M 18 j = A.2.2.2 j) A.1 ?_ ?_ 0 (by omega) kF _ ⟨σ, rfl, kFr.rf, fun j a c => by omega, fun j a c => (h.2 j (by omega) c).2.2⟩ (kF_lt (by omega))
  · rintro i s hi ⟨M, rfl, hf, h1, h2⟩
    have m3 : M 3 3 = σ 3 3 := hf.slot rfl
    show kT (fNo_move_B2 d i M) _
    unfold fNo_move_B2
    rw [m3, h.1]
    refine kT_ltt (by omega) (by omega) (kT_rd (by omega) (kT_wr (by omega) (kT_let (kT_inl ⟨_, rfl, hf.put rfl, fun j a c => ?_, fun j a c => ?_⟩))))
    · by_cases e : j = i
      · rw [e, ks_s, h2 i (by omega) (by omega)]
      · rw [ks_i e]; exact h1 j a (by omega)
    · rw [ks_i (by omega)]; exact h2 j (by omega) c
  · rintro s ⟨M, rfl, hf, h1, h2⟩
    have m3 : M 3 3 = σ 3 3 := hf.slot rfl
    have m16 : M 16 = σ 16 := hf.cell rfl
    have m17 : M 17 = σ 17 := hf.cell rfl
    show kT (fNo_move_B2 d (A.1 : Nat) M) _
    unfold fNo_move_B2 fNo_move_J26
    rw [m3, h.1]
    refine kT_ltf (by omega) (by omega) (kT_exit (kT_ri ⟨by dsimp only; rw [m3]; exact h.1, fun i a c => ?_⟩))
    dsimp only
    rw [m16, m17]
    exact ⟨(h.2 i a c).1, (h.2 i a c).2.1, h1 i a c⟩
