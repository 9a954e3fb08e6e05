/-! ===== load in the class ===== -/
def zV (R : NL) : Prop := R.1 ≤ 100 ∧ ∀ i : Int, 0 ≤ i → i < R.1 → okV (R.2.1 i) (R.2.2.1 i) (R.2.2.2 i)
def fldS (R : NL) : Nat → NL
  | 0 => (0, z0, z0, z0)
  | k + 1 => inS (fldS R k) (plS (fldS R k) (R.2.1 k) (R.2.2.1 k) (R.2.2.2 k) (fldS R k).1) (R.2.1 k) (R.2.2.1 k) (R.2.2.2 k)
theorem fldS_n (R : NL) : ∀ k : Nat, (fldS R k).1 = k
  | 0 => rfl
  | k + 1 => by
    have := fldS_n R k
    show (fldS R k).1 + 1 = k + 1
    omega
theorem fldS_v {R : NL} (hR : zV R) : ∀ k : Nat, k ≤ R.1 → vN (fldS R k)
  | 0, _ => ⟨Nat.zero_le _, fun i a c => by have c' : i < ((0 : Nat) : Int) := c; omega⟩
  | k + 1, h => by
    have e := fldS_n R k
    have pr := plS_r (fldS R k) (R.2.1 k) (R.2.2.1 k) (R.2.2.2 k) (fldS R k).1
    have hr := hR.1
    exact vN_in (fldS_v hR k (by omega)) (by omega) ⟨by omega, by omega⟩ (hR.2 k (by omega) (by omega))
theorem fldS_c {R Q : NL} : ∀ k : Nat, (∀ i : Int, 0 ≤ i → i < k → R.2.1 i = Q.2.1 i ∧ R.2.2.1 i = Q.2.2.1 i ∧ R.2.2.2 i = Q.2.2.2 i) → fldS R k = fldS Q k
  | 0, _ => rfl
  | k + 1, h => by
    have ih := fldS_c (R := R) (Q := Q) k (fun i a c => h i a (by omega))
    obtain ⟨h1, h2, h3⟩ := h k (by omega) (by omega)
    rw [fldS, fldS, ih, h1, h2, h3]
theorem fldS_ext (R : NL) (tk : Int) (c : Nat) (nm : Int → Int) (v : Int) : ∀ i : Nat, fldS (zext R tk c nm v) (R.1 + i) = zIn tk v nm (fldS R R.1) i
  | 0 => by
    show fldS (zext R tk c nm v) R.1 = fldS R R.1
    refine fldS_c R.1 (fun i a d => ?_)
    show (if i < R.1 then R.2.1 i else tk) = _ ∧ (if i < R.1 then R.2.2.1 i else v) = _ ∧ (if i < R.1 then R.2.2.2 i else nm (i - R.1)) = _
    rw [if_pos d, if_pos d, if_pos d]
    exact ⟨rfl, rfl, rfl⟩
  | i + 1 => by
    have ih := fldS_ext R tk c nm v i
    have e1 : (zext R tk c nm v).2.1 ((R.1 + i : Nat) : Int) = tk := by
      show (if ((R.1 + i : Nat) : Int) < R.1 then _ else tk) = tk
      rw [if_neg (by omega)]
    have e2 : (zext R tk c nm v).2.2.1 ((R.1 + i : Nat) : Int) = v := by
      show (if ((R.1 + i : Nat) : Int) < R.1 then _ else v) = v
      rw [if_neg (by omega)]
    have e3 : (zext R tk c nm v).2.2.2 ((R.1 + i : Nat) : Int) = nm i := by
      show (if ((R.1 + i : Nat) : Int) < R.1 then _ else nm (((R.1 + i : Nat) : Int) - R.1)) = nm i
      rw [if_neg (by omega), show ((R.1 + i : Nat) : Int) - R.1 = i by omega]
    show fldS (zext R tk c nm v) ((R.1 + i) + 1) = _
    rw [fldS, e1, e2, e3, ih, zIn]
theorem zV_ext {R : NL} (hR : zV R) {tk : Int} {c : Nat} {nm : Int → Int} {v : Int} (hc : R.1 + c ≤ 100) (h : ∀ i : Int, 0 ≤ i → i < c → okV tk v (nm i)) : zV (zext R tk c nm v) := by
  refine ⟨hc, fun i a d => ?_⟩
  have d' : i < ((R.1 + c : Nat) : Int) := d
  show okV (if i < R.1 then R.2.1 i else tk) (if i < R.1 then R.2.2.1 i else v) (if i < R.1 then R.2.2.2 i else nm (i - R.1))
  by_cases e : i < R.1
  · rw [if_pos e, if_pos e, if_pos e]; exact hR.2 i a e
  · rw [if_neg e, if_neg e, if_neg e]; exact h (i - R.1) (by omega) (by omega)
def zR0 : NL := (0, z0, z0, z0)
theorem zV_0 : zV zR0 := ⟨Nat.zero_le _, fun i a c => by have c' : i < ((0 : Nat) : Int) := c; omega⟩
def zLd (tp : Int → Int) (n : Nat) : zE ⊕ NL := zLoad tp n (n + 1) 0 0 zR0
theorem C_read {n : Nat} {tp : Int → Int} {σ : KM} {held : Nat} (hT : zT held tp) (h1 : σ 1 1 = held) (h11 : ∀ i : Int, 0 ≤ i → i < held → σ 11 i = tp i) (hn : n ≤ held) : kT (fTR_read n σ) (fun z => z.2 1 1 = 0 ∧ zO (zLd tp n) (fun e => z.2 1 3 = e.1 ∧ z.2 1 4 = e.2 ∧ (1 ≤ e.1 ∧ e.1 ≤ 4) ∧ (0 ≤ e.2 ∧ e.2 ≤ 700)) (fun R => zV R ∧ z.2 1 3 = 0 ∧ z.2 1 4 = -1 ∧ fNt (fldS R R.1) z.2)) := by
  have n700 := hT.1
  have hTn : zT n tp := ⟨by omega, fun i a c => hT.2 i a (by omega)⟩
  unfold fTR_read
  rw [h1]
  refine kT_mn (by omega) (by omega) ?_
  have en : (if (held : Int) < (n : Int) then (held : Int) else (n : Int)) = n := by rw [if_neg (by omega)]
  rw [en]
  refine kT_wf (kT_wf (kT_wf (kT_wf (kT_wf (kT_wf ?_)))))
  have hB : zB (ks (ks (ks (ks (ks (ks σ 1 5 n) 1 6 0) 1 7 0) 1 3 0) 1 4 (-1)) 2 3 0) 0 0 (fldS zR0 zR0.1) (ks (ks (ks (ks (ks (ks σ 1 5 n) 1 6 0) 1 7 0) 1 3 0) 1 4 (-1)) 2 3 0) := by
    refine ⟨kFr.rf, ?_, ?_, ⟨?_, ?_⟩, ks_s _ _ _ _, fun i a c => ?_⟩
    · rw [ks_c (by decide), ks_i (by decide), ks_i (by decide), ks_i (by decide), ks_s]; rfl
    · rw [ks_c (by decide), ks_i (by decide), ks_i (by decide), ks_s]
    · rw [ks_c (by decide), ks_i (by decide), ks_s]
    · rw [ks_c (by decide), ks_s]
    · have c' : i < ((0 : Nat) : Int) := c
      omega
  have h0 : zC0 n tp (ks (ks (ks (ks (ks (ks σ 1 5 n) 1 6 0) 1 7 0) 1 3 0) 1 4 (-1)) 2 3 0) := by
    refine ⟨hTn, ?_, fun i a c => h11 i a (by omega)⟩
    rw [ks_c (by decide), ks_i (by decide), ks_i (by decide), ks_i (by decide), ks_i (by decide), ks_s]
  generalize ks (ks (ks (ks (ks (ks σ 1 5 n) 1 6 0) 1 7 0) 1 3 0) 1 4 (-1)) 2 3 0 = σ0 at hB h0 ⊢
  unfold fTR_read_L42
  refine kT_for (fun i s => ∃ M : KM, s = ((i : Int), M) ∧ M 1 5 = n ∧ ((∃ (a : Nat) (tk : Int) (R : NL), (i ≤ a ∧ a ≤ n) ∧ (0 ≤ tk ∧ tk ≤ 512) ∧ zV R ∧ zB σ0 a tk (fldS R R.1) M ∧ zLd tp n = zLoad tp n (n + 1 - i) a tk R) ∨ ∃ e, zCF σ0 e M ∧ zLd tp n = .inl e)) (n + 1) ?_ ?_ 0 (by omega) kF _ ⟨σ0, rfl, h0.2.1, Or.inl ⟨0, 0, zR0, by omega, by omega, zV_0, hB, rfl⟩⟩ (kF_lt (by omega))
  · rintro i s hi ⟨M, rfl, m5, hM⟩
    show kT (fTR_read_B42 i M) _
    unfold fTR_read_B42 fTR_read_J65 fTR_read_J78
    rw [m5]
    refine kT_ltf (by omega) (by omega) ?_
    rcases hM with ⟨a, tk, R, ha, htk, hR, hM, he⟩ | ⟨e, hM, he⟩
    · have k1 := zch_r (a := a) hTn
      rw [hM.2.2.2.1.1]
      refine kT_eqt rfl (by omega) (kT_callE (P_next h0 hM.1 hM.2.1 ha.2) ?_)
      have el : zLoad tp n (n + 1 - i) a tk R = if zch tp n a = -1 then .inr R else match zPart tp n a tk R.1 with
          | .inl e => .inl e
          | .inr q => zLoad tp n (n + 1 - (i + 1)) q.1 q.2.1 (zext R tk q.2.2.1 q.2.2.2.1 q.2.2.2.2) := by
        rw [show n + 1 - i = (n + 1 - (i + 1)) + 1 by omega, zLoad]
        rfl
      have h1 : zB σ0 (zsk tp n a) tk (fldS R R.1) (ks M 1 6 (zsk tp n a : Nat)) := by
        obtain ⟨g1, g2, g3, g4, g5⟩ := hM
        refine ⟨g1.putf rfl, ks_s _ _ _ _, ?_, ⟨?_, ?_⟩, g5⟩
        · rw [ks_i (by decide)]; exact g3
        · rw [ks_i (by decide)]; exact g4.1
        · rw [ks_i (by decide)]; exact g4.2
      have m5' : ks M 1 6 (zsk tp n a : Nat) 1 5 = n := by rw [ks_i (by decide)]; exact m5
      generalize ks M 1 6 (zsk tp n a : Nat) = M1 at h1 m5' ⊢
      refine kT_eq (by omega) (by omega) (fun c1 => ?_) (fun c1 => ?_)
      · rw [if_pos c1] at el
        refine kT_exit (kT_wf (kT_ri ⟨by dsimp only; exact ks_s _ _ _ _, ?_⟩))
        rw [he, el]
        obtain ⟨g1, g2, g3, g4, g5⟩ := h1
        refine ⟨hR, ?_, ?_, g5⟩
        · dsimp only
          rw [ks_i (by decide)]; exact g4.1
        · dsimp only
          rw [ks_i (by decide)]; exact g4.2
      · rw [if_neg c1] at el
        have r1 := zsk_r (tp := tp) ha.2
        have hv := fldS_v hR R.1 (Nat.le_refl _)
        have en := fldS_n R R.1
        refine kT_callT (kT.fr (C_readPart h0 h1 r1.2 htk hv) (rfTR_readPart M1)) (fun r τ hz => ?_)
        obtain ⟨hz, hzf⟩ := hz
        dsimp only at hz hzf
        have ez : zPart tp n (zsk tp n a) tk (fldS R R.1).1 = zPart tp n a tk R.1 := by
          unfold zPart zName zpi zac za2 zy
          rw [zch_sk ha.2, zsk_sk ha.2, en]
        rw [ez] at hz
        have t5 : τ 1 5 = n := by rw [hzf.slot rfl]; exact m5'
        cases hq : zPart tp n a tk R.1 with
        | inl e =>
          rw [hq] at hz el
          exact kT_let (kT_inl ⟨τ, rfl, t5, Or.inr ⟨e, hz, by rw [he, el]⟩⟩)
        | inr q =>
          rw [hq] at hz el
          obtain ⟨c', nm', hz⟩ := hz
          obtain ⟨q1, q2, q3, q4⟩ := zPart_ok hTn ha.2 htk hR.1 c1 hq
          have ef := fldS_ext R tk q.2.2.1 q.2.2.2.1 q.2.2.2.2 q.2.2.1
          rw [← ef] at hz
          refine kT_let (kT_inl ⟨τ, rfl, t5, Or.inl ⟨q.1, q.2.1, zext R tk q.2.2.1 q.2.2.2.1 q.2.2.2.2, by omega, q2, zV_ext hR q3 q4, ⟨hz.1, hz.2.1, hz.2.2.1, hz.2.2.2.1, hz.2.2.2.2.1⟩, by rw [he, el]⟩⟩)
    · have er := hM.2.2.2.1
      rw [hM.2.1]
      refine kT_eqf (by omega) (by omega) (by omega) (kT_exit (kT_wf (kT_ri ⟨by dsimp only; exact ks_s _ _ _ _, ?_⟩)))
      rw [he]
      refine ⟨?_, ?_, hM.2.2.2⟩
      · dsimp only
        rw [ks_i (by decide)]; exact hM.2.1
      · dsimp only
        rw [ks_i (by decide)]; exact hM.2.2.1
  · rintro s ⟨M, rfl, m5, hM⟩
    show kT (fTR_read_B42 ((n + 1 : Nat) : Int) M) _
    unfold fTR_read_B42 fTR_read_J78
    rw [m5]
    refine kT_ltt (by omega) (by omega) (kT_exit (kT_wf (kT_ri ⟨by dsimp only; exact ks_s _ _ _ _, ?_⟩)))
    rcases hM with ⟨a, tk, R, ha, _⟩ | ⟨e, hM, he⟩
    · omega
    · rw [he]
      refine ⟨?_, ?_, hM.2.2.2⟩
      · dsimp only
        rw [ks_i (by decide)]; exact hM.2.1
      · dsimp only
        rw [ks_i (by decide)]; exact hM.2.2.1
def qLoad (S : KSt) (x : Int) : Int := if x < 0 ∨ (stn S : Int) < x then -3 else match zLd (stp S) x.toNat with
  | .inl e => -30 - e.1
  | .inr R => R.1
def sLoad (S : KSt) (x : Int) : KSt := if x < 0 ∨ (stn S : Int) < x then S else match zLd (stp S) x.toNat with
  | .inl e => (S.1, S.2.1, (0, stp S), e)
  | .inr R => (bN (sb S) (fldS R R.1), (0, fun _ => fldS R R.1), (0, stp S), (0, -1))
theorem C_load {S : KSt} {σ : KM} (hS : kSt S) (h : cS S σ) {x : Int} (hx : i32 x) : kT (fP_load x σ) (fun z => z.1 = qLoad S x ∧ cS (sLoad S x) z.2 ∧ kSt (sLoad S x)) := by
  have ht := h.2.2.1
  have t700 := hS.2.2.1.1
  unfold i32 at hx
  unfold fP_load fP_load_J15 qLoad sLoad
  rw [ht.1]
  refine kT_lt (by omega) (by omega) (fun c1 => ?_) (fun c1 => ?_)
  · rw [if_pos (Or.inl c1), if_pos (Or.inl c1)]
    exact kT_ri ⟨rfl, h, hS⟩
  refine kT_lt (by omega) (by omega) (fun c2 => ?_) (fun c2 => ?_)
  · rw [if_pos (Or.inr c2), if_pos (Or.inr c2)]
    exact kT_ri ⟨rfl, h, hS⟩
  rw [if_neg (by omega), if_neg (by omega)]
  obtain ⟨n, rfl⟩ : ∃ n : Nat, x = (n : Int) := ⟨x.toNat, by omega⟩
  rw [Int.toNat_natCast]
  refine kT_callT (kT.fr (C_read (n := n) hS.2.2.1 ht.1 ht.2 (by omega)) (rfTR_read _ σ)) (fun r τ hz => ?_)
  obtain ⟨⟨z1, z2⟩, z3⟩ := hz
  dsimp only at z1 z2 z3
  obtain ⟨k1, ⟨k2, k3, k4⟩, k5, k6⟩ := hS
  cases hq : zLd (stp S) n with
  | inl e =>
    rw [hq] at z2
    obtain ⟨y1, y2, y3, y4⟩ := z2
    rw [y1]
    refine kT_eqf (by omega) (by omega) (by omega) (kT_ri ⟨rfl, ⟨h.1.tape z3 (fun c h1 h2 h3 => ?_), h.2.1.fr z3 rfl, ⟨z1, fun i a c => ?_⟩, y1, y2⟩, k1, ⟨k2, k3, k4⟩, ⟨Nat.zero_le _, fun i a c => ?_⟩, ?_⟩)
    · simp; omega
    · have c' : i < ((0 : Nat) : Int) := c
      omega
    · have c' : i < ((0 : Nat) : Int) := c
      omega
    · exact ⟨by show 0 ≤ e.1; omega, by show e.1 ≤ 4; omega, by show -1 ≤ e.2; omega, by show e.2 ≤ 700; omega⟩
  | inr R =>
    rw [hq] at z2
    obtain ⟨hR, y1, y2, y3⟩ := z2
    rw [y1]
    have hv := fldS_v hR R.1 (Nat.le_refl _)
    have en := fldS_n R R.1
    have r100 := hR.1
    refine kT_eqt rfl (by omega) ?_
    unfold fNo_become
    refine kT_call (kT_cpy (by omega) (kT_cpy (by omega) (kT_cpy (by omega) (kT_wf (kT_ri ?_)))))
    dsimp only
    have hN : cNt (fldS R R.1) (ks (kCp (kCp (kCp τ 13 16 0 0 100) 14 17 0 0 100) 15 18 0 0 100) 3 3 (kCp (kCp (kCp τ 13 16 0 0 100) 14 17 0 0 100) 15 18 0 0 100 2 3)) := by
      refine ⟨?_, fun i a c => ?_⟩
      · rw [ks_s]
        exact y3.1
      · obtain ⟨g1, g2, g3⟩ := y3.2 i a c
        rw [en] at c
        have e : ∀ f : Int → Int, (if (0 : Int) ≤ i ∧ i < 0 + 100 then f (0 + (i - 0)) else f i) = f i := fun f => by
          rw [if_pos (by omega), show (0 : Int) + (i - 0) = i by omega]
        rw [← g1, ← g2, ← g3]
        refine ⟨?_, ?_, ?_⟩
        · refine Eq.trans (b := if (0 : Int) ≤ i ∧ i < 0 + 100 then τ 13 (0 + (i - 0)) else τ 16 i) (by simp only [ks_ap, kCp_ap, and_true, true_and, and_false, false_and, and_self, if_true, if_false, reduceIte, Nat.reduceEqDiff, Int.reduceEq]) ?_
          rw [if_pos (by omega), show (0 : Int) + (i - 0) = i by omega]
        · refine Eq.trans (b := if (0 : Int) ≤ i ∧ i < 0 + 100 then τ 14 (0 + (i - 0)) else τ 17 i) (by simp only [ks_ap, kCp_ap, and_true, true_and, and_false, false_and, and_self, if_true, if_false, reduceIte, Nat.reduceEqDiff, Int.reduceEq]) ?_
          rw [if_pos (by omega), show (0 : Int) + (i - 0) = i by omega]
        · refine Eq.trans (b := if (0 : Int) ≤ i ∧ i < 0 + 100 then τ 15 (0 + (i - 0)) else τ 18 i) (by simp only [ks_ap, kCp_ap, and_true, true_and, and_false, false_and, and_self, if_true, if_false, reduceIte, Nat.reduceEqDiff, Int.reduceEq]) ?_
          rw [if_pos (by omega), show (0 : Int) + (i - 0) = i by omega]
    have hf1 : kFr [(3, some 3), (16, none), (17, none), (18, none)] τ (ks (kCp (kCp (kCp τ 13 16 0 0 100) 14 17 0 0 100) 15 18 0 0 100) 3 3 (kCp (kCp (kCp τ 13 16 0 0 100) 14 17 0 0 100) 15 18 0 0 100 2 3)) := (((kFr.rf.cp rfl).cp rfl).cp rfl).putf rfl
    generalize ks (kCp (kCp (kCp τ 13 16 0 0 100) 14 17 0 0 100) 15 18 0 0 100) 3 3 (kCp (kCp (kCp τ 13 16 0 0 100) 14 17 0 0 100) 15 18 0 0 100 2 3) = T at hN hf1 ⊢
    unfold fHi_forget
    refine kT_call (kT_wf (kT_ri ?_))
    dsimp only
    have hN2 : cNt (fldS R R.1) (ks T 4 5 0) := hN
    have hf : kFr wfP_load σ (ks T 4 5 0) := ((z3.mono rfl).trans (hf1.mono rfl)).putf rfl
    have f11 : T 1 1 = τ 1 1 := hf1.slot rfl
    have f13 : T 1 3 = τ 1 3 := hf1.slot rfl
    have f14 : T 1 4 = τ 1 4 := hf1.slot rfl
    refine kT_callE C_notesChanged (kT_ri ⟨?_, ⟨CI_notes h.1 hf rfl rfl rfl hN2, ⟨by show ks T 4 5 0 4 5 = ((0 : Nat) : Int); exact ks_s _ _ _ _, fun j hj => ?_⟩, ⟨?_, fun i a c => ?_⟩, ?_, ?_⟩, kB_N k1 hv, ⟨Nat.zero_le _, rfl, fun j hj => hv⟩, ⟨Nat.zero_le _, fun i a c => ?_⟩, ?_⟩)
    · show T 3 3 = (R.1 : Int)
      rw [hN.1, en]
    · have hj' : j < 0 := hj
      omega
    · show T 1 1 = ((0 : Nat) : Int)
      rw [f11, z1]; rfl
    · have c' : i < ((0 : Nat) : Int) := c
      omega
    · show T 1 3 = 0
      rw [f13]; exact y1
    · show T 1 4 = -1
      rw [f14]; exact y2
    · have c' : i < ((0 : Nat) : Int) := c
      omega
    · exact ⟨by show (0 : Int) ≤ 0; omega, by show (0 : Int) ≤ 4; omega, by show (-1 : Int) ≤ -1; omega, by show (-1 : Int) ≤ 700; omega⟩
