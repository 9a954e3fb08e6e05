/-! ===== the class reads a text ===== -/
abbrev pW : List (Nat × Option Int) := [(1, some 3), (1, some 4), (1, some 6), (1, some 7), (1, some 9), (2, some 3), (12, none), (13, none), (14, none), (15, none)]
def zO {α : Type} (o : zE ⊕ α) (A : zE → Prop) (B : α → Prop) : Prop := match o with
  | .inl e => A e
  | .inr q => B q
def zC0 (n : Nat) (tp : Int → Int) (σ0 : KM) : Prop := zT n tp ∧ σ0 1 5 = n ∧ ∀ i : Int, 0 ≤ i → i < n → σ0 11 i = tp i
def zC (σ0 : KM) (a : Nat) (tk : Int) (F : NL) (c : Nat) (nm : Int → Int) (σ : KM) : Prop := kFr pW σ0 σ ∧ σ 1 6 = a ∧ σ 1 7 = tk ∧ (σ 1 3 = 0 ∧ σ 1 4 = -1) ∧ fNt F σ ∧ σ 1 9 = c ∧ ∀ i : Int, 0 ≤ i → i < c → σ 12 i = nm i
def zCF (σ0 : KM) (e : zE) (σ : KM) : Prop := kFr pW σ0 σ ∧ σ 1 3 = e.1 ∧ σ 1 4 = e.2 ∧ (1 ≤ e.1 ∧ e.1 ≤ 4) ∧ (0 ≤ e.2 ∧ e.2 ≤ 700)
theorem ks_id {σ : KM} {c : Nat} {i v : Int} (h : σ c i = v) : ks σ c i v = σ := by
  funext c' i'
  rw [ks_ap]
  split
  · next e => rw [e.1, e.2, h]
  · rfl
theorem ks_ks (σ : KM) (c : Nat) (i v w : Int) : ks (ks σ c i v) c i w = ks σ c i w := by
  funext c' i'
  rw [ks_ap, ks_ap, ks_ap]
  split
  · rfl
  · rfl
theorem zC.at {σ0 σ : KM} {a : Nat} {tk : Int} {F : NL} {c : Nat} {nm : Int → Int} (h : zC σ0 a tk F c nm σ) (a' : Nat) : zC σ0 a' tk F c nm (ks σ 1 6 a') := by
  obtain ⟨h1, h2, h3, h4, h5, h6, h7⟩ := h
  refine ⟨h1.putf rfl, ks_s _ _ _ _, ?_, ⟨?_, ?_⟩, h5, ?_, h7⟩
  · rw [ks_i (by decide)]; exact h3
  · rw [ks_i (by decide)]; exact h4.1
  · rw [ks_i (by decide)]; exact h4.2
  · rw [ks_i (by decide)]; exact h6
theorem P_next {n a : Nat} {tp : Int → Int} {σ0 σ : KM} (h0 : zC0 n tp σ0) (hf : kFr pW σ0 σ) (h6 : σ 1 6 = a) (ha : a ≤ n) : fTR_next σ = some (zch tp n a, ks σ 1 6 (zsk tp n a : Nat)) := by
  refine kT.eq ?_
  have hT := h0.1
  have n700 := hT.1
  unfold fTR_next fTR_next_L0
  refine kT_iter (fun k s => ∃ a' : Nat, s = ks σ 1 6 (a' : Nat) ∧ k = n - a' ∧ a' ≤ n ∧ zsk tp n a' = zsk tp n a) ?_ kF (n - a) σ ⟨a, (ks_id h6).symm, rfl, ha, rfl⟩ (kF_lt (by omega))
  rintro k s ⟨a', rfl, rfl, ha', hs⟩
  have e5 : ks σ 1 6 (a' : Nat) 1 5 = n := by rw [ks_i (by decide), hf.slot rfl]; exact h0.2.1
  have e6 : ks σ 1 6 (a' : Nat) 1 6 = a' := ks_s _ _ _ _
  have e11 : ks σ 1 6 (a' : Nat) 11 = σ0 11 := by show σ 11 = σ0 11; exact hf.cell rfl
  show kT (fTR_next_B0 (ks σ 1 6 (a' : Nat))) _
  unfold fTR_next_B0 fTR_next_J38 fTR_next_J62
  rw [e5, e6]
  refine kT_lt (by omega) (by omega) (fun c => ?_) (fun c => ?_)
  · have t := hT.2 a' (by omega) (by omega)
    have e := h0.2.2 a' (by omega) (by omega)
    refine kT_rd (by omega) ?_
    rw [e11, e]
    refine kT_eq (by omega) (by omega) (fun d => ?_) (fun d => ?_)
    · refine kT_wf (kT_inl ⟨n - (a' + 1), by omega, a' + 1, ?_, rfl, by omega, ?_⟩)
      · rw [ks_ks, show (a' : Int) + 1 = ((a' + 1 : Nat) : Int) by omega]
      · rw [← hs]
        unfold zsk
        exact (zru_y (by omega) (by unfold zBl; exact decide_eq_true d)).symm
    · have es : zsk tp n a' = a' := zru_n (Or.inr (by unfold zBl; exact decide_eq_false d))
      refine kT_exit (kT_ltt (by omega) (by omega) (kT_rd (by omega) (kT_ri ?_)))
      rw [e11, e, ← hs, es]
      unfold zch
      rw [← hs, es, if_pos (by omega)]
  · have es : zsk tp n a' = a' := zru_n (Or.inl (by omega))
    refine kT_exit (kT_ltf (by omega) (by omega) (kT_ri ?_))
    rw [← hs, es]
    unfold zch
    rw [← hs, es, if_neg (by omega)]
theorem P_fail {σ : KM} (h : σ 1 3 = 0) (x y : Int) : fTR_fail x y σ = some (0, ks (ks σ 1 3 x) 1 4 y) := by
  refine kT.eq ?_
  unfold fTR_fail fTR_fail_J17
  rw [h]
  exact kT_eqt rfl (by omega) (kT_wf (kT_wf (kT_ri rfl)))
theorem zCF_i {σ0 σ : KM} (hf : kFr pW σ0 σ) {x y : Int} (hx : 1 ≤ x ∧ x ≤ 4) (hy : 0 ≤ y ∧ y ≤ 700) : zCF σ0 (x, y) (ks (ks σ 1 3 x) 1 4 y) := by
  refine ⟨(hf.putf rfl).putf rfl, ?_, ks_s _ _ _ _, hx, hy⟩
  rw [ks_i (by decide), ks_s]
theorem P_isLetter {x : Int} (hx : i32 x) (σ : KM) : fTR_isLetter x σ = some (if zL x then 1 else 0, σ) := by
  refine kT.eq ?_
  unfold i32 at hx
  unfold fTR_isLetter fTR_isLetter_J16 fTR_isLetter_J17
  refine kT_lt (by omega) (by omega) (fun c => kT_rz (by omega) (by rw [if_neg (by omega)])) (fun c => ?_)
  refine kT_lt (by omega) (by omega) (fun c2 => kT_rz (by omega) (by rw [if_neg (by omega)])) (fun c2 => kT_rz (by omega) (by rw [if_pos (by omega)]))
theorem P_isDigit {x : Int} (hx : i32 x) (σ : KM) : fTR_isDigit x σ = some (if zD x then 1 else 0, σ) := by
  refine kT.eq ?_
  unfold i32 at hx
  unfold fTR_isDigit fTR_isDigit_J16 fTR_isDigit_J17
  refine kT_lt (by omega) (by omega) (fun c => kT_rz (by omega) (by rw [if_neg (by omega)])) (fun c => ?_)
  refine kT_lt (by omega) (by omega) (fun c2 => kT_rz (by omega) (by rw [if_neg (by omega)])) (fun c2 => kT_rz (by omega) (by rw [if_pos (by omega)]))
theorem P_readAccidental {n a : Nat} {tp : Int → Int} {σ0 σ : KM} (h0 : zC0 n tp σ0) (hf : kFr pW σ0 σ) (h6 : σ 1 6 = ((zsk tp n a + 1 : Nat) : Int)) (ha : zsk tp n a + 1 ≤ n) : fTR_readAccidental σ = some (zac tp n a, ks σ 1 6 (za2 tp n a : Nat)) := by
  refine kT.eq ?_
  have r := zch_r (a := zsk tp n a + 1) h0.1
  have er : zch tp n (zsk tp n a + 1) = zy tp n a := rfl
  unfold fTR_readAccidental
  refine kT_callE (P_next h0 hf h6 ha) ?_
  have go : (zy tp n a = 35 ∨ zy tp n a = 33) → kT (fTR_readAccidental_J19 (zch tp n (zsk tp n a + 1)) (ks σ 1 6 (zsk tp n (zsk tp n a + 1) : Nat))) (fun y => y = (zac tp n a, ks σ 1 6 (za2 tp n a : Nat))) := by
    intro hy
    have e2 : za2 tp n a = zsk tp n (zsk tp n a + 1) + 1 := by unfold za2; rw [if_pos hy]
    unfold fTR_readAccidental_J19 fTR_readAccidental_J40
    rw [ks_s]
    refine kT_wf ?_
    rw [ks_ks, show ((zsk tp n (zsk tp n a + 1) : Nat) : Int) + 1 = (za2 tp n a : Nat) by rw [e2]; omega]
    refine kT_eq (by omega) (by omega) (fun c => ?_) (fun c => ?_)
    · refine kT_ri ?_
      unfold zac
      rw [if_pos (by rw [← er]; exact c)]
    · refine kT_ri ?_
      unfold zac
      rw [if_neg (by rw [← er]; exact c), if_pos (by omega)]
  refine kT_eq (by omega) (by omega) (fun c => go (by omega)) (fun c => ?_)
  refine kT_eq (by omega) (by omega) (fun c2 => go (by omega)) (fun c2 => kT_ri ?_)
  unfold zac za2
  rw [if_neg (by omega), if_neg (by omega), if_neg (by omega)]
theorem P_isNamed {c : Nat} {nm : Int → Int} {σ : KM} (h9 : σ 1 9 = c) (hc : c ≤ 6) (h12 : ∀ i : Int, 0 ≤ i → i < c → σ 12 i = nm i) (hr : ∀ i : Int, 0 ≤ i → i < c → 0 ≤ nm i ∧ nm i ≤ 127) {p : Int} (hp : i32 p) : fTR_isNamed p σ = some (if zNm nm p c = true then 1 else 0, σ) := by
  refine kP ?_ (rfTR_isNamed p σ)
  unfold i32 at hp
  unfold fTR_isNamed fTR_isNamed_L2
  refine kT_for (fun i s => s = ((i : Int), σ) ∧ zNm nm p i = false) c ?_ ?_ 0 (by omega) kF _ ⟨rfl, rfl⟩ (kF_lt (by omega))
  · rintro i s hi ⟨rfl, hn⟩
    have r := hr i (by omega) (by omega)
    show kT (fTR_isNamed_B2 p i σ) _
    unfold fTR_isNamed_B2 fTR_isNamed_J20
    rw [h9]
    refine kT_ltt (by omega) (by omega) (kT_rd (by omega) ?_)
    rw [h12 i (by omega) (by omega)]
    refine kT_eq (by omega) (by omega) (fun d => ?_) (fun d => ?_)
    · refine kT_exit (kT_rz (by omega) ?_)
      rw [if_pos (zNm_t c i hi d)]
    · refine kT_let (kT_inl ⟨rfl, ?_⟩)
      rw [zNm, hn, decide_eq_false d]
      rfl
  · rintro s ⟨rfl, hn⟩
    show kT (fTR_isNamed_B2 p (c : Nat) σ) _
    unfold fTR_isNamed_B2 fTR_isNamed_J28
    rw [h9]
    refine kT_ltf (by omega) (by omega) (kT_exit (kT_rz (by omega) ?_))
    rw [hn]
    rfl
theorem k_sv4 {x : Int} (h : zL x) : k_sv 4 (x - 97).toNat = zst x := by
  rcases (show x = 97 ∨ x = 98 ∨ x = 99 ∨ x = 100 ∨ x = 101 ∨ x = 102 ∨ x = 103 by omega) with rfl | rfl | rfl | rfl | rfl | rfl | rfl <;> rfl
theorem C_readName {n a c : Nat} {tp : Int → Int} {σ0 σ : KM} {tk : Int} {F : NL} {nm : Int → Int} (h0 : zC0 n tp σ0) (h : zC σ0 a tk F c nm σ) (ha : a ≤ n) (hc : c ≤ 6) (hF : F.1 + c ≤ 100) (hr : ∀ i : Int, 0 ≤ i → i < c → 0 ≤ nm i ∧ nm i ≤ 127) : kT (fTR_readName σ) (fun z => zO (zName tp n a c F.1 nm) (fun e => zCF σ0 e z.2) (fun q => zC σ0 q.1 tk F (c + 1) (zup nm c q.2) z.2)) := by
  have hT := h0.1
  have n700 := hT.1
  have r1 := zsk_r (tp := tp) ha
  have k1 := zch_r (a := a) hT
  unfold fTR_readName
  refine kT_callE (P_next h0 h.1 h.2.1 ha) ?_
  have h1 := h.at (zsk tp n a)
  generalize ks σ 1 6 (zsk tp n a : Nat) = M at h1 ⊢
  rw [h1.2.1]
  refine kT_let (kT_callE (P_isLetter (by unfold i32; omega) M) ?_)
  unfold zName
  by_cases c1 : zL (zch tp n a)
  · rw [if_pos c1, if_neg (fun hh => hh c1)]
    have k2 := k1.2.2 (by omega)
    refine kT_eqf (by omega) (by omega) (by omega) ?_
    rw [h1.2.2.2.2.2.1, h1.2.2.2.2.1.1]
    have bad : ∀ {G : Option (Int × KM)}, (6 ≤ c ∨ 100 ≤ F.1 + c) → G = fTR_readName_J50 ((zsk tp n a : Nat) : Int) M → kT G (fun z => zO (if 6 ≤ c ∨ 100 ≤ F.1 + c then .inl (3, (zsk tp n a : Int)) else if ¬ zD (zch tp n (za2 tp n a)) then .inl (1, (zsk tp n (za2 tp n a) : Int)) else if (zpi tp n a < 0 ∨ 127 < zpi tp n a) ∨ zNm nm (zpi tp n a) c = true then .inl (3, (zsk tp n a : Int)) else .inr (zsk tp n (za2 tp n a) + 1, zpi tp n a)) (fun e => zCF σ0 e z.2) (fun q => zC σ0 q.1 tk F (c + 1) (zup nm c q.2) z.2)) := by
      intro G hb hG
      rw [hG, if_pos hb]
      unfold fTR_readName_J50
      refine kT_callE (P_fail h1.2.2.2.1.1 3 _) (kT_ri ?_)
      exact zCF_i h1.1 (by omega) (by omega)
    refine kT_lt (by omega) (by omega) (fun d1 => ?_) (fun d1 => bad (by omega) rfl)
    refine kT_lt (by omega) (by omega) (fun d2 => ?_) (fun d2 => bad (by omega) rfl)
    rw [if_neg (show ¬ (6 ≤ c ∨ 100 ≤ F.1 + c) by omega), h1.2.1]
    refine kT_wf (kT_rs (by omega) ?_)
    rw [k_sv4 c1]
    have h2 := h1.at (zsk tp n a + 1)
    rw [show ((zsk tp n a : Nat) : Int) + 1 = ((zsk tp n a + 1 : Nat) : Int) by omega]
    generalize ks M 1 6 ((zsk tp n a + 1 : Nat) : Int) = M2 at h2 ⊢
    have r2 := za2_r (a := a) hT (by omega)
    have r3 := zsk_r (tp := tp) r2.2
    refine kT_callE (P_readAccidental h0 h2.1 h2.2.1 (by omega)) (kT_let ?_)
    have h3 := h2.at (za2 tp n a)
    generalize ks M2 1 6 (za2 tp n a : Nat) = M3 at h3 ⊢
    have k3 := zch_r (a := za2 tp n a) hT
    refine kT_callE (P_next h0 h3.1 h3.2.1 r2.2) ?_
    have h4 := h3.at (zsk tp n (za2 tp n a))
    generalize ks M3 1 6 (zsk tp n (za2 tp n a) : Nat) = M4 at h4 ⊢
    refine kT_callE (P_isDigit (by unfold i32; omega) M4) ?_
    by_cases c3 : zD (zch tp n (za2 tp n a))
    · rw [if_pos c3, if_neg (fun hh => hh c3), h4.2.1]
      have k4 := k3.2.2 (by omega)
      refine kT_eqf (by omega) (by omega) (by omega) (kT_wf (kT_let ?_))
      rw [show ((zsk tp n (za2 tp n a) : Nat) : Int) + 1 = ((zsk tp n (za2 tp n a) + 1 : Nat) : Int) by omega]
      have h5 := h4.at (zsk tp n (za2 tp n a) + 1)
      generalize ks M4 1 6 ((zsk tp n (za2 tp n a) + 1 : Nat) : Int) = M5 at h5 ⊢
      have s1 := zst_r (zch tp n a)
      have s2 : -1 ≤ zac tp n a ∧ zac tp n a ≤ 1 := by
        unfold zac
        split
        · omega
        · split <;> omega
      have ep : zst (zch tp n a) + zac tp n a + 12 * (zch tp n (za2 tp n a) - 48 + 1) = zpi tp n a := rfl
      rw [ep]
      have pr : -100 ≤ zpi tp n a ∧ zpi tp n a ≤ 1000 := by rw [← ep]; omega
      have bad2 : ((zpi tp n a < 0 ∨ 127 < zpi tp n a) ∨ zNm nm (zpi tp n a) c = true) → kT (fTR_readName_J146 ((zsk tp n a : Nat) : Int) M5) (fun z => zO (if (zpi tp n a < 0 ∨ 127 < zpi tp n a) ∨ zNm nm (zpi tp n a) c = true then .inl (3, (zsk tp n a : Int)) else .inr (zsk tp n (za2 tp n a) + 1, zpi tp n a)) (fun e => zCF σ0 e z.2) (fun q => zC σ0 q.1 tk F (c + 1) (zup nm c q.2) z.2)) := by
        intro hb
        rw [if_pos hb]
        unfold fTR_readName_J146
        refine kT_callE (P_fail h5.2.2.2.1.1 3 _) (kT_ri ?_)
        exact zCF_i h5.1 (by omega) (by omega)
      refine kT_callE (P_outOf (by omega) (by omega) (by omega) M5) ?_
      by_cases c4 : zpi tp n a < 0 ∨ 127 < zpi tp n a
      · rw [if_pos c4]
        exact kT_eqf (by omega) (by omega) (by omega) (bad2 (Or.inl c4))
      rw [if_neg c4]
      refine kT_eqt rfl (by omega) (kT_callE (P_isNamed h5.2.2.2.2.2.1 hc h5.2.2.2.2.2.2 hr (by unfold i32; omega)) ?_)
      by_cases c5 : zNm nm (zpi tp n a) c = true
      · rw [if_pos c5]
        exact kT_eqf (by omega) (by omega) (by omega) (bad2 (Or.inr c5))
      rw [if_neg c5, if_neg (show ¬ ((zpi tp n a < 0 ∨ 127 < zpi tp n a) ∨ zNm nm (zpi tp n a) c = true) from fun hh => hh.elim c4 c5), h5.2.2.2.2.2.1]
      refine kT_eqt rfl (by omega) (kT_wr (by omega) (kT_wf (kT_ri ?_)))
      obtain ⟨g1, g2, g3, g4, g5, g6, g7⟩ := h5
      refine ⟨(g1.put rfl).putf rfl, ?_, ?_, ⟨?_, ?_⟩, g5, ?_, fun i i0 i1 => ?_⟩
      · dsimp only
        rw [ks_i (by decide), ks_c (by decide)]; exact g2
      · dsimp only
        rw [ks_i (by decide), ks_c (by decide)]; exact g3
      · dsimp only
        rw [ks_i (by decide), ks_c (by decide)]; exact g4.1
      · dsimp only
        rw [ks_i (by decide), ks_c (by decide)]; exact g4.2
      · dsimp only
        rw [ks_s, ks_c (by decide), g6]; omega
      · dsimp only
        rw [ks_c (by decide)]
        unfold zup
        by_cases e : i = (c : Int)
        · rw [e, ks_s, if_pos rfl]
        · rw [ks_i e, if_neg e]; exact g7 i i0 (by omega)
    · rw [if_neg c3, if_pos c3, h4.2.1]
      refine kT_eqt rfl (by omega) (kT_callE (P_fail h4.2.2.2.1.1 1 _) (kT_ri ?_))
      exact zCF_i h4.1 (by omega) (by omega)
  · rw [if_neg c1, if_pos c1]
    refine kT_eqt rfl (by omega) (kT_callE (P_fail h1.2.2.2.1.1 1 _) (kT_ri ?_))
    exact zCF_i h1.1 (by omega) (by omega)
theorem P_readNumber {n s : Nat} {tp : Int → Int} {σ0 σ : KM} (h0 : zC0 n tp σ0) (hf : kFr pW σ0 σ) (h6 : σ 1 6 = s) (hs : s ≤ n) : kT (fTR_readNumber σ) (fun z => z.2 = ks σ 1 6 (zde tp n s : Nat) ∧ (0 ≤ z.1 ∧ z.1 ≤ 1000) ∧ (zde tp n s = s + 1 → z.1 = tp s - 48) ∧ (zde tp n s = s + 2 → z.1 = 10 * (tp s - 48) + tp ((s : Int) + 1) - 48)) := by
  have hT := h0.1
  have n700 := hT.1
  unfold fTR_readNumber fTR_readNumber_L2
  refine kT_iter (fun k st => ∃ (a' : Nat) (v : Int), st = (v, ks σ 1 6 (a' : Nat)) ∧ k = n - a' ∧ (s ≤ a' ∧ a' ≤ n) ∧ zde tp n a' = zde tp n s ∧ (0 ≤ v ∧ v ≤ 1000) ∧ (a' = s → v = 0) ∧ (a' = s + 1 → v = tp s - 48 ∧ v ≤ 9) ∧ (a' = s + 2 → v = 10 * (tp s - 48) + tp ((s : Int) + 1) - 48)) ?_ kF (n - s) _ ⟨s, 0, by rw [ks_id h6], rfl, by omega, rfl, by omega, fun _ => rfl, fun h => by omega, fun h => by omega⟩ (kF_lt (by omega))
  rintro k st ⟨a', v, rfl, rfl, ha', hz, hv, hv0, hv1, hv2⟩
  have e5 : ks σ 1 6 (a' : Nat) 1 5 = n := by rw [ks_i (by decide), hf.slot rfl]; exact h0.2.1
  have e6 : ks σ 1 6 (a' : Nat) 1 6 = a' := ks_s _ _ _ _
  have e11 : ks σ 1 6 (a' : Nat) 11 = σ0 11 := by show σ 11 = σ0 11; exact hf.cell rfl
  have fin : zde tp n a' = a' → kT (fTR_readNumber_J65 v (ks σ 1 6 (a' : Nat))) (fun z => z.2 = ks σ 1 6 (zde tp n s : Nat) ∧ (0 ≤ z.1 ∧ z.1 ≤ 1000) ∧ (zde tp n s = s + 1 → z.1 = tp s - 48) ∧ (zde tp n s = s + 2 → z.1 = 10 * (tp s - 48) + tp ((s : Int) + 1) - 48)) := by
    intro e
    unfold fTR_readNumber_J65
    refine kT_ri ⟨by dsimp only; rw [← hz, e], hv, fun h => (hv1 (by omega)).1, fun h => hv2 (by omega)⟩
  show kT (fTR_readNumber_B2 v (ks σ 1 6 (a' : Nat))) _
  unfold fTR_readNumber_B2
  rw [e5, e6]
  refine kT_lt (by omega) (by omega) (fun c => ?_) (fun c => ?_)
  · have t := hT.2 a' (by omega) (by omega)
    have e := h0.2.2 a' (by omega) (by omega)
    refine kT_rd (by omega) ?_
    rw [e11, e]
    refine kT_callE (P_isDigit (by unfold i32; omega) _) ?_
    by_cases d : zD (tp a')
    · rw [if_pos d, e6]
      refine kT_eqf (by omega) (by omega) (by omega) (kT_rd (by omega) ?_)
      rw [e11, e]
      refine kT_mn (by omega) (by omega) (kT_wf (kT_inl ⟨n - (a' + 1), by omega, a' + 1, (if v * 10 + tp a' - 48 < 1000 then v * 10 + tp a' - 48 else 1000), ?_, rfl, by omega, ?_, ?_, fun h => by omega, fun h => ?_, fun h => ?_⟩))
      · rw [ks_ks, show (a' : Int) + 1 = ((a' + 1 : Nat) : Int) by omega]
      · rw [← hz]
        unfold zde
        exact (zru_y (by omega) (by unfold zDg; exact decide_eq_true d)).symm
      · split <;> omega
      · have e9 : a' = s := by omega
        subst e9
        have v0 := hv0 rfl
        split <;> omega
      · have e9 : a' = s + 1 := by omega
        subst e9
        have v1 := hv1 rfl
        rw [show ((s + 1 : Nat) : Int) = (s : Int) + 1 by omega] at d t ⊢
        split <;> omega
    · rw [if_neg d]
      exact kT_eqt rfl (by omega) (kT_exit (fin (zru_n (Or.inr (by unfold zDg; exact decide_eq_false d)))))
  · exact kT_exit (fin (zru_n (Or.inl (by omega))))
