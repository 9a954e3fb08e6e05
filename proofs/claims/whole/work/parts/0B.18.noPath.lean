/-! ===== the reference: own costs; hasPath ===== -/
def mO (b : KB) (σ : KM) : Prop := σ 10 37 = wnS b ∧ (∀ w k, 0 ≤ w → w < wnS b → 0 ≤ k → k < 24 → σ 59 (24 * w + k) = oS b w k) ∧ (∀ w, 0 ≤ w → w < wnS b → σ 64 w = if tw b w = 0 then 1 else 0) ∧ (∀ k o, 0 ≤ k → k < 24 → 0 ≤ o → o < 24 → σ 58 (24 * k + o) = dS b k o)
theorem mO.fr {b : KB} {W : List (Nat × Option Int)} {σ τ : KM} (h : mO b σ) (hf : kFr W σ τ) (hk : kKeep W [58, 59, 64] [(10, 37)] = true) : mO b τ := by
  have c58 := kKeep.cell hk hf (c := 58) (by decide)
  have c59 := kKeep.cell hk hf (c := 59) (by decide)
  have c64 := kKeep.cell hk hf (c := 64) (by decide)
  have f37 := kKeep.fld hk hf (c := 10) (i := 37) (by decide)
  unfold mO
  rw [c58, c59, c64, f37]
  exact h
theorem mO.x {b : KB} (hb : kB b) {σ : KM} (h : mO b σ) (f : Int) : xM (XB b f) σ ∧ nM (XB b f) f σ := by
  have eN := XB_n hb f
  refine ⟨⟨by rw [eN]; exact h.1, fun w k a c d e => h.2.1 w k a (by omega) d e, fun w a c => ?_⟩, fun k o a c d e => ?_⟩
  · have := h.2.2.1 w (by omega) (by omega)
    rw [this]
    show _ = kpS b w
    unfold kpS
    by_cases c2 : tw b w = 0
    · rw [if_pos c2, if_pos ⟨by omega, c2⟩]
    · rw [if_neg c2, if_neg (by omega)]
  · rw [h.2.2.2 k o a c d e, Int.mul_comm]
    rfl
theorem M_laysOwn {b : KB} (hb : kB b) {σ : KM} (hm : mB b σ) : kT (fM_laysOwn σ) (fun z => mO b z.2) := by
  have hwr := wnS_r hb
  unfold fM_laysOwn
  refine kT_callT (kT.fr (M_laysNet hb hm) (rfM_laysNet σ)) (fun r τ hz => ?_)
  obtain ⟨hN, hf0⟩ := hz
  dsimp only at hN hf0
  have hm1 := hm.fr hf0 rfl
  refine kT_callE (M_windowMany hb hm1) (kT_wf ?_)
  unfold fM_laysOwn_L14
  have hm2 : mB b (ks τ 10 37 (wnS b)) := hm1.fr (W := [(10, some 37)]) (kFr.rf.putf rfl) rfl
  refine kT_for (fun i s => ∃ M : KM, s = ((i : Int), M) ∧ mB b M ∧ M 58 = τ 58 ∧ M 10 37 = wnS b ∧ (∀ w k, 0 ≤ w → w < (i : Int) → 0 ≤ k → k < 24 → M 59 (24 * w + k) = oS b w k) ∧ (∀ w, 0 ≤ w → w < (i : Int) → M 64 w = if tw b w = 0 then 1 else 0)) (wnS b).toNat ?_ ?_ 0 (by omega) kF _ ⟨_, rfl, hm2, rfl, ks_s _ _ _ _, fun w k _ h => by omega, fun w _ h => by omega⟩ (kF_lt (by omega))
  · rintro i s hi ⟨M, rfl, hmM, m58, m37, h59, h64⟩
    have tr := tw_r hb i
    have pin := hb.2.2.2.1 i (by omega) (by omega)
    show kT (fM_laysOwn_B14 i M) _
    unfold fM_laysOwn_B14
    rw [m37]
    refine kT_ltt (by omega) (by omega) (kT_callE (M_countedIn hb hmM (w := i) (by omega)) ?_)
    have hmc : mB b (mMem M (cw b i) (tw b i)) := by
      have e := rfM_countedIn i M
      rw [M_countedIn hb hmM (w := i) (by omega)] at e
      exact hmM.fr (e _ rfl) rfl
    have g55 : ∀ y, 0 ≤ y → y < 12 → mMem M (cw b i) (tw b i) 55 y = cw b i y := fun y a c => mMem_i ⟨a, c⟩
    have g27 : mMem M (cw b i) (tw b i) 10 27 = tw b i := mMem_t
    have g58 : mMem M (cw b i) (tw b i) 58 = τ 58 := m58
    have g37 : mMem M (cw b i) (tw b i) 10 37 = wnS b := by
      unfold mMem
      rw [if_neg (by omega), if_neg (by omega)]
      exact m37
    have g59 : mMem M (cw b i) (tw b i) 59 = M 59 := rfl
    have g64 : mMem M (cw b i) (tw b i) 64 = M 64 := rfl
    generalize mMem M (cw b i) (tw b i) = N at hmc g55 g27 g58 g37 g59 g64 ⊢
    rw [g27]
    have main : ∀ v, v = (if tw b i = 0 then (1 : Int) else 0) → kT (fM_laysOwn_J44 i v i N) (kS (fun s => ∃ M : KM, s = (((i + 1 : Nat) : Int), M) ∧ mB b M ∧ M 58 = τ 58 ∧ M 10 37 = wnS b ∧ (∀ w k, 0 ≤ w → w < ((i + 1 : Nat) : Int) → 0 ≤ k → k < 24 → M 59 (24 * w + k) = oS b w k) ∧ (∀ w, 0 ≤ w → w < ((i + 1 : Nat) : Int) → M 64 w = if tw b w = 0 then 1 else 0)) (fun z => mO b z.2)) := by
      intro v hv
      have vr : v = 0 ∨ v = 1 := by rw [hv]; split <;> omega
      unfold fM_laysOwn_J44 fM_laysOwn_L49
      refine kT_wz (by omega) vr ?_
      have hmd : mB b (ks N 64 i v) := hmc.fr (W := [(64, none)]) (kFr.rf.put rfl) rfl
      have k55 : ∀ y, 0 ≤ y → y < 12 → ks N 64 i v 55 y = cw b i y := g55
      have k27 : ks N 64 i v 10 27 = tw b i := g27
      have k58 : ks N 64 i v 58 = τ 58 := g58
      have k37 : ks N 64 i v 10 37 = wnS b := g37
      have k59 : ks N 64 i v 59 = M 59 := g59
      have k64 : ∀ w, 0 ≤ w → w < (i : Int) + 1 → ks N 64 i v 64 w = if tw b w = 0 then 1 else 0 := fun w a c => by
        by_cases e : w = i
        · rw [e, ks_s, hv]
        · rw [ks_i e, g64]; exact h64 w a (by omega)
      generalize ks N 64 i v = N2 at hmd k55 k27 k58 k37 k59 k64 ⊢
      have ft : ∀ (N3 : KM), mB b N3 → N3 55 = N2 55 → N3 10 = N2 10 → ∀ k, 0 ≤ k → k < 24 → fM_fitted k N3 = some (fS b i k, N3) := by
        intro N3 h3 h55 h10 k a c
        exact M_fitted ⟨a, c⟩ (cw_gOK hb i) hb.2.2.1 (by rw [h55]; exact k55) h3.2.2.1 (by rw [h10]; exact k27)
      have fr : ∀ k, 0 ≤ k → k < 24 → 0 ≤ fS b i k ∧ fS b i k ≤ 9900 := fun k a c => fS_r hb i ⟨a, c⟩
      refine kT_for (fun j s => s = (bsS (fS b i) j, (j : Int), N2)) 24 ?_ ?_ 0 (by omega) kF _ rfl (kF_lt (by omega))
      · rintro j s hj rfl
        have f1 := fr j (by omega) (by omega)
        have b1 := bsS_r fr j (by omega)
        show kT (fM_laysOwn_B49 i (bsS (fS b i) j) j N2) _
        unfold fM_laysOwn_B49 fM_laysOwn_J73
        refine kT_ltt (by omega) (by omega) (kT_callE (ft N2 hmd rfl rfl j (by omega) (by omega)) ?_)
        refine kT_lt (by omega) (by omega) (fun c => ?_) (fun c => ?_)
        · refine kT_callE (ft N2 hmd rfl rfl j (by omega) (by omega)) (kT_let (kT_inl ?_))
          rw [bsS, if_pos c]
          rfl
        · refine kT_let (kT_inl ?_)
          rw [bsS, if_neg (by omega)]
          rfl
      · rintro s rfl
        have b1 := bsS_r fr 24 (by omega)
        show kT (fM_laysOwn_B49 i (bsS (fS b i) 24) 24 N2) _
        unfold fM_laysOwn_B49 fM_laysOwn_J80 fM_laysOwn_L82
        refine kT_ltf (by omega) (by omega) (kT_exit ?_)
        refine kT_for (fun j s => ∃ N3 : KM, s = ((j : Int), N3) ∧ mB b N3 ∧ N3 55 = N2 55 ∧ N3 10 = N2 10 ∧ N3 58 = N2 58 ∧ N3 64 = N2 64 ∧ (∀ w k, 0 ≤ w → w < (i : Int) → 0 ≤ k → k < 24 → N3 59 (24 * w + k) = oS b w k) ∧ (∀ k : Int, 0 ≤ k → k < j → N3 59 (24 * (i : Int) + k) = oS b i k)) 24 ?_ ?_ 0 (by omega) kF _ ⟨N2, rfl, hmd, rfl, rfl, rfl, rfl, by rw [k59]; exact h59, fun k _ h => by omega⟩ (kF_lt (by omega))
        · rintro j s hj ⟨N3, rfl, h3, e55, e10, e58, e64, q59, r59⟩
          have e53 := h3.2.2.2.1 i (by omega) (by omega)
          have f1 := fr j (by omega) (by omega)
          have fin : ∀ v, v = oS b i j → kT (fM_laysOwn_J130 i (bsS (fS b i) 24) j v (24 * i + j) N3) (kS (fun s => ∃ N3 : KM, s = (((j + 1 : Nat) : Int), N3) ∧ mB b N3 ∧ N3 55 = N2 55 ∧ N3 10 = N2 10 ∧ N3 58 = N2 58 ∧ N3 64 = N2 64 ∧ (∀ w k, 0 ≤ w → w < (i : Int) → 0 ≤ k → k < 24 → N3 59 (24 * w + k) = oS b w k) ∧ (∀ k : Int, 0 ≤ k → k < ((j + 1 : Nat) : Int) → N3 59 (24 * (i : Int) + k) = oS b i k)) (kS (fun s => ∃ M : KM, s = (((i + 1 : Nat) : Int), M) ∧ mB b M ∧ M 58 = τ 58 ∧ M 10 37 = wnS b ∧ (∀ w k, 0 ≤ w → w < ((i + 1 : Nat) : Int) → 0 ≤ k → k < 24 → M 59 (24 * w + k) = oS b w k) ∧ (∀ w, 0 ≤ w → w < ((i + 1 : Nat) : Int) → M 64 w = if tw b w = 0 then 1 else 0)) (fun z => mO b z.2))) := by
            rintro v rfl
            unfold fM_laysOwn_J130
            refine kT_wr (by omega) (kT_let (kT_inl ⟨_, rfl, h3.fr (W := [(59, none)]) (kFr.rf.put rfl) rfl, e55, e10, e58, e64, fun w k a0 a1 b0 b1 => ?_, fun k b0 b1 => ?_⟩))
            · rw [ks_i (by omega)]; exact q59 w k a0 a1 b0 b1
            · by_cases e : k = j
              · rw [e, ks_s]
              · rw [ks_i (by omega)]; exact r59 k b0 (by omega)
          show kT (fM_laysOwn_B82 i (bsS (fS b i) 24) j N3) _
          unfold fM_laysOwn_B82 fM_laysOwn_J123
          refine kT_ltt (by omega) (by omega) (kT_rd (by omega) ?_)
          rw [e53]
          refine kT_eq (by omega) (by omega) (fun c => ?_) (fun c => ?_)
          · refine kT_callE (ft N3 h3 e55 e10 j (by omega) (by omega)) (fin _ ?_)
            unfold oS
            rw [if_pos (Or.inl c)]
          · refine kT_rd (by omega) ?_
            rw [e53]
            refine kT_eq (by omega) (by omega) (fun c2 => ?_) (fun c2 => ?_)
            · refine kT_callE (ft N3 h3 e55 e10 j (by omega) (by omega)) (fin _ ?_)
              unfold oS
              rw [if_pos (Or.inr c2)]
            · refine fin _ ?_
              unfold oS
              rw [if_neg (by omega)]
        · rintro s ⟨N3, rfl, h3, e55, e10, e58, e64, q59, r59⟩
          show kT (fM_laysOwn_B82 i (bsS (fS b i) 24) 24 N3) _
          unfold fM_laysOwn_B82 fM_laysOwn_J137
          refine kT_ltf (by omega) (by omega) (kT_exit (kT_let (kT_inl ⟨N3, rfl, h3, by rw [e58, k58], by rw [e10, k37], fun w k a0 a1 b0 b1 => ?_, fun w a0 a1 => by rw [e64]; exact k64 w a0 (by omega)⟩)))
          by_cases e : w = i
          · rw [e]; exact r59 k b0 (by omega)
          · exact q59 w k a0 (by omega) b0 b1
    refine kT_eq (by omega) (by omega) (fun c => ?_) (fun c => ?_)
    · exact main _ (by rw [if_pos c])
    · exact main _ (by rw [if_neg c])
  · rintro s ⟨M, rfl, hmM, m58, m37, h59, h64⟩
    show kT (fM_laysOwn_B14 ((wnS b).toNat : Nat) M) _
    unfold fM_laysOwn_B14 fM_laysOwn_J143
    rw [m37]
    refine kT_ltf (by omega) (by omega) (kT_exit (kT_ri ⟨m37, fun w k a0 a1 b0 b1 => h59 w k a0 (by omega) b0 b1, fun w a0 a1 => h64 w a0 (by omega), fun k o a0 a1 b0 b1 => ?_⟩))
    dsimp only
    rw [m58]
    exact hN k o a0 a1 b0 b1
theorem bx_r {b : KB} (hb : kB b) : 0 ≤ bx b ∧ bx b ≤ 100 := by
  have := hb.2.2.2.2
  omega
def XP (b : KB) : KX := XB b (bx b)
theorem XP_v {b : KB} (hb : kB b) : xV (XP b) := XB_v hb (bx_r hb)
theorem XP_n {b : KB} (hb : kB b) : ((xn (XP b) : Nat) : Int) = wnS b := XB_n hb _
theorem M_hasPath {b : KB} (hb : kB b) {σ : KM} (hm : mB b σ) : kT (fM_hasPath σ) (fun z => (z.1 = (if lsS (XP b) < 1000000000 then 1 else 0) ∧ mO b z.2 ∧ pM (XP b) z.2) ∧ kFr wfM_hasPath σ z.2) := by
  refine kT.fr ?_ (rfM_hasPath σ)
  unfold fM_hasPath
  refine kT_callT (kT.fr (M_laysOwn hb hm) (rfM_laysOwn σ)) (fun r τ hz => ?_)
  obtain ⟨ho, hf⟩ := hz
  dsimp only at ho hf
  have hm1 := hm.fr hf rfl
  obtain ⟨x1, x2⟩ := ho.x hb (bx b)
  rw [hm1.2.2.2.2.2.2.2]
  refine kT_callT (kT.fr (M_laysPath (XP_v hb) x1 x2) (rfM_laysPath (bx b) τ)) (fun r τ2 hz => ?_)
  obtain ⟨⟨z1, z2⟩, hf2⟩ := hz
  dsimp only at z1 z2 hf2
  refine kT_rz ?_ ⟨z1, ho.fr hf2 rfl, z2⟩
  rw [z1]
  split <;> omega
/-! ===== what the class keeps ===== -/
def ahS (X : KX) : Nat → Int → Int
  | 0, k => xo X 0 k
  | w + 1, k => addS (xo X ((w : Int) + 1) k) (if xk X ((w : Int) + 1) = 1 then ahS X w k else mnS (fun o => addS (ahS X w o) (xs X o k)) 24)
def cmS (X : KX) : Nat → Nat → Int → Int
  | 0, _, k => xo X 0 k
  | w + 1, 0, k => addS (xo X ((w : Int) + 1) k) (cmS X w 0 k)
  | w + 1, m + 1, k => addS (xo X ((w : Int) + 1) k) (if xk X ((w : Int) + 1) = 1 then cmS X w (m + 1) k else if mnS (fun o => addS (cmS X w m o) (xs X o k)) 24 < cmS X w (m + 1) k then mnS (fun o => addS (cmS X w m o) (xs X o k)) 24 else cmS X w (m + 1) k)
def firmS (b : KB) : Int := fkS (fun f => if sgS (paS (XB b f)) (wnS b).toNat ≤ 1 then 1 else 0) 1 101
def ahOK (X : KX) (σ : KM) : Prop := ∀ (w : Nat) (k : Int), w < xn X → 0 ≤ k → k < 24 → σ 41 ((w : Int) * 24 + k) = ahS X w k
def mvOK (X : KX) (σ : KM) : Prop := ∀ m : Nat, (m : Int) + 1 < sgS (paS X) (xn X) → σ 43 m = mnS (cmS X (xn X - 1) m) 24
def frC (b : KB) (σ : KM) : Prop := σ 8 13 = 0 ∧ sOK (XP b) σ ∧ (σ 5 6 = 0 ∧ σ 6 3 = 0 ∧ σ 7 4 = 0) ∧ (σ 8 14 = 0 ∨ (σ 8 14 = 1 ∧ σ 8 15 = firmS b)) ∧ (σ 9 1 = 0 ∨ (σ 9 1 = 1 ∧ ahOK (XP b) σ)) ∧ (σ 9 4 = 0 ∨ (σ 9 4 = 1 ∧ mvOK (XP b) σ))
def CI (b : KB) (σ : KM) : Prop := cB b σ ∧ wI b σ ∧ pI b σ ∧ nC b σ ∧ (frC b σ ∨ σ 8 13 = 1)
theorem sOK.fr {X : KX} {W : List (Nat × Option Int)} {σ τ : KM} (h : sOK X σ) (hf : kFr W σ τ) (hk : kKeep W [34, 35, 36, 37, 38, 39, 40] [(8, 1), (8, 7), (8, 8), (8, 9), (8, 12)] = true) : sOK X τ := by
  have c34 := kKeep.cell hk hf (c := 34) (by decide)
  have c35 := kKeep.cell hk hf (c := 35) (by decide)
  have c36 := kKeep.cell hk hf (c := 36) (by decide)
  have c37 := kKeep.cell hk hf (c := 37) (by decide)
  have c38 := kKeep.cell hk hf (c := 38) (by decide)
  have c39 := kKeep.cell hk hf (c := 39) (by decide)
  have c40 := kKeep.cell hk hf (c := 40) (by decide)
  have f1 := kKeep.fld hk hf (c := 8) (i := 1) (by decide)
  have f7 := kKeep.fld hk hf (c := 8) (i := 7) (by decide)
  have f8 := kKeep.fld hk hf (c := 8) (i := 8) (by decide)
  have f9 := kKeep.fld hk hf (c := 8) (i := 9) (by decide)
  have f12 := kKeep.fld hk hf (c := 8) (i := 12) (by decide)
  unfold sOK xC stC alC
  rw [c34, c35, c36, c37, c38, c39, c40, f1, f7, f8, f9, f12]
  exact h
theorem frC.fr {b : KB} {W : List (Nat × Option Int)} {σ τ : KM} (h : frC b σ) (hf : kFr W σ τ) (hk : kKeep W [34, 35, 36, 37, 38, 39, 40] [(8, 1), (8, 7), (8, 8), (8, 9), (8, 12)] = true) (hk2 : kKeep W [41, 43] [(8, 13), (8, 14), (8, 15), (9, 1), (9, 4)] = true) (h5 : τ 5 6 = 0) (h6 : τ 6 3 = 0) (h7 : τ 7 4 = 0) : frC b τ := by
  have c41 := kKeep.cell hk2 hf (c := 41) (by decide)
  have c43 := kKeep.cell hk2 hf (c := 43) (by decide)
  have f13 := kKeep.fld hk2 hf (c := 8) (i := 13) (by decide)
  have f14 := kKeep.fld hk2 hf (c := 8) (i := 14) (by decide)
  have f15 := kKeep.fld hk2 hf (c := 8) (i := 15) (by decide)
  have f91 := kKeep.fld hk2 hf (c := 9) (i := 1) (by decide)
  have f94 := kKeep.fld hk2 hf (c := 9) (i := 4) (by decide)
  obtain ⟨h1, h2, h3, h4⟩ := h
  unfold frC ahOK mvOK
  rw [f13, f14, f15, f91, f94, c41, c43]
  exact ⟨h1, h2.fr hf hk, ⟨h5, h6, h7⟩, h4⟩
theorem CI.w {b : KB} {σ τ : KM} (h : CI b σ) (hf : kFr wfWi_recount σ τ) (hw : wOK b τ ∧ τ 5 6 = 0) : CI b τ := by
  obtain ⟨h1, h2, h3, h4, h5⟩ := h
  have e63 : τ 6 3 = σ 6 3 := hf.slot rfl
  have e74 : τ 7 4 = σ 7 4 := hf.slot rfl
  have e813 : τ 8 13 = σ 8 13 := hf.slot rfl
  refine ⟨h1.fr hf rfl, Or.inl ⟨hw.2, hw.1⟩, ?_, ?_, ?_⟩
  · rcases h3 with h | h
    · exact Or.inl ⟨by rw [e63]; exact h.1, h.2.1.fr hf rfl, hw.2⟩
    · exact Or.inr (by rw [e63]; exact h)
  · rcases h4 with h | h
    · exact Or.inl ⟨by rw [e74]; exact h.1, h.2.fr hf rfl⟩
    · exact Or.inr (by rw [e74]; exact h)
  · rcases h5 with h | h
    · exact Or.inl (h.fr hf rfl rfl hw.2 (by rw [e63]; exact h.2.2.1.2.1) (by rw [e74]; exact h.2.2.1.2.2))
    · exact Or.inr (by rw [e813]; exact h)
theorem CI.f {b : KB} {σ τ : KM} (h : CI b σ) (hf : kFr wfP_freshFits σ τ) (hw : (wOK b τ ∧ τ 5 6 = 0) ∧ pOK b τ ∧ τ 6 3 = 0) : CI b τ := by
  obtain ⟨h1, h2, h3, h4, h5⟩ := h
  have e74 : τ 7 4 = σ 7 4 := hf.slot rfl
  have e813 : τ 8 13 = σ 8 13 := hf.slot rfl
  refine ⟨h1.fr hf rfl, Or.inl ⟨hw.1.2, hw.1.1⟩, Or.inl ⟨hw.2.2, hw.2.1, hw.1.2⟩, ?_, ?_⟩
  · rcases h4 with h | h
    · exact Or.inl ⟨by rw [e74]; exact h.1, h.2.fr hf rfl⟩
    · exact Or.inr (by rw [e74]; exact h)
  · rcases h5 with h | h
    · exact Or.inl (h.fr hf rfl rfl hw.1.2 hw.2.2 (by rw [e74]; exact h.2.2.1.2.2))
    · exact Or.inr (by rw [e813]; exact h)
theorem CI.n {b : KB} {σ τ : KM} (h : CI b σ) (hf : kFr wfNe_refresh σ τ) (hw : nOK b τ ∧ τ 7 4 = 0) : CI b τ := by
  obtain ⟨h1, h2, h3, h4, h5⟩ := h
  have e56 : τ 5 6 = σ 5 6 := hf.slot rfl
  have e63 : τ 6 3 = σ 6 3 := hf.slot rfl
  have e813 : τ 8 13 = σ 8 13 := hf.slot rfl
  refine ⟨h1.fr hf rfl, ?_, ?_, Or.inl ⟨hw.2, hw.1⟩, ?_⟩
  · rcases h2 with h | h
    · exact Or.inl ⟨by rw [e56]; exact h.1, h.2.fr hf rfl⟩
    · exact Or.inr (by rw [e56]; exact h)
  · rcases h3 with h | h
    · exact Or.inl ⟨by rw [e63]; exact h.1, h.2.1.fr hf rfl, by rw [e56]; exact h.2.2⟩
    · exact Or.inr (by rw [e63]; exact h)
  · rcases h5 with h | h
    · exact Or.inl (h.fr hf rfl rfl (by rw [e56]; exact h.2.2.1.1) (by rw [e63]; exact h.2.2.1.2.1) hw.2)
    · exact Or.inr (by rw [e813]; exact h)
/-- the window test, with what is kept -/
theorem C_noWindow {b : KB} {σ : KM} (hb : kB b) (h : CI b σ) {w : Int} (hw : -2147483648 ≤ w ∧ w < 2147483648) : kT (fP_noWindow w σ) (fun z => z.1 = (if w < 0 ∨ wnS b - 1 < w then 1 else 0) ∧ CI b z.2 ∧ wOK b z.2) :=
  (P_noWindow hb h.1 h.2.1 hw).mono (fun _ hz => ⟨hz.1, h.w hz.2.2 hz.2.1, hz.2.1.1⟩)
theorem C_freshWindows {b : KB} {σ : KM} (hb : kB b) (h : CI b σ) : kT (fP_freshWindows σ) (fun z => CI b z.2 ∧ wOK b z.2) :=
  (P_freshWindows hb h.1 h.2.1).mono (fun _ hz => ⟨h.w hz.2 hz.1, hz.1.1⟩)
theorem C_freshFits {b : KB} {σ : KM} (hb : kB b) (h : CI b σ) : kT (fP_freshFits σ) (fun z => CI b z.2 ∧ wOK b z.2 ∧ pOK b z.2) :=
  (P_freshFits hb h.1 h.2.1 h.2.2.1).mono (fun _ hz => ⟨h.f hz.2 hz.1, hz.1.1.1, hz.1.2.1⟩)
theorem C_refresh {b : KB} {σ : KM} (hb : kB b) (h : CI b σ) : kT (fNe_refresh σ) (fun z => CI b z.2 ∧ nOK b z.2) :=
  (P_refresh hb h.1 h.2.2.2.1).mono (fun _ hz => ⟨h.n hz.2 hz.1, hz.1.1⟩)
