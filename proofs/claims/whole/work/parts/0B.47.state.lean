/-! ===== the state of both sides; put, drop, shift, undo ===== -/
abbrev KSt : Type := KB × (Nat × (Nat → NL)) × (Nat × (Int → Int)) × (Int × Int)
def sb (S : KSt) : KB := S.1
def shn (S : KSt) : Nat := S.2.1.1
def sH (S : KSt) : Nat → NL := S.2.1.2
def stn (S : KSt) : Nat := S.2.2.1.1
def stp (S : KSt) : Int → Int := S.2.2.1.2
def swr (S : KSt) : Int := S.2.2.2.1
def swa (S : KSt) : Int := S.2.2.2.2
def sbv (v : Int) : Int := if v < 128 then v else v - 256
def tC (n : Nat) (tp : Int → Int) (σ : KM) : Prop := σ 1 1 = n ∧ ∀ i : Int, 0 ≤ i → i < n → σ 11 i = tp i
def tM (n : Nat) (tp : Int → Int) (σ : KM) : Prop := σ 10 20 = n ∧ ∀ i : Int, 0 ≤ i → i < n → σ 54 i = sbv (tp i)
def kSt (S : KSt) : Prop := kB (sb S) ∧ (shn S ≤ 10 ∧ sH S (shn S) = nl (sb S) ∧ ∀ j : Nat, j ≤ shn S → vN (sH S j)) ∧ (stn S ≤ 700 ∧ ∀ i : Int, 0 ≤ i → i < stn S → 0 ≤ stp S i ∧ stp S i < 256) ∧ (0 ≤ swr S ∧ swr S ≤ 4 ∧ -1 ≤ swa S ∧ swa S ≤ 700)
def cS (S : KSt) (σ : KM) : Prop := CI (sb S) σ ∧ hC (shn S) (sH S) σ ∧ tC (stn S) (stp S) σ ∧ σ 1 3 = swr S ∧ σ 1 4 = swa S
def mS (S : KSt) (σ : KM) : Prop := mB (sb S) σ ∧ hM (shn S) (sH S) σ ∧ tM (stn S) (stp S) σ ∧ σ 10 23 = swr S ∧ σ 10 24 = swa S
theorem tC.fr {n : Nat} {tp : Int → Int} {W : List (Nat × Option Int)} {σ τ : KM} (h : tC n tp σ) (hf : kFr W σ τ) (hk : kKeep W [11] [(1, 1)] = true) : tC n tp τ := by
  have c := kKeep.cell hk hf (c := 11) (by decide)
  have f := kKeep.fld hk hf (c := 1) (i := 1) (by decide)
  unfold tC
  rw [c, f]
  exact h
theorem tM.fr {n : Nat} {tp : Int → Int} {W : List (Nat × Option Int)} {σ τ : KM} (h : tM n tp σ) (hf : kFr W σ τ) (hk : kKeep W [54] [(10, 20)] = true) : tM n tp τ := by
  have c := kKeep.cell hk hf (c := 54) (by decide)
  have f := kKeep.fld hk hf (c := 10) (i := 20) (by decide)
  unfold tM
  rw [c, f]
  exact h
def sSb (S : KSt) (b : KB) : KSt := (b, S.2)
def sNew (S : KSt) (B : NL) : KSt := (bN (sb S) B, (hnS (shn S), hpS (shn S) (sH S) B), S.2.2)
theorem kSt_B {S : KSt} (h : kSt S) {b : KB} (hb : kB b) (hn : nl b = nl (sb S)) : kSt (sSb S b) := ⟨hb, ⟨h.2.1.1, by show sH S (shn S) = nl b; rw [hn]; exact h.2.1.2.1, h.2.1.2.2⟩, h.2.2⟩
theorem kSt_new {S : KSt} (h : kSt S) {B : NL} (hB : vN B) : kSt (sNew S B) := by
  obtain ⟨h1, ⟨h2, h3, h4⟩, h5⟩ := h
  refine ⟨kB_N h1 hB, ⟨?_, ?_, fun j hj => ?_⟩, h5⟩
  · show hnS (shn S) ≤ 10
    unfold hnS
    split <;> omega
  · show hpS (shn S) (sH S) B (hnS (shn S)) = (B.1, B.2.1, B.2.2.1, B.2.2.2)
    unfold hnS
    by_cases c : shn S < 10
    · rw [if_pos c, hpS_b c]
    · rw [if_neg c, hpS_d c]
  · have hj' : j ≤ hnS (shn S) := hj
    show vN (hpS (shn S) (sH S) B j)
    unfold hnS at hj'
    by_cases c : shn S < 10
    · rw [if_pos c] at hj'
      by_cases e : j = shn S + 1
      · rw [e, hpS_b c]; exact hB
      · rw [hpS_a c (by omega)]; exact h4 j (by omega)
    · rw [if_neg c] at hj'
      by_cases e : j = 10
      · rw [e, hpS_d c]; exact hB
      · rw [hpS_c c (by omega)]; exact h4 (j + 1) (by omega)
theorem CI_notes {b : KB} {σ M : KM} (h : CI b σ) {B : NL} {W : List (Nat × Option Int)} (hf : kFr W σ M) (hk : kKeep W [27, 33] [(5, 0), (5, 1), (7, 0), (7, 1), (7, 2), (7, 3)] = true) (hk2 : kKeep W [30, 31] [] = true) (hk3 : kKeep W [] [(7, 4)] = true) (hN : cNt B M) : CI (bN b B) (ks (ks (ks M 5 6 1) 6 3 1) 8 13 1) := by
  obtain ⟨h1, h2, h3, h4, h5⟩ := h
  have c27 := kKeep.cell hk hf (c := 27) (by decide)
  have c33 := kKeep.cell hk hf (c := 33) (by decide)
  have f50 := kKeep.fld hk hf (c := 5) (i := 0) (by decide)
  have f51 := kKeep.fld hk hf (c := 5) (i := 1) (by decide)
  have f70 := kKeep.fld hk hf (c := 7) (i := 0) (by decide)
  have f71 := kKeep.fld hk hf (c := 7) (i := 1) (by decide)
  have f72 := kKeep.fld hk hf (c := 7) (i := 2) (by decide)
  have f73 := kKeep.fld hk hf (c := 7) (i := 3) (by decide)
  have f74 := kKeep.fld hk3 hf (c := 7) (i := 4) (by decide)
  have hfr : kFr [(5, some 6), (6, some 3), (8, some 13)] M (ks (ks (ks M 5 6 1) 6 3 1) 8 13 1) := ((kFr.rf.putf rfl).putf rfl).putf rfl
  refine ⟨⟨hN, ⟨?_, ?_⟩, ?_, ?_, ?_, ?_, ?_, ?_⟩, Or.inr ?_, Or.inr ?_, ?_, Or.inr (ks_s _ _ _ _)⟩
  · rw [ks_c (by decide), ks_c (by decide), ks_i (by decide), f50]; exact h1.2.1.1
  · rw [ks_c (by decide), ks_c (by decide), ks_i (by decide), f51]; exact h1.2.1.2
  · show ∀ i, 0 ≤ i → i < 24 → M 27 i = _
    rw [c27]; exact h1.2.2.1
  · show ∀ i, 0 ≤ i → i < 48 → M 33 i = _
    rw [c33]; exact h1.2.2.2.1
  · show M 7 0 = _
    rw [f70]; exact h1.2.2.2.2.1
  · show M 7 1 = _
    rw [f71]; exact h1.2.2.2.2.2.1
  · show M 7 2 = _
    rw [f72]; exact h1.2.2.2.2.2.2.1
  · show M 7 3 = _
    rw [f73]; exact h1.2.2.2.2.2.2.2
  · rw [ks_c (by decide), ks_c (by decide), ks_s]
  · rw [ks_c (by decide), ks_s]
  · rcases h4 with g | g
    · exact Or.inl ⟨by show M 7 4 = 0; rw [f74]; exact g.1, (g.2.fr hf hk2).fr hfr rfl⟩
    · exact Or.inr (by show M 7 4 = 1; rw [f74]; exact g)
theorem mB_notes {b : KB} {σ τ : KM} (h : mB b σ) {B : NL} {W : List (Nat × Option Int)} (hf : kFr W σ τ) (hk : kKeep W [52, 53] [(10, 11), (10, 12), (10, 13), (10, 14), (10, 15), (10, 16)] = true) (hN : mNt B τ) : mB (bN b B) τ := by
  have c52 := kKeep.cell hk hf (c := 52) (by decide)
  have c53 := kKeep.cell hk hf (c := 53) (by decide)
  have f11 := kKeep.fld hk hf (c := 10) (i := 11) (by decide)
  have f12 := kKeep.fld hk hf (c := 10) (i := 12) (by decide)
  have f13 := kKeep.fld hk hf (c := 10) (i := 13) (by decide)
  have f14 := kKeep.fld hk hf (c := 10) (i := 14) (by decide)
  have f15 := kKeep.fld hk hf (c := 10) (i := 15) (by decide)
  have f16 := kKeep.fld hk hf (c := 10) (i := 16) (by decide)
  refine ⟨hN, ?_⟩
  rw [c52, c53, f11, f12, f13, f14, f15, f16]
  exact h.2
/-- a call of the class that asks, or changes the base alone -/
theorem cS_q {S : KSt} {σ : KM} (h : cS S σ) {F : Option (Int × KM)} {r : Int} {b : KB} {W : List (Nat × Option Int)} (hF : kT F (fun z => z.1 = r ∧ CI b z.2)) (hq : kQ W σ Prod.snd F) (hk : kKeep W [19, 20, 21, 22, 23] [(4, 5)] = true) (hk2 : kKeep W [11] [(1, 1)] = true) (hk3 : kKeep W [] [(1, 3), (1, 4)] = true) : kT F (fun z => z.1 = r ∧ cS (sSb S b) z.2) := by
  refine (kT.fr hF hq).mono (fun z hz => ?_)
  obtain ⟨⟨z1, z2⟩, z3⟩ := hz
  have f13 := kKeep.fld hk3 z3 (c := 1) (i := 3) (by decide)
  have f14 := kKeep.fld hk3 z3 (c := 1) (i := 4) (by decide)
  exact ⟨z1, z2, h.2.1.fr z3 hk, h.2.2.1.fr z3 hk2, by rw [f13]; exact h.2.2.2.1, by rw [f14]; exact h.2.2.2.2⟩
theorem mS_q {S : KSt} {σ : KM} (h : mS S σ) {F : Option (Int × KM)} {r : Int} {b : KB} {W : List (Nat × Option Int)} (hF : kT F (fun z => z.1 = r ∧ mB b z.2)) (hq : kQ W σ Prod.snd F) (hk : kKeep W [51] [(10, 10)] = true) (hk2 : kKeep W [54] [(10, 20)] = true) (hk3 : kKeep W [] [(10, 23), (10, 24)] = true) : kT F (fun z => z.1 = r ∧ mS (sSb S b) z.2) := by
  refine (kT.fr hF hq).mono (fun z hz => ?_)
  obtain ⟨⟨z1, z2⟩, z3⟩ := hz
  have f13 := kKeep.fld hk3 z3 (c := 10) (i := 23) (by decide)
  have f14 := kKeep.fld hk3 z3 (c := 10) (i := 24) (by decide)
  exact ⟨z1, z2, h.2.1.fr z3 hk, h.2.2.1.fr z3 hk2, by rw [f13]; exact h.2.2.2.1, by rw [f14]; exact h.2.2.2.2⟩
/-- a call of the reference that only asks -/
theorem mS_a {S : KSt} {σ : KM} (h : mS S σ) {F : Option (Int × KM)} {r : Int} {W : List (Nat × Option Int)} (hF : kT F (fun z => z.1 = r)) (hq : kQ W σ Prod.snd F) (hk0 : kKeep W [45, 46, 47, 52, 53] [(10, 7), (10, 11), (10, 12), (10, 13), (10, 14), (10, 15), (10, 16)] = true) (hk : kKeep W [51] [(10, 10)] = true) (hk2 : kKeep W [54] [(10, 20)] = true) (hk3 : kKeep W [] [(10, 23), (10, 24)] = true) : kT F (fun z => z.1 = r ∧ mS S z.2) := by
  have := mS_q (b := sb S) h ((kT.fr hF hq).mono (fun z hz => ⟨hz.1, h.1.fr hz.2 hk0⟩)) hq hk hk2 hk3
  exact this
/-! the class keeps the reference, and the reference the class -/
theorem mS.cl {S : KSt} {W : List (Nat × Option Int)} {σ τ : KM} (h : mS S σ) (hf : kFr W σ τ) (hk0 : kKeep W [45, 46, 47, 52, 53] [(10, 7), (10, 11), (10, 12), (10, 13), (10, 14), (10, 15), (10, 16)] = true) (hk : kKeep W [51] [(10, 10)] = true) (hk2 : kKeep W [54] [(10, 20)] = true) (hk3 : kKeep W [] [(10, 23), (10, 24)] = true) : mS S τ := by
  have f13 := kKeep.fld hk3 hf (c := 10) (i := 23) (by decide)
  have f14 := kKeep.fld hk3 hf (c := 10) (i := 24) (by decide)
  exact ⟨h.1.fr hf hk0, h.2.1.fr hf hk, h.2.2.1.fr hf hk2, by rw [f13]; exact h.2.2.2.1, by rw [f14]; exact h.2.2.2.2⟩
theorem cS.ml {S : KSt} {σ τ : KM} (h : cS S σ) (e : ∀ c : Nat, c < 10 ∨ (10 < c ∧ c < 45) → τ c = σ c) : cS S τ := by
  have c1 := e 1 (by omega)
  have c3 := e 3 (by omega)
  have c4 := e 4 (by omega)
  have c5 := e 5 (by omega)
  have c6 := e 6 (by omega)
  have c7 := e 7 (by omega)
  have c8 := e 8 (by omega)
  have c9 := e 9 (by omega)
  have c11 := e 11 (by omega)
  have c16 := e 16 (by omega)
  have c17 := e 17 (by omega)
  have c18 := e 18 (by omega)
  have c19 := e 19 (by omega)
  have c20 := e 20 (by omega)
  have c21 := e 21 (by omega)
  have c22 := e 22 (by omega)
  have c23 := e 23 (by omega)
  have c24 := e 24 (by omega)
  have c25 := e 25 (by omega)
  have c26 := e 26 (by omega)
  have c27 := e 27 (by omega)
  have c28 := e 28 (by omega)
  have c29 := e 29 (by omega)
  have c30 := e 30 (by omega)
  have c31 := e 31 (by omega)
  have c33 := e 33 (by omega)
  have c34 := e 34 (by omega)
  have c35 := e 35 (by omega)
  have c36 := e 36 (by omega)
  have c37 := e 37 (by omega)
  have c38 := e 38 (by omega)
  have c39 := e 39 (by omega)
  have c40 := e 40 (by omega)
  have c41 := e 41 (by omega)
  have c43 := e 43 (by omega)
  unfold cS CI cB kN wI wOK pI pOK fOK nC nOK frC sOK xC stC alC ahOK mvOK hC tC at h ⊢
  rw [c1, c3, c4, c5, c6, c7, c8, c9, c11, c16, c17, c18, c19, c20, c21, c22, c23, c24, c25, c26, c27, c28, c29, c30, c31, c33, c34, c35, c36, c37, c38, c39, c40, c41, c43]
  exact h
/-! put -/
abbrev nP (t l p : Int) : Prop := (t < 0 ∨ 511 < t) ∨ (l < 1 ∨ 64 < l) ∨ (p < 0 ∨ 127 < p) ∨ 512 < t + l
def qPut (S : KSt) (t l p : Int) : Int := if nP t l p then -3 else if 100 ≤ bn (sb S) then -4 else (plS (nl (sb S)) t l p (bn (sb S)) : Int)
def sPut (S : KSt) (t l p : Int) : KSt := if nP t l p then S else if 100 ≤ bn (sb S) then S else sNew S (inS (nl (sb S)) (plS (nl (sb S)) t l p (bn (sb S))) t l p)
theorem kSt_put {S : KSt} (h : kSt S) (t l p : Int) : kSt (sPut S t l p) := by
  unfold sPut
  split
  · exact h
  · split
    · exact h
    · refine kSt_new h (vN_in (A := nl (sb S)) h.1.1 (by show bn (sb S) < 100; omega) ⟨by omega, ?_⟩ (by unfold okV; omega))
      have := plS_r (nl (sb S)) t l p (bn (sb S))
      show _ ≤ ((bn (sb S) : Nat) : Int)
      omega
theorem P_canBe {t l p : Int} (ht : i32 t) (hl : i32 l) (hp : i32 p) (σ : KM) : fNo_canBe t l p σ = some (if nP t l p then 0 else 1, σ) := by
  refine kT.eq ?_
  unfold i32 at ht hl hp
  unfold fNo_canBe fNo_canBe_J45 fNo_canBe_J46
  refine kT_lt (by omega) (by omega) (fun c1 => kT_rz (by omega) (by rw [if_pos (by omega)])) (fun c1 => ?_)
  refine kT_lt (by omega) (by omega) (fun c2 => ?_) (fun c2 => kT_rz (by omega) (by rw [if_pos (by omega)]))
  refine kT_lt (by omega) (by omega) (fun c3 => kT_rz (by omega) (by rw [if_pos (by omega)])) (fun c3 => ?_)
  refine kT_lt (by omega) (by omega) (fun c4 => kT_rz (by omega) (by rw [if_pos (by omega)])) (fun c4 => ?_)
  refine kT_lt (by omega) (by omega) (fun c5 => kT_rz (by omega) (by rw [if_pos (by omega)])) (fun c5 => ?_)
  refine kT_lt (by omega) (by omega) (fun c6 => kT_rz (by omega) (by rw [if_pos (by omega)])) (fun c6 => ?_)
  refine kT_lt (by omega) (by omega) (fun c7 => kT_rz (by omega) (by rw [if_pos (by omega)])) (fun c7 => ?_)
  exact kT_rz (by omega) (by rw [if_neg (by omega)])
theorem cS_new {S : KSt} {σ M : KM} (h : cS S σ) {B : NL} {W : List (Nat × Option Int)} (hf : kFr W σ M) (hk : kKeep W [27, 33] [(5, 0), (5, 1), (7, 0), (7, 1), (7, 2), (7, 3)] = true) (hk2 : kKeep W [30, 31] [] = true) (hk3 : kKeep W [] [(7, 4)] = true) (hk4 : kKeep W [11] [(1, 1)] = true) (hk5 : kKeep W [] [(1, 3), (1, 4)] = true) (hN : cNt B M) (hH : hC (hnS (shn S)) (hpS (shn S) (sH S) B) M) : cS (sNew S B) (ks (ks (ks M 5 6 1) 6 3 1) 8 13 1) := by
  have f13 := kKeep.fld hk5 hf (c := 1) (i := 3) (by decide)
  have f14 := kKeep.fld hk5 hf (c := 1) (i := 4) (by decide)
  refine ⟨CI_notes h.1 hf hk hk2 hk3 hN, hH, (by have q := h.2.2.1.fr hf hk4; exact q), ?_, ?_⟩
  · show M 1 3 = swr S
    rw [f13]; exact h.2.2.2.1
  · show M 1 4 = swa S
    rw [f14]; exact h.2.2.2.2
theorem C_put {S : KSt} {σ : KM} (hS : kSt S) (h : cS S σ) {t l p : Int} (ht : i32 t) (hl : i32 l) (hp : i32 p) : kT (fP_put t l p σ) (fun z => z.1 = qPut S t l p ∧ cS (sPut S t l p) z.2) := by
  have hN : cNt (nl (sb S)) σ := h.1.1.1
  have hv : vN (nl (sb S)) := hS.1.1
  have n100 : bn (sb S) ≤ 100 := hv.1
  have e3 : σ 3 3 = (bn (sb S) : Int) := hN.1
  unfold fP_put qPut sPut
  refine kT_callE (P_canBe ht hl hp σ) ?_
  by_cases c1 : nP t l p
  · rw [if_pos c1, if_pos c1, if_pos c1]
    exact kT_eqt rfl (by omega) (kT_ri ⟨rfl, h⟩)
  rw [if_neg c1, if_neg c1, if_neg c1, e3]
  refine kT_eqf (by omega) (by omega) (by omega) ?_
  by_cases c2 : 100 ≤ bn (sb S)
  · rw [if_pos c2, if_pos c2]
    exact kT_ltf (by omega) (by omega) (kT_ri ⟨rfl, h⟩)
  rw [if_neg c2, if_neg c2]
  have pr := plS_r (nl (sb S)) t l p (bn (sb S))
  refine kT_ltt (by omega) (by omega) (kT_callE (P_placeFor hN hv ht hl hp) ?_)
  have hq : (0 : Int) ≤ (plS (nl (sb S)) t l p (nl (sb S)).1 : Int) ∧ (plS (nl (sb S)) t l p (nl (sb S)).1 : Int) ≤ ((nl (sb S)).1 : Int) := ⟨by omega, by show (plS (nl (sb S)) t l p (bn (sb S)) : Int) ≤ (bn (sb S) : Int); omega⟩
  refine kT_callT (kT.fr (P_insert hN (by show bn (sb S) < 100; omega) hq) (rfNo_insert _ _ _ _ σ)) (fun r τ hz => ?_)
  obtain ⟨z1, z2⟩ := hz
  dsimp only at z1 z2
  have hH := h.2.1.fr z2 rfl
  refine kT_callT (kT.fr (P_remember (B := inS (nl (sb S)) (plS (nl (sb S)) t l p (nl (sb S)).1) t l p) hH hS.2.1.1 (k := 0) (q := (plS (nl (sb S)) t l p (nl (sb S)).1 : Int)) (t := 0) (l := 0) (p := 0) ?_) (rfHi_remember _ _ _ _ _ τ)) (fun r τ2 hz => ?_)
  · rw [hS.2.1.2.1]
    refine Or.inl ⟨rfl, ⟨hq.1, ?_⟩, rm_in hq⟩
    show _ < (((nl (sb S)).1 + 1 : Nat) : Int)
    omega
  · obtain ⟨y1, y2⟩ := hz
    dsimp only at y1 y2
    have hf : kFr wfP_put σ τ2 := (z2.mono rfl).trans (y2.mono rfl)
    refine kT_callE C_notesChanged (kT_ri ⟨rfl, cS_new h hf rfl rfl rfl rfl rfl ?_ y1⟩)
    have c16 : τ2 16 = τ 16 := y2.cell rfl
    have c17 : τ2 17 = τ 17 := y2.cell rfl
    have c18 : τ2 18 = τ 18 := y2.cell rfl
    have f33 : τ2 3 3 = τ 3 3 := y2.slot rfl
    unfold cNt kN
    rw [c16, c17, c18, f33]
    exact z1
theorem mS_new {S : KSt} {σ M : KM} (h : mS S σ) {B : NL} {W : List (Nat × Option Int)} (hf : kFr W σ M) (hk : kKeep W [52, 53] [(10, 11), (10, 12), (10, 13), (10, 14), (10, 15), (10, 16)] = true) (hk4 : kKeep W [54] [(10, 20)] = true) (hk5 : kKeep W [] [(10, 23), (10, 24)] = true) (hN : mNt B M) (hH : hM (hnS (shn S)) (hpS (shn S) (sH S) B) M) : mS (sNew S B) M := by
  have f13 := kKeep.fld hk5 hf (c := 10) (i := 23) (by decide)
  have f14 := kKeep.fld hk5 hf (c := 10) (i := 24) (by decide)
  exact ⟨mB_notes h.1 hf hk hN, hH, h.2.2.1.fr hf hk4, by rw [f13]; exact h.2.2.2.1, by rw [f14]; exact h.2.2.2.2⟩
theorem mS.th {S : KSt} {σ : KM} (h : mS S σ) : mS S (ks σ 10 0 0) := h.cl (W := [(10, some 0)]) (kFr.rf.putf rfl) rfl rfl rfl rfl
theorem mNt.fr {A : NL} {W : List (Nat × Option Int)} {σ τ : KM} (h : mNt A σ) (hf : kFr W σ τ) (hk : kKeep W [45, 46, 47] [(10, 7)] = true) : mNt A τ := by
  have c45 := kKeep.cell hk hf (c := 45) (by decide)
  have c46 := kKeep.cell hk hf (c := 46) (by decide)
  have c47 := kKeep.cell hk hf (c := 47) (by decide)
  have f7 := kKeep.fld hk hf (c := 10) (i := 7) (by decide)
  unfold mNt kN
  rw [c45, c46, c47, f7]
  exact h
theorem M_put {S : KSt} {σ : KM} (hS : kSt S) (h : mS S σ) {t l p : Int} (ht : i32 t) (hl : i32 l) (hp : i32 p) : kT (fM_put t l p σ) (fun z => z.1 = qPut S t l p ∧ mS (sPut S t l p) z.2) := by
  have hv : vN (nl (sb S)) := hS.1.1
  have n100 : bn (sb S) ≤ 100 := hv.1
  unfold fM_put fM_put_J50 qPut sPut
  refine kT_wf ?_
  have h1 := h.th
  generalize ks σ 10 0 0 = M at h1 ⊢
  have hN : mNt (nl (sb S)) M := h1.1.1
  have e7 : M 10 7 = (bn (sb S) : Int) := hN.1
  refine kT_ck ht (kT_callE (M_isIn (by omega) (by omega) ht M) ?_)
  by_cases c1 : t < 0 ∨ 511 < t
  · rw [if_pos c1, if_pos (Or.inl c1), if_pos (Or.inl c1)]
    exact kT_eqt rfl (by omega) (kT_ri ⟨rfl, h1⟩)
  rw [if_neg c1]
  refine kT_eqf (by omega) (by omega) (by omega) (kT_ck hl (kT_callE (M_isIn (by omega) (by omega) hl M) ?_))
  by_cases c2 : l < 1 ∨ 64 < l
  · rw [if_pos c2, if_pos (Or.inr (Or.inl c2)), if_pos (Or.inr (Or.inl c2))]
    exact kT_eqt rfl (by omega) (kT_ri ⟨rfl, h1⟩)
  rw [if_neg c2]
  refine kT_eqf (by omega) (by omega) (by omega) (kT_ck hp (kT_callE (M_isIn (by omega) (by omega) hp M) ?_))
  by_cases c3 : p < 0 ∨ 127 < p
  · rw [if_pos c3, if_pos (Or.inr (Or.inr (Or.inl c3))), if_pos (Or.inr (Or.inr (Or.inl c3)))]
    exact kT_eqt rfl (by omega) (kT_ri ⟨rfl, h1⟩)
  rw [if_neg c3]
  refine kT_eqf (by omega) (by omega) (by omega) ?_
  refine kT_lt (by omega) (by omega) (fun c4 => ?_) (fun c4 => ?_)
  · rw [if_pos (Or.inr (Or.inr (Or.inr c4))), if_pos (Or.inr (Or.inr (Or.inr c4)))]
    exact kT_ri ⟨rfl, h1⟩
  have cP : ¬ nP t l p := by omega
  rw [if_neg cP, if_neg cP, e7]
  by_cases c5 : 100 ≤ bn (sb S)
  · rw [if_pos c5, if_pos c5]
    exact kT_eqt (by omega) (by omega) (kT_ri ⟨rfl, h1⟩)
  rw [if_neg c5, if_neg c5]
  refine kT_eqf (by omega) (by omega) (by omega) ?_
  refine kT_callT (kT.fr (M_notesAct h1.2.1 hS.2.1.1 (by rw [hS.2.1.2.1]; exact hN) hS.2.1.2.2 (inS (nl (sb S)) (plS (nl (sb S)) t l p (bn (sb S))) t l p)) (rfM_notesAct M)) (fun r τ hz => ?_)
  obtain ⟨z1, z2⟩ := hz
  dsimp only at z1 z2
  refine kT_callT (kT.fr (M_comes (hN.fr z2 rfl) hv (by show bn (sb S) < 100; omega) ht hl hp) (rfM_comes _ _ _ τ)) (fun r τ2 hz => ?_)
  obtain ⟨⟨y1, y2⟩, y3⟩ := hz
  dsimp only at y1 y2 y3
  have hf : kFr wfM_put M τ2 := (z2.mono rfl).trans (y3.mono rfl)
  exact kT_ri ⟨y1, mS_new h1 hf rfl rfl rfl y2 (z1.fr y3 rfl)⟩
/-! drop -/
def qDrop (S : KSt) (i : Int) : Int := if i < 0 ∨ (bn (sb S) : Int) - 1 < i then -2 else (bn (sb S) : Int) - 1
def sDrop (S : KSt) (i : Int) : KSt := if i < 0 ∨ (bn (sb S) : Int) - 1 < i then S else sNew S (rvS (nl (sb S)) i)
theorem kSt_drop {S : KSt} (h : kSt S) (i : Int) : kSt (sDrop S i) := by
  unfold sDrop
  split
  · exact h
  · exact kSt_new h (vN_rm (A := nl (sb S)) h.1.1 ⟨by omega, by show i < ((bn (sb S) : Nat) : Int); omega⟩)
theorem C_drop {S : KSt} {σ : KM} (hS : kSt S) (h : cS S σ) {i : Int} (hi : i32 i) : kT (fP_drop i σ) (fun z => z.1 = qDrop S i ∧ cS (sDrop S i) z.2) := by
  have hN : cNt (nl (sb S)) σ := h.1.1.1
  have hv : vN (nl (sb S)) := hS.1.1
  have n100 : bn (sb S) ≤ 100 := hv.1
  have e3 : σ 3 3 = (bn (sb S) : Int) := hN.1
  unfold i32 at hi
  unfold fP_drop fP_drop_J15 qDrop sDrop
  rw [e3]
  refine kT_lt (by omega) (by omega) (fun c1 => ?_) (fun c1 => ?_)
  · rw [if_pos (Or.inl c1), if_pos (Or.inl c1)]
    exact kT_ri ⟨rfl, h⟩
  refine kT_lt (by omega) (by omega) (fun c2 => ?_) (fun c2 => ?_)
  · rw [if_neg (by omega), if_neg (by omega)]
    have hq : 0 ≤ i ∧ i < ((nl (sb S)).1 : Int) := ⟨by omega, c2⟩
    obtain ⟨g1, g2, g3⟩ := hN.2 i hq.1 hq.2
    refine kT_rd (by omega) (kT_rd (by omega) (kT_rd (by omega) ?_))
    rw [g1, g2, g3]
    refine kT_callT (kT.fr (P_remember (B := rvS (nl (sb S)) i) h.2.1 hS.2.1.1 (k := 1) (q := i) ?_) (rfHi_remember _ _ _ _ _ σ)) (fun r τ hz => ?_)
    · rw [hS.2.1.2.1]
      refine Or.inr (Or.inl ⟨rfl, ⟨hq.1, ?_, ?_⟩, in_rm hq⟩)
      · show i ≤ ((bn (sb S) - 1 : Nat) : Int)
        omega
      · show bn (sb S) - 1 < 100
        omega
    · obtain ⟨z1, z2⟩ := hz
      dsimp only at z1 z2
      have hN2 : cNt (nl (sb S)) τ := by
        have c16 : τ 16 = σ 16 := z2.cell rfl
        have c17 : τ 17 = σ 17 := z2.cell rfl
        have c18 : τ 18 = σ 18 := z2.cell rfl
        have f33 : τ 3 3 = σ 3 3 := z2.slot rfl
        unfold cNt kN
        rw [c16, c17, c18, f33]
        exact hN
      refine kT_callT (kT.fr (P_remove hN2 n100 hq) (rfNo_remove _ τ)) (fun r τ2 hz => ?_)
      obtain ⟨y1, y2⟩ := hz
      dsimp only at y1 y2
      have hf : kFr wfP_drop σ τ2 := (z2.mono rfl).trans (y2.mono rfl)
      have hz2 := z1.fr y2 rfl
      refine kT_callE C_notesChanged (kT_ri ⟨?_, cS_new h hf rfl rfl rfl rfl rfl y1 hz2⟩)
      show τ2 3 3 = _
      rw [y1.1]
      show ((bn (sb S) - 1 : Nat) : Int) = _
      omega
  · rw [if_pos (by omega), if_pos (by omega)]
    exact kT_ri ⟨rfl, h⟩
theorem M_drop {S : KSt} {σ : KM} (hS : kSt S) (h : mS S σ) {i : Int} (hi : i32 i) : kT (fM_drop i σ) (fun z => z.1 = qDrop S i ∧ mS (sDrop S i) z.2) := by
  have hv : vN (nl (sb S)) := hS.1.1
  have n100 : bn (sb S) ≤ 100 := hv.1
  unfold fM_drop qDrop sDrop
  refine kT_wf ?_
  have h1 := h.th
  generalize ks σ 10 0 0 = M at h1 ⊢
  have hN : mNt (nl (sb S)) M := h1.1.1
  refine kT_callE (M_isNote hS.1 h1.1 hi) ?_
  by_cases c : i < 0 ∨ (bn (sb S) : Int) - 1 < i
  · rw [if_pos c, if_pos c, if_pos c]
    exact kT_eqt rfl (by omega) (kT_ri ⟨rfl, h1⟩)
  rw [if_neg c, if_neg c, if_neg c]
  refine kT_eqf (by omega) (by omega) (by omega) ?_
  refine kT_callT (kT.fr (M_notesAct h1.2.1 hS.2.1.1 (by rw [hS.2.1.2.1]; exact hN) hS.2.1.2.2 (rvS (nl (sb S)) i)) (rfM_notesAct M)) (fun r τ hz => ?_)
  obtain ⟨z1, z2⟩ := hz
  dsimp only at z1 z2
  have hN2 := hN.fr z2 rfl
  have e7 : τ 10 7 = (bn (sb S) : Int) := hN2.1
  refine kT_wf ?_
  rw [e7]
  unfold fM_drop_L32
  obtain ⟨q, rfl⟩ : ∃ q : Nat, i = (q : Int) := ⟨i.toNat, by omega⟩
  refine kT_for (fun j s => ∃ T : KM, s = ((q : Int) + j, T) ∧ kFr [(10, some 7), (45, none), (46, none), (47, none)] τ T ∧ T 10 7 = (bn (sb S) : Int) - 1 ∧ (∀ k : Int, 0 ≤ k → k < (q : Int) + j → T 45 k = (rvS (nl (sb S)) q).2.1 k ∧ T 46 k = (rvS (nl (sb S)) q).2.2.1 k ∧ T 47 k = (rvS (nl (sb S)) q).2.2.2 k) ∧ ∀ k : Int, (q : Int) + j ≤ k → k < bn (sb S) → T 45 k = τ 45 k ∧ T 46 k = τ 46 k ∧ T 47 k = τ 47 k) (bn (sb S) - 1 - q) ?_ ?_ 0 (by omega) kF _ ⟨_, by simp, kFr.rf.putf rfl, ks_s _ _ _ _, fun k a d => ?_, fun k a d => ⟨rfl, rfl, rfl⟩⟩ (kF_lt (by omega))
  · rintro j s hj ⟨T, rfl, hf, t7, ta, tb⟩
    show kT (fM_drop_B32 ((q : Int) + j) T) _
    unfold fM_drop_B32
    rw [t7]
    have q1 := tb ((q : Int) + j + 1) (by omega) (by omega)
    obtain ⟨g1, g2, g3⟩ := hN2.2 ((q : Int) + j + 1) (by omega) (by show (q : Int) + j + 1 < ((bn (sb S) : Nat) : Int); omega)
    have er : ∀ f : Int → Int, rmF f q ((q : Int) + j) = f ((q : Int) + j + 1) := fun f => by
      unfold rmF
      rw [if_neg (by omega)]
    refine kT_ltt (by omega) (by omega) (kT_rd (by omega) (kT_wr (by omega) (kT_rd (by omega) (kT_wr (by omega) (kT_rd (by omega) (kT_wr (by omega) (kT_let (kT_inl ⟨_, Prod.ext (show (q : Int) + j + 1 = (q : Int) + ((j + 1 : Nat) : Int) by omega) rfl, ((hf.put rfl).put rfl).put rfl, t7, fun k a d => ?_, fun k a d => ?_⟩))))))))
    · show ks T 45 _ (T 45 ((q : Int) + j + 1)) 45 k = rmF (bt (sb S)) q k ∧ ks T 46 _ (T 46 ((q : Int) + j + 1)) 46 k = rmF (bl (sb S)) q k ∧ ks T 47 _ (T 47 ((q : Int) + j + 1)) 47 k = rmF (bp (sb S)) q k
      by_cases e : k = (q : Int) + j
      · rw [e, ks_s, ks_s, ks_s, er, er, er, q1.1, q1.2.1, q1.2.2]
        exact ⟨g1, g2, g3⟩
      · rw [ks_i e, ks_i e, ks_i e]
        exact ta k a (by omega)
    · show ks T 45 _ _ 45 k = _ ∧ ks T 46 _ _ 46 k = _ ∧ ks T 47 _ _ 47 k = _
      rw [ks_i (by omega), ks_i (by omega), ks_i (by omega)]
      exact tb k (by omega) d
  · rintro s ⟨T, rfl, hf, t7, ta, tb⟩
    show kT (fM_drop_B32 ((q : Int) + ((bn (sb S) - 1 - q : Nat) : Int)) T) _
    unfold fM_drop_B32 fM_drop_J88
    rw [t7]
    have hf2 : kFr wfM_drop M T := (z2.mono rfl).trans (hf.mono rfl)
    refine kT_ltf (by omega) (by omega) (kT_exit (kT_ri ⟨rfl, mS_new h1 hf2 rfl rfl rfl ⟨?_, fun k a d => ?_⟩ (z1.fr hf rfl)⟩))
    · show T 10 7 = ((bn (sb S) - 1 : Nat) : Int)
      rw [t7]
      omega
    · have d' : k < ((bn (sb S) - 1 : Nat) : Int) := d
      exact ta k a (by omega)
  · have er : ∀ f : Int → Int, rmF f q k = f k := fun f => by
      unfold rmF
      rw [if_pos (by omega)]
    show τ 45 k = rmF (bt (sb S)) q k ∧ τ 46 k = rmF (bl (sb S)) q k ∧ τ 47 k = rmF (bp (sb S)) q k
    rw [er, er, er]
    exact hN2.2 k a (by show k < ((bn (sb S) : Nat) : Int); omega)
