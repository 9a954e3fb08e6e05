/-! ===== rules for the pure functions: an answer is there, and holds ===== -/
def kT {Z : Type} (F : Option Z) (Φ : Z → Prop) : Prop := ∃ z, F = some z ∧ Φ z
theorem kT.mono {Z : Type} {F : Option Z} {Φ Ψ : Z → Prop} (h : kT F Φ) (hi : ∀ z, Φ z → Ψ z) : kT F Ψ := by
  obtain ⟨z, h1, h2⟩ := h
  exact ⟨z, h1, hi z h2⟩
theorem kT.of {Z : Type} {F : Option Z} {z : Z} {Φ : Z → Prop} (h : F = some z) (hz : Φ z) : kT F Φ := ⟨z, h, hz⟩
theorem kT.eq {Z : Type} {F : Option Z} {z : Z} (h : kT F (fun y => y = z)) : F = some z := by
  obtain ⟨y, h1, h2⟩ := h
  rw [h1, h2]
theorem kT_let {Z : Type} {a : Int} {G : Int → Option Z} {Φ : Z → Prop} (h : kT (G a) Φ) : kT (kLet a G) Φ := h
theorem kT_lt {Z : Type} {a b : Int} {T E : Option Z} {Φ : Z → Prop} (ha : -2147483648 ≤ a ∧ a < 2147483648) (hb : -2147483648 ≤ b ∧ b < 2147483648) (h1 : a < b → kT T Φ) (h2 : b ≤ a → kT E Φ) : kT (kLt a b T E) Φ := by
  unfold kLt
  rw [if_pos ⟨ha, hb⟩]
  split
  · exact h1 ‹_›
  · exact h2 (by omega)
theorem kT_ltt {Z : Type} {a b : Int} {T E : Option Z} {Φ : Z → Prop} (h : a < b) (ha : -2147483648 ≤ a ∧ b < 2147483648) (h1 : kT T Φ) : kT (kLt a b T E) Φ := kT_lt ⟨ha.1, by omega⟩ ⟨by omega, ha.2⟩ (fun _ => h1) (fun h9 => by omega)
theorem kT_ltf {Z : Type} {a b : Int} {T E : Option Z} {Φ : Z → Prop} (h : b ≤ a) (ha : -2147483648 ≤ b ∧ a < 2147483648) (h1 : kT E Φ) : kT (kLt a b T E) Φ := kT_lt ⟨by omega, ha.2⟩ ⟨ha.1, by omega⟩ (fun h9 => by omega) (fun _ => h1)
theorem kT_eq {Z : Type} {a b : Int} {T E : Option Z} {Φ : Z → Prop} (ha : -2147483648 ≤ a ∧ a < 2147483648) (hb : -2147483648 ≤ b ∧ b < 2147483648) (h1 : a = b → kT T Φ) (h2 : a ≠ b → kT E Φ) : kT (kEq a b T E) Φ := by
  unfold kEq
  rw [if_pos ⟨ha, hb⟩]
  split
  · exact h1 ‹_›
  · exact h2 ‹_›
theorem kT_eqt {Z : Type} {a b : Int} {T E : Option Z} {Φ : Z → Prop} (h : a = b) (ha : -2147483648 ≤ a ∧ a < 2147483648) (h1 : kT T Φ) : kT (kEq a b T E) Φ := kT_eq ha (by omega) (fun _ => h1) (fun h9 => absurd h h9)
theorem kT_eqf {Z : Type} {a b : Int} {T E : Option Z} {Φ : Z → Prop} (h : a ≠ b) (ha : -2147483648 ≤ a ∧ a < 2147483648) (hb : -2147483648 ≤ b ∧ b < 2147483648) (h1 : kT E Φ) : kT (kEq a b T E) Φ := kT_eq ha hb (fun h9 => absurd h9 h) (fun _ => h1)
theorem kT_ck {Z : Type} {a : Int} {F : Option Z} {Φ : Z → Prop} (ha : -2147483648 ≤ a ∧ a < 2147483648) (h : kT F Φ) : kT (kCk a F) Φ := by
  unfold kCk
  rw [if_pos ha]
  exact h
theorem kT_dv {Z : Type} {a b : Int} {G : Int → Option Z} {Φ : Z → Prop} (ha : -2147483648 ≤ a ∧ a < 2147483648) (hb : -2147483648 ≤ b ∧ b < 2147483648) (h0 : b ≠ 0) (h : kT (G (a.tdiv b)) Φ) : kT (kDv a b G) Φ := by
  unfold kDv
  rw [if_pos ⟨ha, hb, h0⟩]
  exact h
theorem kT_rm {Z : Type} {a b : Int} {G : Int → Option Z} {Φ : Z → Prop} (ha : -2147483648 ≤ a ∧ a < 2147483648) (hb : -2147483648 ≤ b ∧ b < 2147483648) (h0 : b ≠ 0) (h : kT (G (a.tmod b)) Φ) : kT (kRm a b G) Φ := by
  unfold kRm
  rw [if_pos ⟨ha, hb, h0⟩]
  exact h
theorem kT_rd {Z : Type} {σ : KM} {c : Nat} {N i : Int} {G : Int → Option Z} {Φ : Z → Prop} (h0 : 0 ≤ i ∧ i < N) (h : kT (G (σ c i)) Φ) : kT (kRd σ c N i G) Φ := by
  unfold kRd
  rw [if_pos h0]
  exact h
theorem kT_rs {Z : Type} {c : Nat} {N i : Int} {G : Int → Option Z} {Φ : Z → Prop} (h0 : 0 ≤ i ∧ i < N) (h : kT (G (k_sv c i.toNat)) Φ) : kT (kRs c N i G) Φ := by
  unfold kRs
  rw [if_pos h0]
  exact h
theorem kT_wr {Z : Type} {σ : KM} {c : Nat} {N i v : Int} {G : KM → Option Z} {Φ : Z → Prop} (h0 : 0 ≤ i ∧ i < N) (h : kT (G (ks σ c i v)) Φ) : kT (kWr σ c N i v G) Φ := by
  unfold kWr
  rw [if_pos h0]
  exact h
theorem kT_wz {Z : Type} {σ : KM} {c : Nat} {N i v : Int} {G : KM → Option Z} {Φ : Z → Prop} (h0 : 0 ≤ i ∧ i < N) (hv : v = 0 ∨ v = 1) (h : kT (G (ks σ c i v)) Φ) : kT (kWz σ c N i v G) Φ := by
  unfold kWz
  rw [if_pos ⟨h0, hv⟩]
  exact h
theorem kT_wb {Z : Type} {σ : KM} {c : Nat} {N i v : Int} {G : KM → Option Z} {Φ : Z → Prop} (h0 : 0 ≤ i ∧ i < N) (hv : -128 ≤ v ∧ v < 128) (h : kT (G (ks σ c i v)) Φ) : kT (kWb σ c N i v G) Φ := by
  unfold kWb
  rw [if_pos ⟨h0, hv⟩]
  exact h
theorem kT_wf {Z : Type} {σ : KM} {c : Nat} {k v : Int} {G : KM → Option Z} {Φ : Z → Prop} (h : kT (G (ks σ c k v)) Φ) : kT (kWf σ c k v G) Φ := h
theorem kT_wfz {Z : Type} {σ : KM} {c : Nat} {k v : Int} {G : KM → Option Z} {Φ : Z → Prop} (hv : v = 0 ∨ v = 1) (h : kT (G (ks σ c k v)) Φ) : kT (kWfz σ c k v G) Φ := by
  unfold kWfz
  rw [if_pos hv]
  exact h
theorem kT_mx {Z : Type} {a b : Int} {G : Int → Option Z} {Φ : Z → Prop} (ha : -2147483648 ≤ a ∧ a < 2147483648) (hb : -2147483648 ≤ b ∧ b < 2147483648) (h : kT (G (if a < b then b else a)) Φ) : kT (kMx a b G) Φ := by
  unfold kMx
  rw [if_pos ⟨ha, hb⟩]
  exact h
theorem kT_mn {Z : Type} {a b : Int} {G : Int → Option Z} {Φ : Z → Prop} (ha : -2147483648 ≤ a ∧ a < 2147483648) (hb : -2147483648 ≤ b ∧ b < 2147483648) (h : kT (G (if b < a then b else a)) Φ) : kT (kMn a b G) Φ := by
  unfold kMn
  rw [if_pos ⟨ha, hb⟩]
  exact h
theorem kT_cpy {Z : Type} {σ : KM} {c0 c1 : Nat} {N0 N1 sp dp n : Int} {G : KM → Option Z} {Φ : Z → Prop} (h0 : (0 ≤ sp ∧ 0 ≤ dp ∧ 0 ≤ n) ∧ (sp + n ≤ N0 ∧ dp + n ≤ N1)) (h : kT (G (kCp σ c0 c1 sp dp n)) Φ) : kT (kCpy σ c0 N0 sp c1 N1 dp n G) Φ := by
  unfold kCpy
  rw [if_pos h0]
  exact h
theorem kT_and {Z : Type} {a b : Int} {G : Int → Option Z} {Φ : Z → Prop} (hb : b = 255 ∨ b = 63 ∨ b = 1) (h : kT (G (a % (b + 1))) Φ) : kT (kAnd a b G) Φ := by
  unfold kAnd
  rw [if_pos hb]
  exact h
theorem kT_shr {Z : Type} {a b : Int} {G : Int → Option Z} {Φ : Z → Prop} (ha : -2147483648 ≤ a ∧ a < 2147483648) (hb : 0 ≤ b ∧ b < 32) (h : kT (G (a / 2 ^ b.toNat)) Φ) : kT (kShr a b G) Φ := by
  unfold kShr
  rw [if_pos ⟨ha, hb⟩]
  exact h
theorem kT_ush {Z : Type} {a b : Int} {G : Int → Option Z} {Φ : Z → Prop} (hb : 0 ≤ b ∧ b < 32) (h : kT (G ((a % 4294967296) / 2 ^ b.toNat)) Φ) : kT (kUsh a b G) Φ := by
  unfold kUsh
  rw [if_pos hb]
  exact h
theorem kT_ck6 {Z : Type} {a b : Int} {F : Option Z} {Φ : Z → Prop} (ha : -9223372036854775808 ≤ a ∧ a < 9223372036854775808) (hb : -9223372036854775808 ≤ b ∧ b < 9223372036854775808) (h : kT F Φ) : kT (kCk6 a b F) Φ := by
  unfold kCk6
  rw [if_pos ⟨ha, hb⟩]
  exact h
theorem kT_dv6 {Z : Type} {a b : Int} {G : Int → Option Z} {Φ : Z → Prop} (ha : -9223372036854775808 ≤ a ∧ a < 9223372036854775808) (hb : -9223372036854775808 ≤ b ∧ b < 9223372036854775808) (h0 : b ≠ 0) (h : kT (G (a.tdiv b)) Φ) : kT (kDv6 a b G) Φ := by
  unfold kDv6
  rw [if_pos ⟨ha, hb, h0⟩]
  exact h
theorem kT_call {Z : Type} {C : Option (Int × KM)} {G : Int → KM → Option Z} {Φ : Z → Prop} (h : kT C (fun q => kT (G q.1 q.2) Φ)) : kT (kCall C G) Φ := by
  obtain ⟨q, h1, h2⟩ := h
  rw [h1]
  exact h2
theorem kT_callE {Z : Type} {C : Option (Int × KM)} {r : Int} {τ : KM} {G : Int → KM → Option Z} {Φ : Z → Prop} (hc : C = some (r, τ)) (h : kT (G r τ) Φ) : kT (kCall C G) Φ := by
  rw [hc]
  exact h
theorem kT_callT {Z : Type} {C : Option (Int × KM)} {Ψ : Int × KM → Prop} {G : Int → KM → Option Z} {Φ : Z → Prop} (hc : kT C Ψ) (h : ∀ r τ, Ψ (r, τ) → kT (G r τ) Φ) : kT (kCall C G) Φ := by
  obtain ⟨⟨r, τ⟩, h1, h2⟩ := hc
  rw [h1]
  exact h r τ h2
theorem kT_some {Z : Type} {z : Z} {Φ : Z → Prop} (h : Φ z) : kT (some z) Φ := ⟨z, rfl, h⟩
theorem kT_ri {r : Int} {σ : KM} {Φ : Int × KM → Prop} (h : Φ (r, σ)) : kT (kRetI r σ) Φ := ⟨_, rfl, h⟩
theorem kT_rz {r : Int} {σ : KM} {Φ : Int × KM → Prop} (hr : r = 0 ∨ r = 1) (h : Φ (r, σ)) : kT (kRetZ r σ) Φ := by
  unfold kRetZ
  rw [if_pos hr]
  exact ⟨_, rfl, h⟩
def kS {S R : Type} (A : S → Prop) (B : R → Prop) : S ⊕ R → Prop
  | .inl s => A s
  | .inr r => B r
theorem kT_inl {S R : Type} {s : S} {A : S → Prop} {B : R → Prop} (h : A s) : kT (some (Sum.inl s)) (kS A B) := ⟨_, rfl, h⟩
theorem kT_exit {S R : Type} {F : Option R} {A : S → Prop} {B : R → Prop} (h : kT F B) : kT (kExit F) (kS A B) := by
  obtain ⟨r, h1, h2⟩ := h
  rw [h1]
  exact ⟨.inr r, rfl, h2⟩
/-- a loop: I n s tells that n rounds more are enough -/
theorem kT_iter {S R : Type} {f : S → Option (S ⊕ R)} {Φ : R → Prop} (I : Nat → S → Prop) (h : ∀ n s, I n s → kT (f s) (kS (fun s' => ∃ m, m < n ∧ I m s') Φ)) : ∀ (k n : Nat) (s : S), I n s → n < k → kT (kIter f k s) Φ := by
  intro k
  induction k with
  | zero => intro n s _ hn; omega
  | succ k ih =>
    intro n s hI hn
    obtain ⟨q, h1, h2⟩ := h n s hI
    unfold kIter
    rw [h1]
    cases q with
    | inl s' =>
      obtain ⟨m, hm, hI'⟩ := h2
      exact ih m s' hI' (by omega)
    | inr r => exact ⟨r, rfl, h2⟩
/-- a loop that counts up: I i s ahead of the round i -/
theorem kT_for {S R : Type} {f : S → Option (S ⊕ R)} {Φ : R → Prop} (I : Nat → S → Prop) (N : Nat) (hs : ∀ i s, i < N → I i s → kT (f s) (kS (I (i + 1)) Φ)) (he : ∀ s, I N s → kT (f s) (kS (fun _ => False) Φ)) (i0 : Nat) (hi : i0 ≤ N) (k : Nat) (s : S) (h0 : I i0 s) (hk : N - i0 < k) : kT (kIter f k s) Φ := by
  refine kT_iter (fun n s => ∃ i, i ≤ N ∧ n = N - i ∧ I i s) ?_ k (N - i0) s ⟨i0, hi, rfl, h0⟩ hk
  intro n s ⟨i, h1, h2, h3⟩
  by_cases hlt : i < N
  · refine (hs i s hlt h3).mono (fun q hq => ?_)
    cases q with
    | inl s' => exact ⟨N - (i + 1), by omega, i + 1, by omega, rfl, hq⟩
    | inr r => exact hq
  · have : i = N := by omega
    subst this
    refine (he s h3).mono (fun q hq => ?_)
    cases q with
    | inl s' => exact absurd hq (fun z => z)
    | inr r => exact hq
/-- a loop whose states are known one by one -/
theorem kI_seq {S R : Type} {f : S → Option (S ⊕ R)} {F : Option R} (st : Nat → S) (N : Nat) (hs : ∀ i, i < N → f (st i) = some (.inl (st (i + 1)))) (he : f (st N) = kExit F) : ∀ (i k : Nat), i ≤ N → N - i < k → kIter f k (st i) = F := by
  intro i k
  induction k generalizing i with
  | zero => intro _ h; omega
  | succ k ih =>
    intro hi hk
    unfold kIter
    by_cases hlt : i < N
    · rw [hs i hlt]
      exact ih (i + 1) (by omega) (by omega)
    · have : i = N := by omega
      subst this
      rw [he]
      cases F <;> rfl
theorem kF_lt {n : Nat} (h : n < 4000) : n < kF := h
/-! memory -/
theorem ks_ap (σ : KM) (c : Nat) (i v : Int) (c' : Nat) (i' : Int) : ks σ c i v c' i' = if c' = c ∧ i' = i then v else σ c' i' := rfl
theorem ks_s (σ : KM) (c : Nat) (i v : Int) : ks σ c i v c i = v := by simp [ks]
theorem ks_c {σ : KM} {c : Nat} {i v : Int} {c' : Nat} (h : c' ≠ c) (i' : Int) : ks σ c i v c' i' = σ c' i' := by simp [ks, h]
theorem ks_i {σ : KM} {c : Nat} {i v : Int} {i' : Int} (h : i' ≠ i) : ks σ c i v c i' = σ c i' := by simp [ks, h]
theorem kCp_ap (σ : KM) (c0 c1 : Nat) (sp dp n : Int) (c : Nat) (i : Int) : kCp σ c0 c1 sp dp n c i = if c = c1 ∧ dp ≤ i ∧ i < dp + n then σ c0 (sp + (i - dp)) else σ c i := rfl
