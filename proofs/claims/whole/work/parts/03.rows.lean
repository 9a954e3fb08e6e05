/-! ===== pure steps ===== -/
def kLet {Z : Type} (a : Int) (G : Int → Option Z) : Option Z := G a
def kLt {Z : Type} (a b : Int) (T E : Option Z) : Option Z := if kin a ∧ kin b then (if a < b then T else E) else none
def kEq {Z : Type} (a b : Int) (T E : Option Z) : Option Z := if kin a ∧ kin b then (if a = b then T else E) else none
def kCk {Z : Type} (a : Int) (F : Option Z) : Option Z := if kin a then F else none
def kCk6 {Z : Type} (a b : Int) (F : Option Z) : Option Z := if kin6 a ∧ kin6 b then F else none
def kDv {Z : Type} (a b : Int) (G : Int → Option Z) : Option Z := if kin a ∧ kin b ∧ b ≠ 0 then G (a.tdiv b) else none
def kRm {Z : Type} (a b : Int) (G : Int → Option Z) : Option Z := if kin a ∧ kin b ∧ b ≠ 0 then G (a.tmod b) else none
def kDv6 {Z : Type} (a b : Int) (G : Int → Option Z) : Option Z := if kin6 a ∧ kin6 b ∧ b ≠ 0 then G (a.tdiv b) else none
def kRd {Z : Type} (σ : KM) (c : Nat) (N i : Int) (G : Int → Option Z) : Option Z := if 0 ≤ i ∧ i < N then G (σ c i) else none
def kWr {Z : Type} (σ : KM) (c : Nat) (N i v : Int) (G : KM → Option Z) : Option Z := if 0 ≤ i ∧ i < N then G (ks σ c i v) else none
def kWz {Z : Type} (σ : KM) (c : Nat) (N i v : Int) (G : KM → Option Z) : Option Z := if (0 ≤ i ∧ i < N) ∧ (v = 0 ∨ v = 1) then G (ks σ c i v) else none
def kWb {Z : Type} (σ : KM) (c : Nat) (N i v : Int) (G : KM → Option Z) : Option Z := if (0 ≤ i ∧ i < N) ∧ (-128 ≤ v ∧ v < 128) then G (ks σ c i v) else none
def kRs {Z : Type} (c : Nat) (N i : Int) (G : Int → Option Z) : Option Z := if 0 ≤ i ∧ i < N then G (k_sv c i.toNat) else none
def kWf {Z : Type} (σ : KM) (c : Nat) (k v : Int) (G : KM → Option Z) : Option Z := G (ks σ c k v)
def kWfz {Z : Type} (σ : KM) (c : Nat) (k v : Int) (G : KM → Option Z) : Option Z := if v = 0 ∨ v = 1 then G (ks σ c k v) else none
def kCall {Z : Type} (C : Option (Int × KM)) (G : Int → KM → Option Z) : Option Z := match C with
  | none => none
  | some q => G q.1 q.2
def kMx {Z : Type} (a b : Int) (G : Int → Option Z) : Option Z := if kin a ∧ kin b then G (if a < b then b else a) else none
def kMn {Z : Type} (a b : Int) (G : Int → Option Z) : Option Z := if kin a ∧ kin b then G (if b < a then b else a) else none
def kCp (σ : KM) (c0 c1 : Nat) (sp dp n : Int) : KM := fun c i => if c = c1 ∧ dp ≤ i ∧ i < dp + n then σ c0 (sp + (i - dp)) else σ c i
def kCpy {Z : Type} (σ : KM) (c0 : Nat) (N0 sp : Int) (c1 : Nat) (N1 dp n : Int) (G : KM → Option Z) : Option Z := if (0 ≤ sp ∧ 0 ≤ dp ∧ 0 ≤ n) ∧ (sp + n ≤ N0 ∧ dp + n ≤ N1) then G (kCp σ c0 c1 sp dp n) else none
def kAnd {Z : Type} (a b : Int) (G : Int → Option Z) : Option Z := if b = 255 ∨ b = 63 ∨ b = 1 then G (a % (b + 1)) else none
def kShr {Z : Type} (a b : Int) (G : Int → Option Z) : Option Z := if kin a ∧ 0 ≤ b ∧ b < 32 then G (a / 2 ^ b.toNat) else none
def kUsh {Z : Type} (a b : Int) (G : Int → Option Z) : Option Z := if 0 ≤ b ∧ b < 32 then G ((a % 4294967296) / 2 ^ b.toNat) else none
def kcmp (a b : Int) : Int := if b < a then 1 else if a = b then 0 else -1
def kI2b (a : Int) : Int := (a + 128) % 256 - 128
def kRetI (r : Int) (σ : KM) : Option (Int × KM) := some (r, σ)
def kRetZ (r : Int) (σ : KM) : Option (Int × KM) := if r = 0 ∨ r = 1 then some (r, σ) else none
def kRetC (r : Int) (σ : KM) : Option (Int × KM) := if 0 ≤ r ∧ r < 256 then some (r, σ) else none
def kSw {Z : Type} (x lo : Int) (Fs : List (Option Z)) (E : Option Z) : Option Z := if kin x then (if lo ≤ x ∧ x < lo + (Fs.length : Int) then Fs.getD (x - lo).toNat none else E) else none
def kIter {S R : Type} (f : S → Option (S ⊕ R)) : Nat → S → Option R
  | 0, _ => none
  | n + 1, s => match f s with
    | none => none
    | some (.inl s') => kIter f n s'
    | some (.inr r) => some r
def kExit {S R : Type} (F : Option R) : Option (S ⊕ R) := match F with
  | none => none
  | some r => some (.inr r)
def kF : Nat := 4000
/-! ===== rows ===== -/
section KR
variable {X : KC} {d n : Nat} {cc : ByteArray} {own : String} {pc : Nat} {L : List (Option KV)} {st : List KV} {σ : KM} {Z : Type} {F : Option Z} {Θ : Z → Prop}
theorem kJ.to {pc2 : Nat} {L2 : List (Option KV)} {st2 : List KV} {σ2 : KM} (f : kW X pc2 L2 st2 σ2 → kW X pc L st σ) (h : kJ X pc2 L2 st2 σ2 F Θ) : kJ X pc L st σ F Θ := fun z hF hz => f (h z hF hz)
theorem k_iadd (hX : kOk X d cc n own) {a b : Int} (hd : decode cc pc = .ok (.iadd, 1)) (h : kJ X (pc + 1) L (ki (a + b) :: st) σ F Θ) : kJ X pc L (ki b :: ki a :: st) σ F Θ := by
  obtain ⟨⟨p, l, e, R⟩, ⟨s, m, args, below⟩, ⟨meth, c⟩, ⟨D, K, α, A⟩, ⟨Q, cells, slots, nL⟩⟩ := X
  obtain ⟨hx, hb, hml, hnl, hown, hts, hR, hK, hA, hAc, hinj, hE⟩ := hX
  intro z hF hz H locs ls hP hS hL
  have k := h z hF hz H locs ls hP hS hL
  refine lv_iadd hx hb hd ?_
  rw [← c32_add]
  exact k
theorem k_isub (hX : kOk X d cc n own) {a b : Int} (hd : decode cc pc = .ok (.isub, 1)) (h : kJ X (pc + 1) L (ki (a - b) :: st) σ F Θ) : kJ X pc L (ki b :: ki a :: st) σ F Θ := by
  obtain ⟨⟨p, l, e, R⟩, ⟨s, m, args, below⟩, ⟨meth, c⟩, ⟨D, K, α, A⟩, ⟨Q, cells, slots, nL⟩⟩ := X
  obtain ⟨hx, hb, hml, hnl, hown, hts, hR, hK, hA, hAc, hinj, hE⟩ := hX
  intro z hF hz H locs ls hP hS hL
  have k := h z hF hz H locs ls hP hS hL
  refine lv_isub hx hb hd ?_
  rw [← c32_sub]
  exact k
theorem k_imul (hX : kOk X d cc n own) {a b : Int} (hd : decode cc pc = .ok (.imul, 1)) (h : kJ X (pc + 1) L (ki (a * b) :: st) σ F Θ) : kJ X pc L (ki b :: ki a :: st) σ F Θ := by
  obtain ⟨⟨p, l, e, R⟩, ⟨s, m, args, below⟩, ⟨meth, c⟩, ⟨D, K, α, A⟩, ⟨Q, cells, slots, nL⟩⟩ := X
  obtain ⟨hx, hb, hml, hnl, hown, hts, hR, hK, hA, hAc, hinj, hE⟩ := hX
  intro z hF hz H locs ls hP hS hL
  have k := h z hF hz H locs ls hP hS hL
  refine lv_imul hx hb hd ?_
  rw [← c32_mul]
  exact k
theorem k_ineg (hX : kOk X d cc n own) {a : Int} (hd : decode cc pc = .ok (.ineg, 1)) (h : kJ X (pc + 1) L (ki (-a) :: st) σ F Θ) : kJ X pc L (ki a :: st) σ F Θ := by
  obtain ⟨⟨p, l, e, R⟩, ⟨s, m, args, below⟩, ⟨meth, c⟩, ⟨D, K, α, A⟩, ⟨Q, cells, slots, nL⟩⟩ := X
  obtain ⟨hx, hb, hml, hnl, hown, hts, hR, hK, hA, hAc, hinj, hE⟩ := hX
  intro z hF hz H locs ls hP hS hL
  have k := h z hF hz H locs ls hP hS hL
  refine lv_ineg hx hb hd ?_
  rw [← c32_neg]
  exact k
theorem k_iconst (hX : kOk X d cc n own) {v : Int} (hd : decode cc pc = .ok (.iconst v, 1)) (h : kJ X (pc + 1) L (ki v :: st) σ F Θ) : kJ X pc L (st) σ F Θ := by
  obtain ⟨⟨p, l, e, R⟩, ⟨s, m, args, below⟩, ⟨meth, c⟩, ⟨D, K, α, A⟩, ⟨Q, cells, slots, nL⟩⟩ := X
  obtain ⟨hx, hb, hml, hnl, hown, hts, hR, hK, hA, hAc, hinj, hE⟩ := hX
  intro z hF hz H locs ls hP hS hL
  have k := h z hF hz H locs ls hP hS hL
  exact lv_iconst hx hb hd (v := c32 v) rfl k
theorem k_bipush (hX : kOk X d cc n own) {v : Int} (hd : decode cc pc = .ok (.bipush v, 2)) (hv : (Int8.ofInt v).toInt32 = c32 v) (h : kJ X (pc + 2) L (ki v :: st) σ F Θ) : kJ X pc L (st) σ F Θ := by
  obtain ⟨⟨p, l, e, R⟩, ⟨s, m, args, below⟩, ⟨meth, c⟩, ⟨D, K, α, A⟩, ⟨Q, cells, slots, nL⟩⟩ := X
  obtain ⟨hx, hb, hml, hnl, hown, hts, hR, hK, hA, hAc, hinj, hE⟩ := hX
  intro z hF hz H locs ls hP hS hL
  have k := h z hF hz H locs ls hP hS hL
  exact lv_bipush hx hb hd (v := c32 v) hv k
theorem k_sipush (hX : kOk X d cc n own) {v : Int} (hd : decode cc pc = .ok (.sipush v, 3)) (hv : (Int16.ofInt v).toInt32 = c32 v) (h : kJ X (pc + 3) L (ki v :: st) σ F Θ) : kJ X pc L (st) σ F Θ := by
  obtain ⟨⟨p, l, e, R⟩, ⟨s, m, args, below⟩, ⟨meth, c⟩, ⟨D, K, α, A⟩, ⟨Q, cells, slots, nL⟩⟩ := X
  obtain ⟨hx, hb, hml, hnl, hown, hts, hR, hK, hA, hAc, hinj, hE⟩ := hX
  intro z hF hz H locs ls hP hS hL
  have k := h z hF hz H locs ls hP hS hL
  exact lv_sipush hx hb hd (v := c32 v) hv k
theorem k_ldc (hX : kOk X d cc n own) {v : Int} {w : Int32} {index : Nat} (hd : decode cc pc = .ok (.ldc index, 2)) (hw : Cond.constant own index (c32 v) ∈ k_Tg) (h : kJ X (pc + 2) L (ki v :: st) σ F Θ) : kJ X pc L (st) σ F Θ := by
  obtain ⟨⟨p, l, e, R⟩, ⟨s, m, args, below⟩, ⟨meth, c⟩, ⟨D, K, α, A⟩, ⟨Q, cells, slots, nL⟩⟩ := X
  obtain ⟨hx, hb, hml, hnl, hown, hts, hR, hK, hA, hAc, hinj, hE⟩ := hX
  intro z hF hz H locs ls hP hS hL
  have k := h z hF hz H locs ls hP hS hL
  exact lv_ldc hx hb (v := c32 v) hown (hts _ hw) hd k
theorem k_ldcw (hX : kOk X d cc n own) {v : Int} {w : Int32} {index : Nat} (hd : decode cc pc = .ok (.ldc_w index, 3)) (hw : Cond.constant own index (c32 v) ∈ k_Tg) (h : kJ X (pc + 3) L (ki v :: st) σ F Θ) : kJ X pc L (st) σ F Θ := by
  obtain ⟨⟨p, l, e, R⟩, ⟨s, m, args, below⟩, ⟨meth, c⟩, ⟨D, K, α, A⟩, ⟨Q, cells, slots, nL⟩⟩ := X
  obtain ⟨hx, hb, hml, hnl, hown, hts, hR, hK, hA, hAc, hinj, hE⟩ := hX
  intro z hF hz H locs ls hP hS hL
  have k := h z hF hz H locs ls hP hS hL
  exact lv_ldcw hx hb (v := c32 v) hown (hts _ hw) hd k
theorem k_ldc2 (hX : kOk X d cc n own) {v : Int} {index : Nat} (hd : decode cc pc = .ok (.ldc2_w index, 3)) (hw : Cond.constantLong own index (c64 v) ∈ k_Tg) (h : kJ X (pc + 3) L (kl v :: st) σ F Θ) : kJ X pc L (st) σ F Θ := by
  obtain ⟨⟨p, l, e, R⟩, ⟨s, m, args, below⟩, ⟨meth, c⟩, ⟨D, K, α, A⟩, ⟨Q, cells, slots, nL⟩⟩ := X
  obtain ⟨hx, hb, hml, hnl, hown, hts, hR, hK, hA, hAc, hinj, hE⟩ := hX
  intro z hF hz H locs ls hP hS hL
  have k := h z hF hz H locs ls hP hS hL
  exact lv_ldc2 hx hb (v := c64 v) hown (hts _ hw) hd k
theorem k_lconst0 (hX : kOk X d cc n own) (hd : decode cc pc = .ok (.lconst 0, 1)) (h : kJ X (pc + 1) L (kl 0 :: st) σ F Θ) : kJ X pc L (st) σ F Θ := by
  obtain ⟨⟨p, l, e, R⟩, ⟨s, m, args, below⟩, ⟨meth, c⟩, ⟨D, K, α, A⟩, ⟨Q, cells, slots, nL⟩⟩ := X
  obtain ⟨hx, hb, hml, hnl, hown, hts, hR, hK, hA, hAc, hinj, hE⟩ := hX
  intro z hF hz H locs ls hP hS hL
  have k := h z hF hz H locs ls hP hS hL
  exact lv_lconst hx hb hd (v := c64 0) (by decide) k
theorem k_lconst1 (hX : kOk X d cc n own) (hd : decode cc pc = .ok (.lconst 1, 1)) (h : kJ X (pc + 1) L (kl 1 :: st) σ F Θ) : kJ X pc L (st) σ F Θ := by
  obtain ⟨⟨p, l, e, R⟩, ⟨s, m, args, below⟩, ⟨meth, c⟩, ⟨D, K, α, A⟩, ⟨Q, cells, slots, nL⟩⟩ := X
  obtain ⟨hx, hb, hml, hnl, hown, hts, hR, hK, hA, hAc, hinj, hE⟩ := hX
  intro z hF hz H locs ls hP hS hL
  have k := h z hF hz H locs ls hP hS hL
  exact lv_lconst hx hb hd (v := c64 1) (by decide) k
theorem k_iload_n (hX : kOk X d cc n own) {j : Fin 4} {v : Int} (hd : decode cc pc = .ok (.iload_n j, 1)) (hl : L[(j : Nat)]? = some (some (ki v))) (h : kJ X (pc + 1) L (ki v :: st) σ F Θ) : kJ X pc L (st) σ F Θ := by
  obtain ⟨⟨p, l, e, R⟩, ⟨s, m, args, below⟩, ⟨meth, c⟩, ⟨D, K, α, A⟩, ⟨Q, cells, slots, nL⟩⟩ := X
  obtain ⟨hx, hb, hml, hnl, hown, hts, hR, hK, hA, hAc, hinj, hE⟩ := hX
  intro z hF hz H locs ls hP hS hL
  have k := h z hF hz H locs ls hP hS hL
  exact lv_iload_n hx hb hd rfl (hL.2.2.2 _ _ hl) k
theorem k_iload (hX : kOk X d cc n own) {j : Nat} {v : Int} (hd : decode cc pc = .ok (.iload j, 2)) (hl : L[j]? = some (some (ki v))) (h : kJ X (pc + 2) L (ki v :: st) σ F Θ) : kJ X pc L (st) σ F Θ := by
  obtain ⟨⟨p, l, e, R⟩, ⟨s, m, args, below⟩, ⟨meth, c⟩, ⟨D, K, α, A⟩, ⟨Q, cells, slots, nL⟩⟩ := X
  obtain ⟨hx, hb, hml, hnl, hown, hts, hR, hK, hA, hAc, hinj, hE⟩ := hX
  intro z hF hz H locs ls hP hS hL
  have k := h z hF hz H locs ls hP hS hL
  exact lv_iload hx hb hd (hL.2.2.2 _ _ hl) k
theorem k_lload_n (hX : kOk X d cc n own) {j : Fin 4} {v : Int} (hd : decode cc pc = .ok (.lload_n j, 1)) (hl : L[(j : Nat)]? = some (some (kl v))) (h : kJ X (pc + 1) L (kl v :: st) σ F Θ) : kJ X pc L (st) σ F Θ := by
  obtain ⟨⟨p, l, e, R⟩, ⟨s, m, args, below⟩, ⟨meth, c⟩, ⟨D, K, α, A⟩, ⟨Q, cells, slots, nL⟩⟩ := X
  obtain ⟨hx, hb, hml, hnl, hown, hts, hR, hK, hA, hAc, hinj, hE⟩ := hX
  intro z hF hz H locs ls hP hS hL
  have k := h z hF hz H locs ls hP hS hL
  exact lv_lload_n hx hb hd rfl (hL.2.2.2 _ _ hl) k
theorem k_lload (hX : kOk X d cc n own) {j : Nat} {v : Int} (hd : decode cc pc = .ok (.lload j, 2)) (hl : L[j]? = some (some (kl v))) (h : kJ X (pc + 2) L (kl v :: st) σ F Θ) : kJ X pc L (st) σ F Θ := by
  obtain ⟨⟨p, l, e, R⟩, ⟨s, m, args, below⟩, ⟨meth, c⟩, ⟨D, K, α, A⟩, ⟨Q, cells, slots, nL⟩⟩ := X
  obtain ⟨hx, hb, hml, hnl, hown, hts, hR, hK, hA, hAc, hinj, hE⟩ := hX
  intro z hF hz H locs ls hP hS hL
  have k := h z hF hz H locs ls hP hS hL
  exact lv_lload hx hb hd (hL.2.2.2 _ _ hl) k
theorem k_aload_n (hX : kOk X d cc n own) {j : Fin 4} {v : Nat} (hd : decode cc pc = .ok (.aload_n j, 1)) (hl : L[(j : Nat)]? = some (some (kr v))) (h : kJ X (pc + 1) L (kr v :: st) σ F Θ) : kJ X pc L (st) σ F Θ := by
  obtain ⟨⟨p, l, e, R⟩, ⟨s, m, args, below⟩, ⟨meth, c⟩, ⟨D, K, α, A⟩, ⟨Q, cells, slots, nL⟩⟩ := X
  obtain ⟨hx, hb, hml, hnl, hown, hts, hR, hK, hA, hAc, hinj, hE⟩ := hX
  intro z hF hz H locs ls hP hS hL
  have k := h z hF hz H locs ls hP hS hL
  exact lv_aload_n hx hb hd rfl (hL.2.2.2 _ _ hl) k
theorem k_aload (hX : kOk X d cc n own) {j : Nat} {v : Nat} (hd : decode cc pc = .ok (.aload j, 2)) (hl : L[j]? = some (some (kr v))) (h : kJ X (pc + 2) L (kr v :: st) σ F Θ) : kJ X pc L (st) σ F Θ := by
  obtain ⟨⟨p, l, e, R⟩, ⟨s, m, args, below⟩, ⟨meth, c⟩, ⟨D, K, α, A⟩, ⟨Q, cells, slots, nL⟩⟩ := X
  obtain ⟨hx, hb, hml, hnl, hown, hts, hR, hK, hA, hAc, hinj, hE⟩ := hX
  intro z hF hz H locs ls hP hS hL
  have k := h z hF hz H locs ls hP hS hL
  exact lv_aload hx hb hd (hL.2.2.2 _ _ hl) k
theorem k_lmul (hX : kOk X d cc n own) {a b : Int} (hd : decode cc pc = .ok (.lmul, 1)) (h : kJ X (pc + 1) L (kl (a * b) :: st) σ F Θ) : kJ X pc L (kl b :: kl a :: st) σ F Θ := by
  obtain ⟨⟨p, l, e, R⟩, ⟨s, m, args, below⟩, ⟨meth, c⟩, ⟨D, K, α, A⟩, ⟨Q, cells, slots, nL⟩⟩ := X
  obtain ⟨hx, hb, hml, hnl, hown, hts, hR, hK, hA, hAc, hinj, hE⟩ := hX
  intro z hF hz H locs ls hP hS hL
  have k := h z hF hz H locs ls hP hS hL
  refine lv_lmul hx hb hd ?_
  rw [← c64_mul]
  exact k
theorem k_l2i (hX : kOk X d cc n own) {a : Int} (hd : decode cc pc = .ok (.l2i, 1)) (h : kJ X (pc + 1) L (ki a :: st) σ F Θ) : kJ X pc L (kl a :: st) σ F Θ := by
  obtain ⟨⟨p, l, e, R⟩, ⟨s, m, args, below⟩, ⟨meth, c⟩, ⟨D, K, α, A⟩, ⟨Q, cells, slots, nL⟩⟩ := X
  obtain ⟨hx, hb, hml, hnl, hown, hts, hR, hK, hA, hAc, hinj, hE⟩ := hX
  intro z hF hz H locs ls hP hS hL
  have k := h z hF hz H locs ls hP hS hL
  exact lv_l2i hx hb hd (c64_i a) k
theorem k_dup (hX : kOk X d cc n own) {a : Int} (hd : decode cc pc = .ok (.dup, 1)) (h : kJ X (pc + 1) L (ki a :: ki a :: st) σ F Θ) : kJ X pc L (ki a :: st) σ F Θ := by
  obtain ⟨⟨p, l, e, R⟩, ⟨s, m, args, below⟩, ⟨meth, c⟩, ⟨D, K, α, A⟩, ⟨Q, cells, slots, nL⟩⟩ := X
  obtain ⟨hx, hb, hml, hnl, hown, hts, hR, hK, hA, hAc, hinj, hE⟩ := hX
  intro z hF hz H locs ls hP hS hL
  have k := h z hF hz H locs ls hP hS hL
  exact lv_dup hx hb hd rfl k
theorem k_dupr (hX : kOk X d cc n own) {a : Nat} (hd : decode cc pc = .ok (.dup, 1)) (h : kJ X (pc + 1) L (kr a :: kr a :: st) σ F Θ) : kJ X pc L (kr a :: st) σ F Θ := by
  obtain ⟨⟨p, l, e, R⟩, ⟨s, m, args, below⟩, ⟨meth, c⟩, ⟨D, K, α, A⟩, ⟨Q, cells, slots, nL⟩⟩ := X
  obtain ⟨hx, hb, hml, hnl, hown, hts, hR, hK, hA, hAc, hinj, hE⟩ := hX
  intro z hF hz H locs ls hP hS hL
  have k := h z hF hz H locs ls hP hS hL
  exact lv_dup hx hb hd rfl k
theorem k_dup2 (hX : kOk X d cc n own) {a : Int} {b : Nat} (hd : decode cc pc = .ok (.dup2, 1)) (h : kJ X (pc + 1) L (ki a :: kr b :: ki a :: kr b :: st) σ F Θ) : kJ X pc L (ki a :: kr b :: st) σ F Θ := by
  obtain ⟨⟨p, l, e, R⟩, ⟨s, m, args, below⟩, ⟨meth, c⟩, ⟨D, K, α, A⟩, ⟨Q, cells, slots, nL⟩⟩ := X
  obtain ⟨hx, hb, hml, hnl, hown, hts, hR, hK, hA, hAc, hinj, hE⟩ := hX
  intro z hF hz H locs ls hP hS hL
  have k := h z hF hz H locs ls hP hS hL
  exact lv_dup2_11 hx hb hd rfl rfl k
theorem k_pop (hX : kOk X d cc n own) {a : Int} (hd : decode cc pc = .ok (.pop, 1)) (h : kJ X (pc + 1) L (st) σ F Θ) : kJ X pc L (ki a :: st) σ F Θ := by
  obtain ⟨⟨p, l, e, R⟩, ⟨s, m, args, below⟩, ⟨meth, c⟩, ⟨D, K, α, A⟩, ⟨Q, cells, slots, nL⟩⟩ := X
  obtain ⟨hx, hb, hml, hnl, hown, hts, hR, hK, hA, hAc, hinj, hE⟩ := hX
  intro z hF hz H locs ls hP hS hL
  have k := h z hF hz H locs ls hP hS hL
  exact lv_pop hx hb hd rfl k
theorem k_i2l (hX : kOk X d cc n own) {a : Int} (hd : decode cc pc = .ok (.i2l, 1)) (h : kJ X (pc + 1) L (kl a :: st) σ F Θ) : kJ X pc L (ki a :: st) σ (kCk a F) Θ := by
  obtain ⟨⟨p, l, e, R⟩, ⟨s, m, args, below⟩, ⟨meth, c⟩, ⟨D, K, α, A⟩, ⟨Q, cells, slots, nL⟩⟩ := X
  obtain ⟨hx, hb, hml, hnl, hown, hts, hR, hK, hA, hAc, hinj, hE⟩ := hX
  intro z hF hz H locs ls hP hS hL
  unfold kCk at hF
  split at hF
  · rename_i hc
    exact lv_i2l hx hb hd (c32_l hc) (h z hF hz H locs ls hP hS hL)
  · cases hF
theorem k_lcmp (hX : kOk X d cc n own) {a b : Int} (hd : decode cc pc = .ok (.lcmp, 1)) (h : kJ X (pc + 1) L (ki (kcmp a b) :: st) σ F Θ) : kJ X pc L (kl b :: kl a :: st) σ (kCk6 a b F) Θ := by
  obtain ⟨⟨p, l, e, R⟩, ⟨s, m, args, below⟩, ⟨meth, c⟩, ⟨D, K, α, A⟩, ⟨Q, cells, slots, nL⟩⟩ := X
  obtain ⟨hx, hb, hml, hnl, hown, hts, hR, hK, hA, hAc, hinj, hE⟩ := hX
  intro z hF hz H locs ls hP hS hL
  unfold kCk6 at hF
  split at hF
  · rename_i hc
    have e9 : lg_cmp (c64 a) (c64 b) = c32 (kcmp a b) := by
      unfold lg_cmp kcmp
      simp only [GT.gt, c64_lt hc.2 hc.1, c64_eq hc.1 hc.2]
      split
      · decide
      · split <;> decide
    refine W.lcmp hx hb hd ?_
    rw [e9]
    exact h z hF hz H locs ls hP hS hL
  · cases hF
theorem k_idiv (hX : kOk X d cc n own) {a b : Int} {G : Int → Option Z} (hd : decode cc pc = .ok (.idiv, 1)) (h : ∀ r, kJ X (pc + 1) L (ki r :: st) σ (G r) Θ) : kJ X pc L (ki b :: ki a :: st) σ (kDv a b G) Θ := by
  obtain ⟨⟨p, l, e, R⟩, ⟨s, m, args, below⟩, ⟨meth, c⟩, ⟨D, K, α, A⟩, ⟨Q, cells, slots, nL⟩⟩ := X
  obtain ⟨hx, hb, hml, hnl, hown, hts, hR, hK, hA, hAc, hinj, hE⟩ := hX
  intro z hF hz H locs ls hP hS hL
  unfold kDv at hF
  split at hF
  · rename_i hc
    refine lv_idiv hx hb hd (c32_ne0 hc.2.1 hc.2.2) ?_
    rw [← c32_div hc.1 hc.2.1]
    exact h _ z hF hz H locs ls hP hS hL
  · cases hF
theorem k_irem (hX : kOk X d cc n own) {a b : Int} {G : Int → Option Z} (hd : decode cc pc = .ok (.irem, 1)) (h : ∀ r, kJ X (pc + 1) L (ki r :: st) σ (G r) Θ) : kJ X pc L (ki b :: ki a :: st) σ (kRm a b G) Θ := by
  obtain ⟨⟨p, l, e, R⟩, ⟨s, m, args, below⟩, ⟨meth, c⟩, ⟨D, K, α, A⟩, ⟨Q, cells, slots, nL⟩⟩ := X
  obtain ⟨hx, hb, hml, hnl, hown, hts, hR, hK, hA, hAc, hinj, hE⟩ := hX
  intro z hF hz H locs ls hP hS hL
  unfold kRm at hF
  split at hF
  · rename_i hc
    refine lv_irem hx hb hd (c32_ne0 hc.2.1 hc.2.2) ?_
    rw [← c32_rem hc.1 hc.2.1]
    exact h _ z hF hz H locs ls hP hS hL
  · cases hF
theorem k_ldiv (hX : kOk X d cc n own) {a b : Int} {G : Int → Option Z} (hd : decode cc pc = .ok (.ldiv, 1)) (h : ∀ r, kJ X (pc + 1) L (kl r :: st) σ (G r) Θ) : kJ X pc L (kl b :: kl a :: st) σ (kDv6 a b G) Θ := by
  obtain ⟨⟨p, l, e, R⟩, ⟨s, m, args, below⟩, ⟨meth, c⟩, ⟨D, K, α, A⟩, ⟨Q, cells, slots, nL⟩⟩ := X
  obtain ⟨hx, hb, hml, hnl, hown, hts, hR, hK, hA, hAc, hinj, hE⟩ := hX
  intro z hF hz H locs ls hP hS hL
  unfold kDv6 at hF
  split at hF
  · rename_i hc
    have hb0 : ¬ c64 b = 0 := by
      rw [show (0 : Int64) = c64 0 by decide, c64_eq hc.2.1 (by decide)]
      exact hc.2.2
    refine lv_ldiv hx hb hd hb0 ?_
    rw [← c64_div hc.1 hc.2.1]
    exact h _ z hF hz H locs ls hP hS hL
  · cases hF
theorem k_icmp_lt (hX : kOk X d cc n own) {a b : Int} {T E : Option Z} {off : Int} {tgt : Nat} (hd : decode cc pc = .ok (.if_icmp .lt off, 3)) (ht : (pc : Int) + off = (tgt : Int)) (h1 : kJ X tgt L st σ T Θ) (h2 : kJ X (pc + 3) L st σ E Θ) : kJ X pc L (ki b :: ki a :: st) σ (kLt a b T E) Θ := by
  obtain ⟨⟨p, l, e, R⟩, ⟨s, m, args, below⟩, ⟨meth, c⟩, ⟨D, K, α, A⟩, ⟨Q, cells, slots, nL⟩⟩ := X
  obtain ⟨hx, hb, hml, hnl, hown, hts, hR, hK, hA, hAc, hinj, hE⟩ := hX
  intro z hF hz H locs ls hP hS hL
  unfold kLt at hF
  split at hF
  · rename_i hc
    split at hF
    · rename_i hp
      have q9 := (c32_lt hc.1 hc.2).mpr hp
      exact lv_icmp_lt hx hb hd ht (fun _ => (h1 z hF hz H locs ls hP hS hL)) (fun q => absurd q9 q)
    · rename_i hp
      have q9 := fun q => hp ((c32_lt hc.1 hc.2).mp q)
      exact lv_icmp_lt hx hb hd ht (fun q => absurd q q9) (fun _ => (h2 z hF hz H locs ls hP hS hL))
  · cases hF
theorem k_if_lt (hX : kOk X d cc n own) {a : Int} {T E : Option Z} {off : Int} {tgt : Nat} (hd : decode cc pc = .ok (.ifCond .lt off, 3)) (ht : (pc : Int) + off = (tgt : Int)) (h1 : kJ X tgt L st σ T Θ) (h2 : kJ X (pc + 3) L st σ E Θ) : kJ X pc L (ki a :: st) σ (kLt a 0 T E) Θ := by
  obtain ⟨⟨p, l, e, R⟩, ⟨s, m, args, below⟩, ⟨meth, c⟩, ⟨D, K, α, A⟩, ⟨Q, cells, slots, nL⟩⟩ := X
  obtain ⟨hx, hb, hml, hnl, hown, hts, hR, hK, hA, hAc, hinj, hE⟩ := hX
  intro z hF hz H locs ls hP hS hL
  unfold kLt at hF
  split at hF
  · rename_i hc
    have hz0 : kin 0 := by decide
    have e9 : (0 : Int32) = c32 0 := c32_0.symm
    split at hF
    · rename_i hp
      have q9 := (c32_lt hc.1 hc.2).mpr hp
      rw [c32_0] at q9
      exact lv_if_lt hx hb hd ht (fun _ => (h1 z hF hz H locs ls hP hS hL)) (fun q => absurd q9 q)
    · rename_i hp
      have q9 := fun q => hp ((c32_lt hc.1 hc.2).mp q)
      rw [c32_0] at q9
      exact lv_if_lt hx hb hd ht (fun q => absurd q q9) (fun _ => (h2 z hF hz H locs ls hP hS hL))
  · cases hF
theorem k_icmp_ge (hX : kOk X d cc n own) {a b : Int} {T E : Option Z} {off : Int} {tgt : Nat} (hd : decode cc pc = .ok (.if_icmp .ge off, 3)) (ht : (pc : Int) + off = (tgt : Int)) (h1 : kJ X tgt L st σ T Θ) (h2 : kJ X (pc + 3) L st σ E Θ) : kJ X pc L (ki b :: ki a :: st) σ (kLt a b E T) Θ := by
  obtain ⟨⟨p, l, e, R⟩, ⟨s, m, args, below⟩, ⟨meth, c⟩, ⟨D, K, α, A⟩, ⟨Q, cells, slots, nL⟩⟩ := X
  obtain ⟨hx, hb, hml, hnl, hown, hts, hR, hK, hA, hAc, hinj, hE⟩ := hX
  intro z hF hz H locs ls hP hS hL
  unfold kLt at hF
  split at hF
  · rename_i hc
    split at hF
    · rename_i hp
      have q9 := (c32_lt hc.1 hc.2).mpr hp
      exact lv_icmp_ge hx hb hd ht (fun q => absurd q9 (Int32.not_lt.mpr q)) (fun _ => (h2 z hF hz H locs ls hP hS hL))
    · rename_i hp
      have q9 := Int32.not_lt.mp (fun q => hp ((c32_lt hc.1 hc.2).mp q))
      exact lv_icmp_ge hx hb hd ht (fun _ => (h1 z hF hz H locs ls hP hS hL)) (fun q => absurd q9 q)
  · cases hF
theorem k_if_ge (hX : kOk X d cc n own) {a : Int} {T E : Option Z} {off : Int} {tgt : Nat} (hd : decode cc pc = .ok (.ifCond .ge off, 3)) (ht : (pc : Int) + off = (tgt : Int)) (h1 : kJ X tgt L st σ T Θ) (h2 : kJ X (pc + 3) L st σ E Θ) : kJ X pc L (ki a :: st) σ (kLt a 0 E T) Θ := by
  obtain ⟨⟨p, l, e, R⟩, ⟨s, m, args, below⟩, ⟨meth, c⟩, ⟨D, K, α, A⟩, ⟨Q, cells, slots, nL⟩⟩ := X
  obtain ⟨hx, hb, hml, hnl, hown, hts, hR, hK, hA, hAc, hinj, hE⟩ := hX
  intro z hF hz H locs ls hP hS hL
  unfold kLt at hF
  split at hF
  · rename_i hc
    have hz0 : kin 0 := by decide
    have e9 : (0 : Int32) = c32 0 := c32_0.symm
    split at hF
    · rename_i hp
      have q9 := (c32_lt hc.1 hc.2).mpr hp
      rw [c32_0] at q9
      exact lv_if_ge hx hb hd ht (fun q => absurd q9 (Int32.not_lt.mpr q)) (fun _ => (h2 z hF hz H locs ls hP hS hL))
    · rename_i hp
      have q9 := Int32.not_lt.mp (fun q => hp ((c32_lt hc.1 hc.2).mp q))
      rw [c32_0] at q9
      exact lv_if_ge hx hb hd ht (fun _ => (h1 z hF hz H locs ls hP hS hL)) (fun q => absurd q9 q)
  · cases hF
theorem k_icmp_gt (hX : kOk X d cc n own) {a b : Int} {T E : Option Z} {off : Int} {tgt : Nat} (hd : decode cc pc = .ok (.if_icmp .gt off, 3)) (ht : (pc : Int) + off = (tgt : Int)) (h1 : kJ X tgt L st σ T Θ) (h2 : kJ X (pc + 3) L st σ E Θ) : kJ X pc L (ki b :: ki a :: st) σ (kLt b a T E) Θ := by
  obtain ⟨⟨p, l, e, R⟩, ⟨s, m, args, below⟩, ⟨meth, c⟩, ⟨D, K, α, A⟩, ⟨Q, cells, slots, nL⟩⟩ := X
  obtain ⟨hx, hb, hml, hnl, hown, hts, hR, hK, hA, hAc, hinj, hE⟩ := hX
  intro z hF hz H locs ls hP hS hL
  unfold kLt at hF
  split at hF
  · rename_i hc
    split at hF
    · rename_i hp
      have q9 := (c32_lt hc.1 hc.2).mpr hp
      exact lv_icmp_gt hx hb hd ht (fun _ => (h1 z hF hz H locs ls hP hS hL)) (fun q => absurd q9 q)
    · rename_i hp
      have q9 := fun q => hp ((c32_lt hc.1 hc.2).mp q)
      exact lv_icmp_gt hx hb hd ht (fun q => absurd q q9) (fun _ => (h2 z hF hz H locs ls hP hS hL))
  · cases hF
theorem k_if_gt (hX : kOk X d cc n own) {a : Int} {T E : Option Z} {off : Int} {tgt : Nat} (hd : decode cc pc = .ok (.ifCond .gt off, 3)) (ht : (pc : Int) + off = (tgt : Int)) (h1 : kJ X tgt L st σ T Θ) (h2 : kJ X (pc + 3) L st σ E Θ) : kJ X pc L (ki a :: st) σ (kLt 0 a T E) Θ := by
  obtain ⟨⟨p, l, e, R⟩, ⟨s, m, args, below⟩, ⟨meth, c⟩, ⟨D, K, α, A⟩, ⟨Q, cells, slots, nL⟩⟩ := X
  obtain ⟨hx, hb, hml, hnl, hown, hts, hR, hK, hA, hAc, hinj, hE⟩ := hX
  intro z hF hz H locs ls hP hS hL
  unfold kLt at hF
  split at hF
  · rename_i hc
    have hz0 : kin 0 := by decide
    have e9 : (0 : Int32) = c32 0 := c32_0.symm
    split at hF
    · rename_i hp
      have q9 := (c32_lt hc.1 hc.2).mpr hp
      rw [c32_0] at q9
      exact lv_if_gt hx hb hd ht (fun _ => (h1 z hF hz H locs ls hP hS hL)) (fun q => absurd q9 q)
    · rename_i hp
      have q9 := fun q => hp ((c32_lt hc.1 hc.2).mp q)
      rw [c32_0] at q9
      exact lv_if_gt hx hb hd ht (fun q => absurd q q9) (fun _ => (h2 z hF hz H locs ls hP hS hL))
  · cases hF
theorem k_icmp_le (hX : kOk X d cc n own) {a b : Int} {T E : Option Z} {off : Int} {tgt : Nat} (hd : decode cc pc = .ok (.if_icmp .le off, 3)) (ht : (pc : Int) + off = (tgt : Int)) (h1 : kJ X tgt L st σ T Θ) (h2 : kJ X (pc + 3) L st σ E Θ) : kJ X pc L (ki b :: ki a :: st) σ (kLt b a E T) Θ := by
  obtain ⟨⟨p, l, e, R⟩, ⟨s, m, args, below⟩, ⟨meth, c⟩, ⟨D, K, α, A⟩, ⟨Q, cells, slots, nL⟩⟩ := X
  obtain ⟨hx, hb, hml, hnl, hown, hts, hR, hK, hA, hAc, hinj, hE⟩ := hX
  intro z hF hz H locs ls hP hS hL
  unfold kLt at hF
  split at hF
  · rename_i hc
    split at hF
    · rename_i hp
      have q9 := (c32_lt hc.1 hc.2).mpr hp
      exact lv_icmp_le hx hb hd ht (fun q => absurd q9 (Int32.not_lt.mpr q)) (fun _ => (h2 z hF hz H locs ls hP hS hL))
    · rename_i hp
      have q9 := Int32.not_lt.mp (fun q => hp ((c32_lt hc.1 hc.2).mp q))
      exact lv_icmp_le hx hb hd ht (fun _ => (h1 z hF hz H locs ls hP hS hL)) (fun q => absurd q9 q)
  · cases hF
theorem k_if_le (hX : kOk X d cc n own) {a : Int} {T E : Option Z} {off : Int} {tgt : Nat} (hd : decode cc pc = .ok (.ifCond .le off, 3)) (ht : (pc : Int) + off = (tgt : Int)) (h1 : kJ X tgt L st σ T Θ) (h2 : kJ X (pc + 3) L st σ E Θ) : kJ X pc L (ki a :: st) σ (kLt 0 a E T) Θ := by
  obtain ⟨⟨p, l, e, R⟩, ⟨s, m, args, below⟩, ⟨meth, c⟩, ⟨D, K, α, A⟩, ⟨Q, cells, slots, nL⟩⟩ := X
  obtain ⟨hx, hb, hml, hnl, hown, hts, hR, hK, hA, hAc, hinj, hE⟩ := hX
  intro z hF hz H locs ls hP hS hL
  unfold kLt at hF
  split at hF
  · rename_i hc
    have hz0 : kin 0 := by decide
    have e9 : (0 : Int32) = c32 0 := c32_0.symm
    split at hF
    · rename_i hp
      have q9 := (c32_lt hc.1 hc.2).mpr hp
      rw [c32_0] at q9
      exact lv_if_le hx hb hd ht (fun q => absurd q9 (Int32.not_lt.mpr q)) (fun _ => (h2 z hF hz H locs ls hP hS hL))
    · rename_i hp
      have q9 := Int32.not_lt.mp (fun q => hp ((c32_lt hc.1 hc.2).mp q))
      rw [c32_0] at q9
      exact lv_if_le hx hb hd ht (fun _ => (h1 z hF hz H locs ls hP hS hL)) (fun q => absurd q9 q)
  · cases hF
theorem k_icmp_eq (hX : kOk X d cc n own) {a b : Int} {T E : Option Z} {off : Int} {tgt : Nat} (hd : decode cc pc = .ok (.if_icmp .eq off, 3)) (ht : (pc : Int) + off = (tgt : Int)) (h1 : kJ X tgt L st σ T Θ) (h2 : kJ X (pc + 3) L st σ E Θ) : kJ X pc L (ki b :: ki a :: st) σ (kEq a b T E) Θ := by
  obtain ⟨⟨p, l, e, R⟩, ⟨s, m, args, below⟩, ⟨meth, c⟩, ⟨D, K, α, A⟩, ⟨Q, cells, slots, nL⟩⟩ := X
  obtain ⟨hx, hb, hml, hnl, hown, hts, hR, hK, hA, hAc, hinj, hE⟩ := hX
  intro z hF hz H locs ls hP hS hL
  unfold kEq at hF
  split at hF
  · rename_i hc
    split at hF
    · rename_i hp
      have q9 := (c32_eq hc.1 hc.2).mpr hp
      exact lv_icmp_eq hx hb hd ht (fun _ => (h1 z hF hz H locs ls hP hS hL)) (fun q => absurd q9 q)
    · rename_i hp
      have q9 := fun q => hp ((c32_eq hc.1 hc.2).mp q)
      exact lv_icmp_eq hx hb hd ht (fun q => absurd q q9) (fun _ => (h2 z hF hz H locs ls hP hS hL))
  · cases hF
theorem k_if_eq (hX : kOk X d cc n own) {a : Int} {T E : Option Z} {off : Int} {tgt : Nat} (hd : decode cc pc = .ok (.ifCond .eq off, 3)) (ht : (pc : Int) + off = (tgt : Int)) (h1 : kJ X tgt L st σ T Θ) (h2 : kJ X (pc + 3) L st σ E Θ) : kJ X pc L (ki a :: st) σ (kEq a 0 T E) Θ := by
  obtain ⟨⟨p, l, e, R⟩, ⟨s, m, args, below⟩, ⟨meth, c⟩, ⟨D, K, α, A⟩, ⟨Q, cells, slots, nL⟩⟩ := X
  obtain ⟨hx, hb, hml, hnl, hown, hts, hR, hK, hA, hAc, hinj, hE⟩ := hX
  intro z hF hz H locs ls hP hS hL
  unfold kEq at hF
  split at hF
  · rename_i hc
    have hz0 : kin 0 := by decide
    have e9 : (0 : Int32) = c32 0 := c32_0.symm
    split at hF
    · rename_i hp
      have q9 := (c32_eq hc.1 hc.2).mpr hp
      rw [c32_0] at q9
      exact lv_if_eq hx hb hd ht (fun _ => (h1 z hF hz H locs ls hP hS hL)) (fun q => absurd q9 q)
    · rename_i hp
      have q9 := fun q => hp ((c32_eq hc.1 hc.2).mp q)
      rw [c32_0] at q9
      exact lv_if_eq hx hb hd ht (fun q => absurd q q9) (fun _ => (h2 z hF hz H locs ls hP hS hL))
  · cases hF
theorem k_icmp_ne (hX : kOk X d cc n own) {a b : Int} {T E : Option Z} {off : Int} {tgt : Nat} (hd : decode cc pc = .ok (.if_icmp .ne off, 3)) (ht : (pc : Int) + off = (tgt : Int)) (h1 : kJ X tgt L st σ T Θ) (h2 : kJ X (pc + 3) L st σ E Θ) : kJ X pc L (ki b :: ki a :: st) σ (kEq a b E T) Θ := by
  obtain ⟨⟨p, l, e, R⟩, ⟨s, m, args, below⟩, ⟨meth, c⟩, ⟨D, K, α, A⟩, ⟨Q, cells, slots, nL⟩⟩ := X
  obtain ⟨hx, hb, hml, hnl, hown, hts, hR, hK, hA, hAc, hinj, hE⟩ := hX
  intro z hF hz H locs ls hP hS hL
  unfold kEq at hF
  split at hF
  · rename_i hc
    split at hF
    · rename_i hp
      have q9 := (c32_eq hc.1 hc.2).mpr hp
      exact lv_icmp_ne hx hb hd ht (fun q => absurd q9 q) (fun _ => (h2 z hF hz H locs ls hP hS hL))
    · rename_i hp
      have q9 := fun q => hp ((c32_eq hc.1 hc.2).mp q)
      exact lv_icmp_ne hx hb hd ht (fun _ => (h1 z hF hz H locs ls hP hS hL)) (fun q => absurd q q9)
  · cases hF
theorem k_if_ne (hX : kOk X d cc n own) {a : Int} {T E : Option Z} {off : Int} {tgt : Nat} (hd : decode cc pc = .ok (.ifCond .ne off, 3)) (ht : (pc : Int) + off = (tgt : Int)) (h1 : kJ X tgt L st σ T Θ) (h2 : kJ X (pc + 3) L st σ E Θ) : kJ X pc L (ki a :: st) σ (kEq a 0 E T) Θ := by
  obtain ⟨⟨p, l, e, R⟩, ⟨s, m, args, below⟩, ⟨meth, c⟩, ⟨D, K, α, A⟩, ⟨Q, cells, slots, nL⟩⟩ := X
  obtain ⟨hx, hb, hml, hnl, hown, hts, hR, hK, hA, hAc, hinj, hE⟩ := hX
  intro z hF hz H locs ls hP hS hL
  unfold kEq at hF
  split at hF
  · rename_i hc
    have hz0 : kin 0 := by decide
    have e9 : (0 : Int32) = c32 0 := c32_0.symm
    split at hF
    · rename_i hp
      have q9 := (c32_eq hc.1 hc.2).mpr hp
      rw [c32_0] at q9
      exact lv_if_ne hx hb hd ht (fun q => absurd q9 q) (fun _ => (h2 z hF hz H locs ls hP hS hL))
    · rename_i hp
      have q9 := fun q => hp ((c32_eq hc.1 hc.2).mp q)
      rw [c32_0] at q9
      exact lv_if_ne hx hb hd ht (fun _ => (h1 z hF hz H locs ls hP hS hL)) (fun q => absurd q q9)
  · cases hF
theorem k_goto (hX : kOk X d cc n own) {off : Int} {tgt : Nat} (hd : decode cc pc = .ok (.goto off, 3)) (ht : (pc : Int) + off = (tgt : Int)) (h : kJ X tgt L st σ F Θ) : kJ X pc L st σ F Θ := by
  obtain ⟨⟨p, l, e, R⟩, ⟨s, m, args, below⟩, ⟨meth, c⟩, ⟨D, K, α, A⟩, ⟨Q, cells, slots, nL⟩⟩ := X
  obtain ⟨hx, hb, hml, hnl, hown, hts, hR, hK, hA, hAc, hinj, hE⟩ := hX
  intro z hF hz H locs ls hP hS hL
  exact lv_goto hx hb hd ht (h z hF hz H locs ls hP hS hL)
end KR
