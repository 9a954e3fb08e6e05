/-! ===== bits ===== -/
theorem c32_nat (a : Int) : (c32 a).toBitVec.toNat = (a % 4294967296).toNat := by
  show (BitVec.ofInt 32 a).toNat = _
  rw [BitVec.toNat_ofInt]
  rfl
theorem c32_bv {x y : Int32} (h : x.toBitVec.toNat = y.toBitVec.toNat) : x = y := Int32.toBitVec_inj.mp (BitVec.eq_of_toNat_eq h)
theorem c32_and {a b : Int} (h : b = 255 ∨ b = 63 ∨ b = 1) : c32 a &&& c32 b = c32 (a % (b + 1)) := by
  refine c32_bv ?_
  rw [c32_nat, Int32.toBitVec_and, BitVec.toNat_and, c32_nat]
  rcases h with rfl | rfl | rfl
  · rw [show (c32 255).toBitVec.toNat = 2 ^ 8 - 1 by decide, Nat.and_two_pow_sub_one_eq_mod]
    omega
  · rw [show (c32 63).toBitVec.toNat = 2 ^ 6 - 1 by decide, Nat.and_two_pow_sub_one_eq_mod]
    omega
  · rw [show (c32 1).toBitVec.toNat = 2 ^ 1 - 1 by decide, Nat.and_two_pow_sub_one_eq_mod]
    omega
theorem c32_shr {a b : Int} (ha : kin a) (h0 : 0 ≤ b) (h1 : b < 32) : c32 a >>> (c32 b &&& 31) = c32 (a / 2 ^ b.toNat) := by
  have h9 : ∀ k : Fin 32, ((c32 (k.val : Int) &&& 31).toBitVec.smod 32).toNat = k.val := by decide +kernel
  have h8 := h9 ⟨b.toNat, by omega⟩
  rw [show (((⟨b.toNat, by omega⟩ : Fin 32).val : Nat) : Int) = b by show (b.toNat : Int) = b; omega] at h8
  have hp : (0 : Int) < 2 ^ b.toNat := Int.pow_pos (by decide)
  have hd : kin (a / 2 ^ b.toNat) := by
    have e1 : (1 : Int) ≤ 2 ^ b.toNat := hp
    constructor
    · have h2 := ha.1
      rw [Int.le_ediv_iff_mul_le hp]
      have : (-2147483648 : Int) * 2 ^ b.toNat ≤ -2147483648 * 1 := Int.mul_le_mul_of_nonpos_left (by decide) e1
      omega
    · have h2 := ha.2
      rw [Int.ediv_lt_iff_lt_mul hp]
      have : (2147483648 : Int) * 1 ≤ 2147483648 * 2 ^ b.toNat := Int.mul_le_mul_of_nonneg_left e1 (by decide)
      omega
  refine Int32.toInt_inj.mp ?_
  rw [c32_toInt hd]
  show (BitVec.sshiftRight (c32 a).toBitVec ((c32 b &&& 31).toBitVec.smod 32).toNat).toInt = _
  rw [h8, BitVec.toInt_sshiftRight]
  show (c32 a).toInt >>> b.toNat = _
  rw [c32_toInt ha, Int.shiftRight_eq_div_pow]
  norm_cast
theorem c32_ush {a b : Int} (h0 : 0 ≤ b) (h1 : b < 32) : ((c32 a).toUInt32 >>> ((c32 b).toUInt32 &&& Int32.toUInt32 31)).toInt32 = c32 ((a % 4294967296) / 2 ^ b.toNat) := by
  have h9 : ∀ k : Fin 32, (((c32 (k.val : Int)).toUInt32 &&& Int32.toUInt32 31).toBitVec % 32).toNat = k.val := by decide +kernel
  have h8 := h9 ⟨b.toNat, by omega⟩
  rw [show (((⟨b.toNat, by omega⟩ : Fin 32).val : Nat) : Int) = b by show (b.toNat : Int) = b; omega] at h8
  refine c32_bv ?_
  rw [c32_nat]
  show ((c32 a).toUInt32 >>> ((c32 b).toUInt32 &&& Int32.toUInt32 31)).toBitVec.toNat = _
  rw [UInt32.toBitVec_shiftRight, BitVec.ushiftRight_eq', h8, BitVec.toNat_ushiftRight]
  show (c32 a).toBitVec.toNat >>> b.toNat = _
  rw [c32_nat, Nat.shiftRight_eq_div_pow]
  have hp : (0 : Int) < 2 ^ b.toNat := Int.pow_pos (by decide)
  have e1 : (1 : Int) ≤ 2 ^ b.toNat := hp
  have h2 : 0 ≤ a % 4294967296 := Int.emod_nonneg _ (by decide)
  have h3 : a % 4294967296 < 4294967296 := Int.emod_lt_of_pos _ (by decide)
  generalize a % 4294967296 = x at h2 h3
  obtain ⟨y, rfl⟩ := Int.eq_ofNat_of_zero_le h2
  rw [Int.emod_eq_of_lt (Int.ediv_nonneg h2 (by omega))]
  · have e7 : ((y : Int) / 2 ^ b.toNat) = ((y / 2 ^ b.toNat : Nat) : Int) := by
      rw [Int.natCast_ediv, Int.natCast_pow]
      rfl
    rw [e7, Int.toNat_natCast, Int.toNat_natCast]
  · rw [Int.ediv_lt_iff_lt_mul hp]
    have : (4294967296 : Int) * 1 ≤ 4294967296 * 2 ^ b.toNat := Int.mul_le_mul_of_nonneg_left e1 (by decide)
    omega
theorem c32_i2b (a : Int) : (c32 a).toInt8.toInt32 = c32 (kI2b a) := by
  refine Int32.toInt_inj.mp ?_
  have hk : kin (kI2b a) := by unfold kI2b kin; omega
  rw [Int8.toInt_toInt32, Int32.toInt_toInt8, c32_toInt hk]
  show ((c32 a).toInt).bmod 256 = _
  rw [show (c32 a).toInt = a.bmod 4294967296 from Int32.toInt_ofInt, Int.bmod_def, Int.bmod_def]
  unfold kI2b
  split <;> split <;> omega
section KB
variable {X : KC} {d n : Nat} {cc : ByteArray} {own : String} {pc : Nat} {L : List (Option KV)} {st : List KV} {σ : KM} {Z : Type} {F : Option Z} {Θ : Z → Prop}
theorem k_i2b (hX : kOk X d cc n own) {a : Int} (hd : decode cc pc = .ok (.i2b, 1)) (h : kJ X (pc + 1) L (ki (kI2b a) :: st) σ F Θ) : kJ X pc L (ki a :: st) σ F Θ := by
  obtain ⟨⟨p, l, e, R⟩, ⟨s, m, args, below⟩, ⟨meth, cd⟩, ⟨D, K, α, A⟩, ⟨Q, cells, slots, nL⟩⟩ := X
  obtain ⟨hx, hb, hml, hnl, hown, hts, hR, hK, hA, hAc, hinj, hE⟩ := hX
  intro z hF hz H locs ls hP hS hL
  exact lv_i2b hx hb hd (c32_i2b a) (h z hF hz H locs ls hP hS hL)
theorem k_iand (hX : kOk X d cc n own) {a b : Int} {G : Int → Option Z} (hd : decode cc pc = .ok (.iand, 1)) (h : ∀ r, kJ X (pc + 1) L (ki r :: st) σ (G r) Θ) : kJ X pc L (ki b :: ki a :: st) σ (kAnd a b G) Θ := by
  obtain ⟨⟨p, l, e, R⟩, ⟨s, m, args, below⟩, ⟨meth, cd⟩, ⟨D, K, α, A⟩, ⟨Q, cells, slots, nL⟩⟩ := X
  obtain ⟨hx, hb, hml, hnl, hown, hts, hR, hK, hA, hAc, hinj, hE⟩ := hX
  intro z hF hz H locs ls hP hS hL
  unfold kAnd at hF
  split at hF
  · rename_i hc
    refine lv_iand hx hb hd ?_
    rw [c32_and hc]
    exact h _ z hF hz H locs ls hP hS hL
  · cases hF
theorem k_ishr (hX : kOk X d cc n own) {a b : Int} {G : Int → Option Z} (hd : decode cc pc = .ok (.ishr, 1)) (h : ∀ r, kJ X (pc + 1) L (ki r :: st) σ (G r) Θ) : kJ X pc L (ki b :: ki a :: st) σ (kShr a b G) Θ := by
  obtain ⟨⟨p, l, e, R⟩, ⟨s, m, args, below⟩, ⟨meth, cd⟩, ⟨D, K, α, A⟩, ⟨Q, cells, slots, nL⟩⟩ := X
  obtain ⟨hx, hb, hml, hnl, hown, hts, hR, hK, hA, hAc, hinj, hE⟩ := hX
  intro z hF hz H locs ls hP hS hL
  unfold kShr at hF
  split at hF
  · rename_i hc
    refine lv_ishr hx hb hd ?_
    rw [c32_shr hc.1 hc.2.1 hc.2.2]
    exact h _ z hF hz H locs ls hP hS hL
  · cases hF
theorem k_iushr (hX : kOk X d cc n own) {a b : Int} {G : Int → Option Z} (hd : decode cc pc = .ok (.iushr, 1)) (h : ∀ r, kJ X (pc + 1) L (ki r :: st) σ (G r) Θ) : kJ X pc L (ki b :: ki a :: st) σ (kUsh a b G) Θ := by
  obtain ⟨⟨p, l, e, R⟩, ⟨s, m, args, below⟩, ⟨meth, cd⟩, ⟨D, K, α, A⟩, ⟨Q, cells, slots, nL⟩⟩ := X
  obtain ⟨hx, hb, hml, hnl, hown, hts, hR, hK, hA, hAc, hinj, hE⟩ := hX
  intro z hF hz H locs ls hP hS hL
  unfold kUsh at hF
  split at hF
  · rename_i hc
    refine lv_iushr hx hb hd (c32_ush hc.1 hc.2) ?_
    exact h _ z hF hz H locs ls hP hS hL
  · cases hF
end KB
