/-! ===== numbers ===== -/
abbrev KM : Type := Nat → Int → Int
abbrev KV : Type := Int ⊕ (Int ⊕ Nat)
abbrev ki (v : Int) : KV := Sum.inl v
abbrev kl (v : Int) : KV := Sum.inr (Sum.inl v)
abbrev kr (c : Nat) : KV := Sum.inr (Sum.inr c)
abbrev li (v : Int) : Option KV := some (ki v)
abbrev lq (c : Nat) : Option KV := some (kr c)
def c32 (v : Int) : Int32 := Int32.ofInt v
def c64 (v : Int) : Int64 := Int64.ofInt v
def k_tr (α : Nat → Nat) : KV → Value
  | .inl v => .int (c32 v)
  | .inr (.inl v) => .long (c64 v)
  | .inr (.inr c) => .ref (α c)
abbrev kin (v : Int) : Prop := -2147483648 ≤ v ∧ v < 2147483648
abbrev kin6 (v : Int) : Prop := -9223372036854775808 ≤ v ∧ v < 9223372036854775808
theorem c32_toInt {a : Int} (h : kin a) : (c32 a).toInt = a := Int32.toInt_ofInt_of_le (by have := h.1; omega) (by have := h.2; omega)
theorem c64_toInt {a : Int} (h : kin6 a) : (c64 a).toInt = a := Int64.toInt_ofInt_of_le (by have := h.1; omega) (by have := h.2; omega)
theorem c32_of (x : Int32) : c32 x.toInt = x := Int32.ofInt_toInt x
theorem c32_add (a b : Int) : c32 (a + b) = c32 a + c32 b := Int32.ofInt_add a b
theorem c32_sub (a b : Int) : c32 (a - b) = c32 a - c32 b := Int32.ofInt_sub a b
theorem c32_mul (a b : Int) : c32 (a * b) = c32 a * c32 b := Int32.ofInt_mul a b
theorem c32_neg (a : Int) : c32 (-a) = -c32 a := Int32.ofInt_neg a
theorem c64_mul (a b : Int) : c64 (a * b) = c64 a * c64 b := Int64.ofInt_mul a b
theorem c32_min : Int32.minValue.toInt = -2147483648 := by decide
theorem c32_max : Int32.maxValue.toInt = 2147483647 := by decide
theorem c64_min : Int64.minValue.toInt = -9223372036854775808 := by decide
theorem c64_max : Int64.maxValue.toInt = 9223372036854775807 := by decide
theorem c32_lt {a b : Int} (ha : kin a) (hb : kin b) : c32 a < c32 b ↔ a < b := by
  rw [Int32.lt_iff_toInt_lt, c32_toInt ha, c32_toInt hb]
theorem c32_eq {a b : Int} (ha : kin a) (hb : kin b) : c32 a = c32 b ↔ a = b := by
  rw [← Int32.toInt_inj, c32_toInt ha, c32_toInt hb]
theorem c64_lt {a b : Int} (ha : kin6 a) (hb : kin6 b) : c64 a < c64 b ↔ a < b := by
  rw [Int64.lt_iff_toInt_lt, c64_toInt ha, c64_toInt hb]
theorem c64_eq {a b : Int} (ha : kin6 a) (hb : kin6 b) : c64 a = c64 b ↔ a = b := by
  rw [← Int64.toInt_inj, c64_toInt ha, c64_toInt hb]
theorem c32_0 : c32 0 = 0 := by decide
theorem c32_div {a b : Int} (ha : kin a) (hb : kin b) : c32 (a.tdiv b) = c32 a / c32 b :=
  Int32.ofInt_tdiv (by rw [c32_min]; exact ha.1) (by rw [c32_max]; have := ha.2; omega) (by rw [c32_min]; exact hb.1) (by rw [c32_max]; have := hb.2; omega)
theorem c64_div {a b : Int} (ha : kin6 a) (hb : kin6 b) : c64 (a.tdiv b) = c64 a / c64 b :=
  Int64.ofInt_tdiv (by rw [c64_min]; exact ha.1) (by rw [c64_max]; have := ha.2; omega) (by rw [c64_min]; exact hb.1) (by rw [c64_max]; have := hb.2; omega)
theorem c32_rem {a b : Int} (ha : kin a) (hb : kin b) : c32 (a.tmod b) = c32 a - c32 a / c32 b * c32 b := by
  rw [← c32_div ha hb, ← c32_mul, ← c32_sub]
  congr 1
  have := Int.tmod_def a b
  rw [this, Int.mul_comm]
theorem c32_ne0 {b : Int} (hb : kin b) (h : b ≠ 0) : ¬ c32 b = 0 := by
  rw [← c32_0, c32_eq hb (by decide)]
  exact h
theorem c32_clamp {a : Int} (h0 : 0 ≤ a) (h : a < 2147483648) : (c32 a).toNatClampNeg = a.toNat := by
  show (c32 a).toInt.toNat = a.toNat
  rw [c32_toInt ⟨by omega, h⟩]
theorem c32_in {a : Int} {N : Nat} (h0 : 0 ≤ a) (h : a < (N : Int)) (hN : N < 2147483648) : vp_in (c32 a) N := by
  rw [vp_in_iff, c32_toInt ⟨by omega, by omega⟩]
  exact ⟨h0, h⟩
theorem c32_l {a : Int} (h : kin a) : (c32 a).toInt64 = c64 a :=
  Int64.toInt_inj.mp (by rw [Int32.toInt_toInt64, c32_toInt h, c64_toInt ⟨by have := h.1; omega, by have := h.2; omega⟩])
theorem c64_i (a : Int) : (c64 a).toInt32 = c32 a := Int64.toInt32_ofInt
/-! ===== memory, the cells as a world ===== -/
def ks (σ : KM) (c : Nat) (i v : Int) : KM := fun c' i' => if c' = c ∧ i' = i then v else σ c' i'
theorem ks_ne {σ : KM} {c : Nat} {i v : Int} {c' : Nat} (h : c' ≠ c) : ks σ c i v c' = σ c' := by
  funext j
  simp [ks, h]
def k_fl (α : Nat → Nat) (f : Nat → Int) : Nat → List (Option Nat) → List Value
  | _, [] => []
  | k, some d :: r => .ref (α d) :: k_fl α f (k + 1) r
  | k, none :: r => .int (c32 (f k)) :: k_fl α f (k + 1) r
theorem k_fl_len (α : Nat → Nat) (f : Nat → Int) : ∀ (fs : List (Option Nat)) (s : Nat), (k_fl α f s fs).length = fs.length
  | [], s => rfl
  | some d :: r, s => by simp [k_fl, k_fl_len α f r]
  | none :: r, s => by simp [k_fl, k_fl_len α f r]
theorem k_fl_i (α : Nat → Nat) (f : Nat → Int) : ∀ (fs : List (Option Nat)) (s k : Nat), fs[k]? = some none → (k_fl α f s fs)[k]? = some (.int (c32 (f (s + k))))
  | [], s, k, h => by simp at h
  | some d :: r, s, 0, h => by simp at h
  | none :: r, s, 0, h => by simp [k_fl]
  | some d :: r, s, k + 1, h => by
    have := k_fl_i α f r (s + 1) k (by simpa using h)
    simp only [k_fl, List.getElem?_cons_succ, this]
    rw [show s + 1 + k = s + (k + 1) by omega]
  | none :: r, s, k + 1, h => by
    have := k_fl_i α f r (s + 1) k (by simpa using h)
    simp only [k_fl, List.getElem?_cons_succ, this]
    rw [show s + 1 + k = s + (k + 1) by omega]
theorem k_fl_r (α : Nat → Nat) (f : Nat → Int) : ∀ (fs : List (Option Nat)) (s k d : Nat), fs[k]? = some (some d) → (k_fl α f s fs)[k]? = some (.ref (α d))
  | [], s, k, d, h => by simp at h
  | some d' :: r, s, 0, d, h => by
    simp at h
    simp [k_fl, h]
  | none :: r, s, 0, d, h => by simp at h
  | some d' :: r, s, k + 1, d, h => by
    have := k_fl_r α f r (s + 1) k d (by simpa using h)
    simp only [k_fl, List.getElem?_cons_succ, this]
  | none :: r, s, k + 1, d, h => by
    have := k_fl_r α f r (s + 1) k d (by simpa using h)
    simp only [k_fl, List.getElem?_cons_succ, this]
theorem k_fl_ext (α : Nat → Nat) (f g : Nat → Int) : ∀ (fs : List (Option Nat)) (s : Nat), (∀ j, s ≤ j → f j = g j) → k_fl α f s fs = k_fl α g s fs
  | [], s, h => rfl
  | some d :: r, s, h => by simp [k_fl, k_fl_ext α f g r (s + 1) (fun j hj => h j (by omega))]
  | none :: r, s, h => by simp [k_fl, k_fl_ext α f g r (s + 1) (fun j hj => h j (by omega)), h s (Nat.le_refl s)]
theorem k_fl_set (α : Nat → Nat) (f : Nat → Int) (v : Int) : ∀ (fs : List (Option Nat)) (s k : Nat), fs[k]? = some none → (k_fl α f s fs).set k (.int (c32 v)) = k_fl α (fun j => if j = s + k then v else f j) s fs
  | [], s, k, h => by simp at h
  | some d :: r, s, 0, h => by simp at h
  | none :: r, s, 0, h => by
    simp only [k_fl, List.set_cons_zero, Nat.add_zero, if_true]
    rw [k_fl_ext α f (fun j => if j = s then v else f j) r (s + 1) (fun j hj => by rw [if_neg (by omega)])]
  | some d :: r, s, k + 1, h => by
    have := k_fl_set α f v r (s + 1) k (by simpa using h)
    simp only [k_fl, List.set_cons_succ, this]
    rw [show s + 1 + k = s + (k + 1) by omega]
  | none :: r, s, k + 1, h => by
    have := k_fl_set α f v r (s + 1) k (by simpa using h)
    simp only [k_fl, List.set_cons_succ, this]
    rw [show s + 1 + k = s + (k + 1) by omega, if_neg (by omega)]
def k_ent (α : Nat → Nat) (K : Nat → ClassId) (σ : KM) (c : Nat) : va_E := if k_ty c = 0 then .inr (k_ci c, k_fl α (fun k => σ c (k : Int)) 0 (k_fs c)) else .inl (K (k_ty c), k_ln c, .inl (fun j => c32 (σ c (j : Int))))
def k_wd (α : Nat → Nat) (K : Nat → ClassId) (σ : KM) : va_W := (List.range k_NC).map (fun c => (α c, k_ent α K σ c))
theorem k_at {α : Nat → Nat} {K : Nat → ClassId} {σ : KM} {c : Nat} (h : c < k_NC) : (k_wd α K σ)[c]? = some (α c, k_ent α K σ c) := by
  simp [k_wd, List.getElem?_map, List.getElem?_range h]
theorem k_ao {α : Nat → Nat} {K : Nat → ClassId} {σ : KM} {c : Nat} (h : c < k_NC) (h0 : k_ty c = 0) : (k_wd α K σ)[c]? = some (α c, .inr (k_ci c, k_fl α (fun k => σ c (k : Int)) 0 (k_fs c))) := by
  rw [k_at h]
  simp [k_ent, h0]
theorem k_aa {α : Nat → Nat} {K : Nat → ClassId} {σ : KM} {c : Nat} (h : c < k_NC) (h0 : k_ty c ≠ 0) : (k_wd α K σ)[c]? = some (α c, .inl (K (k_ty c), k_ln c, .inl (fun j => c32 (σ c (j : Int))))) := by
  rw [k_at h]
  simp [k_ent, h0]
theorem k_wd_len (α : Nat → Nat) (K : Nat → ClassId) (σ : KM) : (k_wd α K σ).length = k_NC := by simp [k_wd]
theorem k_wd_set {α : Nat → Nat} {K : Nat → ClassId} {σ τ : KM} {c : Nat} {e : va_E} (h : c < k_NC) (he : e = k_ent α K τ c) (hn : ∀ c', c' ≠ c → τ c' = σ c') : (k_wd α K σ).set c (α c, e) = k_wd α K τ := by
  apply List.ext_getElem?
  intro j
  by_cases hj : j = c
  · subst hj
    rw [List.getElem?_set_self (by rw [k_wd_len]; exact h), k_at h, he]
  · rw [List.getElem?_set_ne (Ne.symm hj)]
    by_cases hl : j < k_NC
    · rw [k_at hl, k_at hl]
      simp [k_ent, hn j hj]
    · rw [List.getElem?_eq_none (by rw [k_wd_len]; omega), List.getElem?_eq_none (by rw [k_wd_len]; omega)]
theorem k_wd_arr {α : Nat → Nat} {K : Nat → ClassId} {σ : KM} {c : Nat} {i v : Int} (h : c < k_NC) (h0 : k_ty c ≠ 0) (hi : 0 ≤ i) : (k_wd α K σ).set c (α c, .inl (K (k_ty c), k_ln c, .inl (upd (fun j => c32 (σ c (j : Int))) i.toNat (c32 v)))) = k_wd α K (ks σ c i v) := by
  refine k_wd_set h ?_ (fun c' hc => ks_ne hc)
  simp only [k_ent, h0, if_false]
  congr 4
  funext j
  by_cases hj : j = i.toNat
  · have e1 : (j : Int) = i := by omega
    simp only [upd, ks, if_pos hj, true_and, if_pos e1]
  · have : ¬ (j : Int) = i := by omega
    simp [upd, ks, hj, this]
theorem k_wd_obj {α : Nat → Nat} {K : Nat → ClassId} {σ : KM} {c k : Nat} {v : Int} (h : c < k_NC) (h0 : k_ty c = 0) (hk : (k_fs c)[k]? = some none) : (k_wd α K σ).set c (α c, .inr (k_ci c, (k_fl α (fun k => σ c (k : Int)) 0 (k_fs c)).set k (.int (c32 v)))) = k_wd α K (ks σ c (k : Int) v) := by
  refine k_wd_set h ?_ (fun c' hc => ks_ne hc)
  simp only [k_ent, h0, if_true]
  rw [k_fl_set α (fun k => σ c (k : Int)) v (k_fs c) 0 k hk]
  congr 3
  funext j
  simp only [ks, true_and, Nat.zero_add]
  by_cases hj : j = k
  · simp [hj]
  · have : ¬ (j : Int) = (k : Int) := by omega
    simp [hj, this]
def k_inj (α : Nat → Nat) : Prop := ∀ i j, i < k_NC → j < k_NC → α i = α j → i = j
theorem k_wd_D {α : Nat → Nat} {K : Nat → ClassId} {σ : KM} {A : Nat → Prop} (h1 : k_inj α) (h2 : ∀ c, c < k_NC → A (α c)) : va_D A (k_wd α K σ) := by
  have key : ∀ (k : Nat) (q : Nat × va_E), (k_wd α K σ)[k]? = some q → k < k_NC ∧ q.1 = α k := by
    intro k q hk
    have hl : k < k_NC := by
      rw [← k_wd_len α K σ]
      exact (List.getElem?_eq_some_iff.mp hk).1
    rw [k_at hl] at hk
    cases hk
    exact ⟨hl, rfl⟩
  refine ⟨fun i j p q hi hj hpq => ?_, fun k q hk => ?_⟩
  · obtain ⟨a1, a2⟩ := key i p hi
    obtain ⟨b1, b2⟩ := key j q hj
    exact h1 i j a1 b1 (by rw [← a2, ← b2]; exact hpq)
  · obtain ⟨a1, a2⟩ := key k q hk
    rw [a2]
    exact h2 k a1
def k_tys (K : Nat → ClassId) : List (ClassId × FieldType) := [(K 0, .int), (K 1, .int), (K 2, .byte), (K 3, .boolean)]
def k_AA (α : Nat → Nat) (sz : Nat) : Nat → Prop := fun q => (∃ c, c < k_NC ∧ q = α c) ∨ sz ≤ q
/-! ===== what stays as it was at the start: words of nest mates, static rows, texts ===== -/
def k_sn (i : Nat) : String := match i with
  | 0 => "DEGREE_STEPS"
  | 1 => "DEGREE_KINDS"
  | 2 => "THIRDS"
  | 3 => "FIFTHS"
  | 4 => "LETTER_TONES"
  | _ => "FIRST_WEIGHTS"
def k_sl (i : Nat) : Nat := match i with
  | 0 => 14
  | 1 => 14
  | 2 => 3
  | 3 => 3
  | 4 => 7
  | _ => 24
def k_sv (i : Nat) : Nat → Int := match i with
  | 0 => k_s0
  | 1 => k_s1
  | 2 => k_s2
  | 3 => k_s3
  | 4 => k_s4
  | _ => k_s5
def k_t0 : List Int32 := [99, 99, 100, 100, 101, 102, 102, 103, 103, 97, 97, 98]
def k_t1 : List Int32 := [32, 35, 32, 35, 32, 32, 35, 32, 35, 32, 35, 32]
def k_ext (α : Nat → Nat) (A : Nat → Prop) (U : State) (H : Heap) : Prop :=
  (∀ w ∈ k_nest, va_Nw w U) ∧ (∀ i, i < 6 → va_Z "KeyPath" (k_sn i) "[I" (.ref (α (100 + i))) A U H ∧ va_T .int (α (100 + i)) (k_sl i) (fun j => .int (c32 (k_sv i j))) A U H) ∧ (vk_R "KeyPath" 316 "ccddeffggaab" (α 110) U ∧ vk_R "KeyPath" 324 " # #  # # # " (α 111) U) ∧ vk_S 2 [12, 12] [k_t0, k_t1] (fun i => α (110 + i)) (fun i => α (112 + i)) A U H ∧ va_Z "java/lang/String" "COMPACT_STRINGS" "Z" (.int 1) A U H ∧ va_Zq "jdk/internal/util/Preconditions" "SIOOBE_FORMATTER" "Ljava/util/function/BiFunction;" A U H
def k_isNest : Cond → Bool
  | .methodLinkNest .. => true
  | .fieldLinkNest .. => true
  | _ => false
theorem k_nest_all : k_nest.all k_isNest = true := by decide +kernel
theorem k_nw_warm {w : Cond} (hw : k_isNest w = true) {s U : State} (hW : s.WarmedH U.vm) (h : va_Nw w s) : va_Nw w U := by
  cases w <;> first | exact va_Nw.warmM hW h | exact va_Nw.warmF hW h | (simp [k_isNest] at hw)
theorem k_nw_same {w : Cond} (hw : k_isNest w = true) {s U : State} (hv : s.vm = U.vm) (h : va_Nw w s) : va_Nw w U := by
  cases w <;> first | exact va_Nw.same rfl hv h | (simp [k_isNest] at hw)
theorem k_ext.warm {α : Nat → Nat} {A B : Nat → Prop} {s U : State} {H1 : Heap} (hW : s.WarmedH U.vm) (hAB : ∀ q, B q → A q) (hk : ∀ a : Nat, a < s.heap.size → ¬ A a → H1[a]? = s.heap[a]?) (h : k_ext α A s s.heap) : k_ext α B U H1 := by
  obtain ⟨h1, h2, ⟨h3, h4⟩, h5, h6, h7⟩ := h
  have hvm := hW.alike
  refine ⟨fun w hw => k_nw_warm (List.all_eq_true.mp k_nest_all w hw) hW (h1 w hw), fun i hi => ⟨(((h2 i hi).1.kept hk).narrow hAB).moved hvm, (((h2 i hi).2.kept hk).narrow hAB).moved hvm⟩, ⟨h3.warm hW, h4.warm hW⟩, ((h5.kept hk).narrow hAB).moved hvm, ((h6.kept hk).narrow hAB).moved hvm, ?_⟩
  rcases h7 with h | ⟨t, h⟩
  · exact Or.inl (((h.kept hk).narrow hAB).moved hvm)
  · exact Or.inr ⟨t, ((h.kept hk).narrow hAB).moved hvm⟩
theorem k_ext.same {α : Nat → Nat} {A : Nat → Prop} {s U : State} {H : Heap} (hv : U.vm = s.vm) (h : k_ext α A s H) : k_ext α A U H := by
  obtain ⟨h1, h2, ⟨h3, h4⟩, h5, h6, h7⟩ := h
  have hvm : s.vm.Alike U.vm := by rw [hv]; exact Vm.Alike.refl _
  refine ⟨fun w hw => k_nw_same (List.all_eq_true.mp k_nest_all w hw) hv.symm (h1 w hw), fun i hi => ⟨(h2 i hi).1.moved hvm, (h2 i hi).2.moved hvm⟩, ⟨h3.same hv, h4.same hv⟩, h5.moved hvm, h6.moved hvm, ?_⟩
  rcases h7 with h | ⟨t, h⟩
  · exact Or.inl (h.moved hvm)
  · exact Or.inr ⟨t, h.moved hvm⟩
/-! ===== the judgement ===== -/
abbrev KC : Type := (Program × Launch × Env × Room) × (State × MethodId × Array Value × List Frame) × (Method × Code) × (va_G × (Nat → ClassId) × (Nat → Nat) × (Nat → Prop)) × ((State → Prop) × Nat × Nat × Nat)
def k_lv (α : Nat → Nat) (nL : Nat) (ls : Array Slot) (L : List (Option KV)) : Prop := ls.size = nL ∧ lv_wf ls ∧ L.length = nL ∧ ∀ (i : Nat) (v : KV), L[i]? = some (some v) → ls[i]? = some (.val (k_tr α v))
def kW : KC → Nat → List (Option KV) → List KV → KM → Prop
  | ((p, l, e, R), (s, m, args, below), (meth, c), (D, K, α, A), (Q, cells, slots, nL)), pc, L, st, σ => ∀ (H : Heap) (locs : List Loc) (ls : Array Slot), va_P D k_cls (k_wd α K σ) H → va_S A s.heap H locs → k_lv α nL ls L → W p l e R s m args below meth c H locs cells slots Q (F0 m pc ls (st.map (k_tr α)))
def kOk : KC → Nat → ByteArray → Nat → String → Prop
  | ((p, l, e, R), (s, m, args, below), (meth, c), (D, K, α, A), (Q, cells, slots, nL)), d, cc, n, own => p.tables.exec = Jvm.exec ∧ c.code = cc ∧ c.maxLocals = nL ∧ n = nL ∧ s.vm.findClass own = some m.cls ∧ (∀ w ∈ k_Tg, w.before args s = true) ∧ (d ≤ R.frames ∧ 40 * d ≤ R.locals ∧ cells ≤ R.cells ∧ slots ≤ R.slots) ∧ va_K D k_cls (k_tys K) s ∧ (∀ q, s.heap.size ≤ q → A q) ∧ (∀ c, c < k_NC → A (α c)) ∧ k_inj α ∧ k_ext α A s s.heap
def kJ {Z : Type} (X : KC) (pc : Nat) (L : List (Option KV)) (st : List KV) (σ : KM) (F : Option Z) (Θ : Z → Prop) : Prop := ∀ z, F = some z → Θ z → kW X pc L st σ
