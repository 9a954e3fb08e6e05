/-! ===== arraycopy, switches, ends, calls ===== -/
def k_cat (st : List KV) : Nat := (st.map (fun v => (k_tr (fun _ => 0) v).category)).sum
theorem k_cat_eq (α : Nat → Nat) (st : List KV) : ((st.map (k_tr α)).map (fun v => v.category)).sum = k_cat st := by
  rw [List.map_map]
  exact k_cats α st
theorem k_wd_cp {α : Nat → Nat} {K : Nat → ClassId} {σ : KM} {c0 c1 : Nat} {sp dp n : Int} (h : c1 < k_NC) (h0 : k_ty c1 ≠ 0) (g1 : 0 ≤ sp) (g2 : 0 ≤ dp) (g3 : 0 ≤ n) : (k_wd α K σ).set c1 (α c1, .inl (K (k_ty c1), k_ln c1, .inl (va_cpy (fun j => c32 (σ c0 (j : Int))) (fun j => c32 (σ c1 (j : Int))) sp.toNat dp.toNat n.toNat))) = k_wd α K (kCp σ c0 c1 sp dp n) := by
  refine k_wd_set h ?_ (fun c' hc => by funext j; simp [kCp, hc])
  simp only [k_ent, h0, if_false]
  congr 4
  funext j
  simp only [va_cpy, kCp, true_and]
  by_cases hj : dp ≤ (j : Int) ∧ (j : Int) < dp + n
  · rw [if_pos hj, if_pos (by omega)]
    congr 2
    omega
  · rw [if_neg hj, if_neg (by omega)]
section KC
variable {X : KC} {d n : Nat} {cc : ByteArray} {own : String} {pc : Nat} {L : List (Option KV)} {st : List KV} {σ : KM} {Z : Type} {F : Option Z} {Θ : Z → Prop}
theorem k_copy (hX : kOk X d cc n own) {c0 c1 index : Nat} {sp dp m : Int} {G : KM → Option Z} (hd1 : 1 ≤ d) (hst : k_cat st ≤ 8) (h0 : c0 < k_NC) (h1 : c1 < k_NC) (t0 : k_ty c0 = 1) (t1 : k_ty c1 = 1) (w1 : Cond.methodLink own index arraycopyName ∈ k_Tg) (w2 : Cond.native arraycopyName ∈ k_Tg) (w3 : Cond.static arraycopyName ∈ k_Tg) (w4 : Cond.initialized "java/lang/System" ∈ k_Tg) (hd : decode cc pc = .ok (.invokestatic index, 3)) {N0 N1 : Int} (hN0 : (k_ln c0 : Int) = N0) (hN1 : (k_ln c1 : Int) = N1) (h : ∀ τ, kJ X (pc + 3) L st τ (G τ) Θ) : kJ X pc L (ki m :: ki dp :: kr c1 :: ki sp :: kr c0 :: st) σ (kCpy σ c0 N0 sp c1 N1 dp m G) Θ := by
  obtain ⟨⟨p, l, e, R⟩, ⟨s, mi, args, below⟩, ⟨meth, cd⟩, ⟨D, K, α, A⟩, ⟨Q, cells, slots, nL⟩⟩ := X
  obtain ⟨hx, hb, hml, hnl, hown, hts, hR, hK, hA, hAc, hinj, hE⟩ := hX
  intro z hF hz H locs ls hP hS hL
  subst hN0
  subst hN1
  unfold kCpy at hF
  split at hF
  · rename_i hi
    have l0 := k_ln_lt c0
    have l1 := k_ln_lt c1
    have g0 : ∀ x : Int, 0 ≤ x → x < 2147483648 → ¬ c32 x < 0 := by
      intro x h1 h2 h3
      rw [← c32_0, c32_lt ⟨by omega, h2⟩ (by decide)] at h3
      omega
    have e1 : (c32 sp).toNatClampNeg = sp.toNat := c32_clamp hi.1.1 (by omega)
    have e2 : (c32 dp).toNatClampNeg = dp.toNat := c32_clamp hi.1.2.1 (by omega)
    have e3 : (c32 m).toNatClampNeg = m.toNat := c32_clamp hi.1.2.2 (by omega)
    refine va_copyi hx hb (by rw [hml]; exact hL.1.symm) hown (hts _ w1) (hts _ w2) (hts _ w3) (hts _ w4) hK hP (k_wd_D hinj hAc) hS c0 c1 1 1 (ty := .int) (k_aa h0 (by rw [t0]; decide)) (k_aa h1 (by rw [t1]; decide)) (by rw [t0]; rfl) (by rw [t1]; rfl) rfl (g0 _ hi.1.1 (by omega)) (g0 _ hi.1.2.1 (by omega)) (g0 _ hi.1.2.2 (by omega)) (by rw [e1, e3]; omega) (by rw [e2, e3]; omega) (fun i _ => rfl) (by omega) (by
      rw [k_cat_eq]
      have : nativeFrameWords "java/lang/System" "arraycopy" 5 + 11 ≤ 32 := by decide +kernel
      omega) hd (fun H1 locs1 hP1 hD1 hS1 => ?_)
    rw [e1, e2, e3, k_wd_cp h1 (by rw [t1]; decide) hi.1.1 hi.1.2.1 hi.1.2.2] at hP1
    exact h _ z hF hz H1 locs1 ls hP1 hS1 hL
  · cases hF
def k_ts (X : KC) (L : List (Option KV)) (st : List KV) (σ : KM) (Θ : Z → Prop) : List Nat → List (Option Z) → Prop
  | t :: ts, f :: fs => kJ X t L st σ f Θ ∧ k_ts X L st σ Θ ts fs
  | [], [] => True
  | _, _ => False
theorem k_ts_at : ∀ (ts : List Nat) (fs : List (Option Z)) (i : Nat), k_ts X L st σ Θ ts fs → i < fs.length → kJ X (ts.getD i 0) L st σ (fs.getD i none) Θ
  | [], [], i, _, h => by simp at h
  | t :: ts, f :: fs, 0, h, _ => h.1
  | t :: ts, f :: fs, i + 1, h, hi => by
    have := k_ts_at ts fs i h.2 (by simpa using hi)
    simpa using this
theorem k_ts_n : k_ts X L st σ Θ [] [] := trivial
theorem k_ts_c {t : Nat} {f : Option Z} {ts : List Nat} {fs : List (Option Z)} (a : kJ X t L st σ f Θ) (b : k_ts X L st σ Θ ts fs) : k_ts X L st σ Θ (t :: ts) (f :: fs) := ⟨a, b⟩
theorem k_none : kJ X pc L st σ (none : Option Z) Θ := fun z h => by cases h
theorem k_tsw (hX : kOk X d cc n own) {x : Int} {dflt lo hi : Int} {offs : Array Int} {len : Nat} {Fs : List (Option Z)} {E : Option Z} {ts : List Nat} {te : Nat} (hd : decode cc pc = .ok (.tableswitch dflt lo hi offs, len)) (hr : hi = lo + (ts.length : Int) - 1) (ho : offs.toList = ts.map (fun (t : Nat) => (t : Int) - (pc : Int))) (hl : ts.length = Fs.length) (he : (pc : Int) + dflt = (te : Int)) (h1 : k_ts X L st σ Θ ts Fs) (h2 : kJ X te L st σ E Θ) : kJ X pc L (ki x :: st) σ (kSw x lo Fs E) Θ := by
  obtain ⟨⟨p, l, e, R⟩, ⟨s, m, args, below⟩, ⟨meth, cd⟩, ⟨D, K, α, A⟩, ⟨Q, cells, slots, nL⟩⟩ := X
  obtain ⟨hx, hb, hml, hnl, hown, hts, hR, hK, hA, hAc, hinj, hE⟩ := hX
  intro z hF hz H locs ls hP hS hL
  unfold kSw at hF
  split at hF
  · rename_i hk
    have e0 := c32_toInt hk
    split at hF
    · rename_i hc
      have hi' : (x - lo).toNat < Fs.length := by omega
      have e1 : offs[(x - lo).toNat]? = some ((ts.getD (x - lo).toNat 0 : Nat) - (pc : Int)) := by
        rw [← Array.getElem?_toList, ho, List.getElem?_map, List.getElem?_eq_getElem (by omega)]
        simp [List.getD, List.getElem?_eq_getElem (show (x - lo).toNat < ts.length by omega)]
      refine lv_tableIn hx hb hd (by rw [e0]; omega) (by rw [e0]; omega) (by rw [e0]; exact e1) (tgt := ts.getD (x - lo).toNat 0) (by omega) ?_
      exact k_ts_at ts Fs _ h1 hi' z hF hz H locs ls hP hS hL
    · rename_i hc
      exact lv_tableOut hx hb hd (by rw [e0]; omega) he (h2 z hF hz H locs ls hP hS hL)
  · cases hF
theorem k_alen (hX : kOk X d cc n own) {c N : Nat} (hc : c < k_NC) (h1 : k_ty c ≠ 0) (hN : k_ln c = N) (hd : decode cc pc = .ok (.arraylength, 1)) (h : kJ X (pc + 1) L (ki (N : Int) :: st) σ F Θ) : kJ X pc L (kr c :: st) σ F Θ := by
  obtain ⟨⟨p, l, e, R⟩, ⟨s, m, args, below⟩, ⟨meth, cd⟩, ⟨D, K, α, A⟩, ⟨Q, cells, slots, nL⟩⟩ := X
  obtain ⟨hx, hb, hml, hnl, hown, hts, hR, hK, hA, hAc, hinj, hE⟩ := hX
  intro z hF hz H locs ls hP hS hL
  have ht : ∃ ty, (k_tys K)[k_ty c]? = some (K (k_ty c), ty) := by
    have h9 : k_ty c < 4 := by
      have : ∀ c, c < 68 → k_ty c < 4 := by decide
      exact this c hc
    rcases (show k_ty c = 1 ∨ k_ty c = 2 ∨ k_ty c = 3 by omega) with h | h | h <;> rw [h] <;> exact ⟨_, rfl⟩
  obtain ⟨ty, ht⟩ := ht
  refine va_alen hx hb hK hP c _ (k_aa hc h1) ht (v := c32 (N : Int)) ?_ hd (h z hF hz H locs ls hP hS hL)
  show Int32.ofNat (k_ln c) = _
  rw [hN]
  exact Int32.ofInt_eq_ofNat.symm
/-! ends -/
def k_rv (ret : Option FieldType) (r : Int) : Option Value := match ret with
  | none => none
  | some _ => some (.int (c32 r))
def k_Q (ret : Option FieldType) (r : Int) (τ : KM) (D : va_G) (K : Nat → ClassId) (α : Nat → Nat) (sz : Nat) : Array Value → State → Outcome → State → Prop := fun _ s0 oc t => oc = .returned (k_rv ret r) ∧ va_P D k_cls (k_wd α K τ) t.heap ∧ va_F (k_AA α sz) s0 t
def kRet : KC → Option FieldType → Int × KM → Prop
  | ((p, l, e, R), (s, m, args, below), (meth, c), (D, K, α, A), (Q, cells, slots, nL)), ret, q => meth.sig.returnType = ret ∧ meth.locks = false ∧ A = k_AA α s.heap.size ∧ cells = 0 ∧ slots = 0 ∧ Q = MQ below (k_Q ret q.1 q.2 D K α s.heap.size) args s 0 0 A
theorem k_iret (hX : kOk X d cc n own) {r : Int} {q : Int × KM} (hR9 : kRet X (some .int) q) {Θ : Int × KM → Prop} (hT : ∀ z, Θ z → z = q) (hd : decode cc pc = .ok (.ireturn, 1)) : kJ X pc L [ki r] σ (kRetI r σ) Θ := by
  obtain ⟨⟨p, l, e, R⟩, ⟨s, m, args, below⟩, ⟨meth, cd⟩, ⟨D, K, α, A⟩, ⟨Q, cells, slots, nL⟩⟩ := X
  obtain ⟨hx, hb, hml, hnl, hown, hts, hR, hK, hA, hAc, hinj, hE⟩ := hX
  intro z hF hz H locs ls hP hS hL
  obtain ⟨r1, r2, r3, r4, r5, r6⟩ := hR9
  have hz := hT _ hz
  cases hF
  subst hz r3 r4 r5 r6
  exact W.iret (v := c32 r) hx hb r1 (fun t ht hW => ⟨rfl, by rw [ht]; exact hP, hS.F ht⟩) hS.2.2 hd r2
theorem k_vret (hX : kOk X d cc n own) {q : Int × KM} (hR9 : kRet X none q) {Θ : Int × KM → Prop} (hT : ∀ z, Θ z → z = q) (hd : decode cc pc = .ok (.return_, 1)) : kJ X pc L [] σ (kRetI 0 σ) Θ := by
  obtain ⟨⟨p, l, e, R⟩, ⟨s, m, args, below⟩, ⟨meth, cd⟩, ⟨D, K, α, A⟩, ⟨Q, cells, slots, nL⟩⟩ := X
  obtain ⟨hx, hb, hml, hnl, hown, hts, hR, hK, hA, hAc, hinj, hE⟩ := hX
  intro z hF hz H locs ls hP hS hL
  obtain ⟨r1, r2, r3, r4, r5, r6⟩ := hR9
  have hz := hT _ hz
  cases hF
  subst hz r3 r4 r5 r6
  exact W.vret hx hb r1 (fun t ht hW => ⟨rfl, by rw [ht]; exact hP, hS.F ht⟩) hS.2.2 hd r2
theorem k_zret (hX : kOk X d cc n own) {r : Int} {q : Int × KM} (hR9 : kRet X (some .boolean) q) {Θ : Int × KM → Prop} (hT : ∀ z, Θ z → z = q) (hd : decode cc pc = .ok (.ireturn, 1)) : kJ X pc L [ki r] σ (kRetZ r σ) Θ := by
  obtain ⟨⟨p, l, e, R⟩, ⟨s, m, args, below⟩, ⟨meth, cd⟩, ⟨D, K, α, A⟩, ⟨Q, cells, slots, nL⟩⟩ := X
  obtain ⟨hx, hb, hml, hnl, hown, hts, hR, hK, hA, hAc, hinj, hE⟩ := hX
  intro z hF hz H locs ls hP hS hL
  obtain ⟨r1, r2, r3, r4, r5, r6⟩ := hR9
  have hz := hT _ hz
  unfold kRetZ at hF
  split at hF
  · rename_i h01
    cases hF
    subst hz r3 r4 r5 r6
    exact W.zret (v := c32 r) hx hb r1 (by rcases h01 with rfl | rfl <;> decide) (fun t ht hW => ⟨rfl, by rw [ht]; exact hP, hS.F ht⟩) hS.2.2 hd r2
  · cases hF
theorem k_cret (hX : kOk X d cc n own) {r : Int} {q : Int × KM} (hR9 : kRet X (some .char) q) {Θ : Int × KM → Prop} (hT : ∀ z, Θ z → z = q) (hd : decode cc pc = .ok (.ireturn, 1)) : kJ X pc L [ki r] σ (kRetC r σ) Θ := by
  obtain ⟨⟨p, l, e, R⟩, ⟨s, m, args, below⟩, ⟨meth, cd⟩, ⟨D, K, α, A⟩, ⟨Q, cells, slots, nL⟩⟩ := X
  obtain ⟨hx, hb, hml, hnl, hown, hts, hR, hK, hA, hAc, hinj, hE⟩ := hX
  intro z hF hz H locs ls hP hS hL
  obtain ⟨r1, r2, r3, r4, r5, r6⟩ := hR9
  have hz := hT _ hz
  unfold kRetC at hF
  split at hF
  · rename_i h01
    cases hF
    subst hz r3 r4 r5 r6
    have e9 : narrow .char (.int (c32 r)) = .int (c32 r) := by
      have h9 : ∀ k : Fin 256, narrow .char (.int (c32 (k.val : Int))) = .int (c32 (k.val : Int)) := by decide +kernel
      have h8 := h9 ⟨r.toNat, by omega⟩
      rw [show (((⟨r.toNat, by omega⟩ : Fin 256).val : Nat) : Int) = r by show (r.toNat : Int) = r; omega] at h8
      exact h8
    exact W.zret (v := c32 r) hx hb r1 e9 (fun t ht hW => ⟨rfl, by rw [ht]; exact hP, hS.F ht⟩) hS.2.2 hd r2
  · cases hF
end KC
