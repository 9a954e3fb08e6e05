/-! ===== fields, rows of numbers ===== -/
theorem k_cats (α : Nat → Nat) : ∀ st : List KV, (st.map (fun v => (k_tr α v).category)).sum = (st.map (fun v => (k_tr (fun _ => 0) v).category)).sum
  | [] => rfl
  | v :: st => by
    have := k_cats α st
    simp only [List.map_cons, List.sum_cons, this]
    rcases v with x | x | x <;> rfl
section KH
variable {X : KC} {d n : Nat} {cc : ByteArray} {own : String} {pc : Nat} {L : List (Option KV)} {st : List KV} {σ : KM} {Z : Type} {F : Option Z} {Θ : Z → Prop}
theorem k_getI (hX : kOk X d cc n own) (c k : Nat) {ci N index : Nat} {C : String} {T : u_T} (hc : c < k_NC) (h0 : k_ty c = 0) (hf : (k_fs c)[k]? = some none) (hci : k_ci c = ci) (hcl : k_cls[ci]? = some (C, T, N)) (hin : ∀ w ∈ u_ws C T N, w ∈ k_Tg) (hk : k < N) (hT : (T k).1 = C) (hw : Cond.fieldLink own index C (T k).2.1 (T k).2.2.1 ∈ k_Tg) (hd : decode cc pc = .ok (.getfield index, 3)) {kI : Int} (hkI : (k : Int) = kI) (h : kJ X (pc + 3) L (ki (σ c kI) :: st) σ F Θ) : kJ X pc L (kr c :: st) σ F Θ := by
  obtain ⟨⟨p, l, e, R⟩, ⟨s, m, args, below⟩, ⟨meth, cd⟩, ⟨D, K, α, A⟩, ⟨Q, cells, slots, nL⟩⟩ := X
  obtain ⟨hx, hb, hml, hnl, hown, hts, hR, hK, hA, hAc, hinj, hE⟩ := hX
  intro z hF hz H locs ls hP hS hL
  subst hci
  subst hkI
  have hg := k_fl_i α (fun k => σ c (k : Int)) (k_fs c) 0 k hf
  rw [Nat.zero_add] at hg
  exact va_get (ref := C) hx hb hts hin hown hK hP c (k_ao hc h0) hcl k hk (hts _ hw) (by rw [hT]; exact fun _ h9 => h9) hg hd (h z hF hz H locs ls hP hS hL)
theorem k_getR (hX : kOk X d cc n own) (c k : Nat) {ci N index q : Nat} {C : String} {T : u_T} (hc : c < k_NC) (h0 : k_ty c = 0) (hf : (k_fs c)[k]? = some (some q)) (hci : k_ci c = ci) (hcl : k_cls[ci]? = some (C, T, N)) (hin : ∀ w ∈ u_ws C T N, w ∈ k_Tg) (hk : k < N) (hT : (T k).1 = C) (hw : Cond.fieldLink own index C (T k).2.1 (T k).2.2.1 ∈ k_Tg) (hd : decode cc pc = .ok (.getfield index, 3)) (h : kJ X (pc + 3) L (kr q :: st) σ F Θ) : kJ X pc L (kr c :: st) σ F Θ := by
  obtain ⟨⟨p, l, e, R⟩, ⟨s, m, args, below⟩, ⟨meth, cd⟩, ⟨D, K, α, A⟩, ⟨Q, cells, slots, nL⟩⟩ := X
  obtain ⟨hx, hb, hml, hnl, hown, hts, hR, hK, hA, hAc, hinj, hE⟩ := hX
  intro z hF hz H locs ls hP hS hL
  subst hci
  have hg := k_fl_r α (fun k => σ c (k : Int)) (k_fs c) 0 k _ hf
  exact va_get (ref := C) hx hb hts hin hown hK hP c (k_ao hc h0) hcl k hk (hts _ hw) (by rw [hT]; exact fun _ h9 => h9) hg hd (h z hF hz H locs ls hP hS hL)
theorem k_putI (hX : kOk X d cc n own) (c k : Nat) {ci N index : Nat} {a : Int} {C : String} {T : u_T} {ty0 : Nat → FieldType} {G : KM → Option Z} (hc : c < k_NC) (h0 : k_ty c = 0) (hf : (k_fs c)[k]? = some none) (hci : k_ci c = ci) (hcl : k_cls[ci]? = some (C, T, N)) (hin : ∀ w ∈ u_ws C T N, w ∈ k_Tg) (hty : ∀ k, k < N → parseFieldDescriptor (T k).2.2.1 = some (ty0 k)) (hnm : ∀ a, a < N → ∀ b, b < N → a ≠ b → (T a).2.1 ≠ (T b).2.1) (hk : k < N) (hT : (T k).1 = C) (hfin : (T k).2.2.2 = false) (hti : ty0 k = .int) (hw : Cond.fieldLink own index C (T k).2.1 (T k).2.2.1 ∈ k_Tg) (hd : decode cc pc = .ok (.putfield index, 3)) {kI : Int} (hkI : (k : Int) = kI) (h : ∀ τ, kJ X (pc + 3) L st τ (G τ) Θ) : kJ X pc L (ki a :: kr c :: st) σ (kWf σ c kI a G) Θ := by
  obtain ⟨⟨p, l, e, R⟩, ⟨s, m, args, below⟩, ⟨meth, cd⟩, ⟨D, K, α, A⟩, ⟨Q, cells, slots, nL⟩⟩ := X
  obtain ⟨hx, hb, hml, hnl, hown, hts, hR, hK, hA, hAc, hinj, hE⟩ := hX
  intro z hF hz H locs ls hP hS hL
  subst hci
  subst hkI
  have hlt : k < (k_fl α (fun k => σ c (k : Int)) 0 (k_fs c)).length := by rw [k_fl_len]; exact (List.getElem?_eq_some_iff.mp hf).1
  refine va_put (ref := C) (ty := .int) (v := .int (c32 a)) hx hb hts hin ty0 hty hnm hown hK hP (k_wd_D hinj hAc) hS c (k_ao hc h0) hcl k hk (hts _ hw) (by rw [hT]; exact fun _ h9 => h9) hfin (by rw [← hti]; exact hty k hk) rfl rfl hlt hd (fun H1 locs1 hP1 hD1 hS1 => ?_)
  rw [k_wd_obj hc h0 hf] at hP1
  exact h _ z hF hz H1 locs1 ls hP1 hS1 hL
theorem k_putZ (hX : kOk X d cc n own) (c k : Nat) {ci N index : Nat} {a : Int} {C : String} {T : u_T} {ty0 : Nat → FieldType} {G : KM → Option Z} (hc : c < k_NC) (h0 : k_ty c = 0) (hf : (k_fs c)[k]? = some none) (hci : k_ci c = ci) (hcl : k_cls[ci]? = some (C, T, N)) (hin : ∀ w ∈ u_ws C T N, w ∈ k_Tg) (hty : ∀ k, k < N → parseFieldDescriptor (T k).2.2.1 = some (ty0 k)) (hnm : ∀ a, a < N → ∀ b, b < N → a ≠ b → (T a).2.1 ≠ (T b).2.1) (hk : k < N) (hT : (T k).1 = C) (hfin : (T k).2.2.2 = false) (hti : ty0 k = .boolean) (hw : Cond.fieldLink own index C (T k).2.1 (T k).2.2.1 ∈ k_Tg) (hd : decode cc pc = .ok (.putfield index, 3)) {kI : Int} (hkI : (k : Int) = kI) (h : ∀ τ, kJ X (pc + 3) L st τ (G τ) Θ) : kJ X pc L (ki a :: kr c :: st) σ (kWfz σ c kI a G) Θ := by
  obtain ⟨⟨p, l, e, R⟩, ⟨s, m, args, below⟩, ⟨meth, cd⟩, ⟨D, K, α, A⟩, ⟨Q, cells, slots, nL⟩⟩ := X
  obtain ⟨hx, hb, hml, hnl, hown, hts, hR, hK, hA, hAc, hinj, hE⟩ := hX
  intro z hF hz H locs ls hP hS hL
  subst hci
  subst hkI
  unfold kWfz at hF
  split at hF
  · rename_i hz01
    have hlt : k < (k_fl α (fun k => σ c (k : Int)) 0 (k_fs c)).length := by rw [k_fl_len]; exact (List.getElem?_eq_some_iff.mp hf).1
    refine va_put (ref := C) (ty := .boolean) (v := .int (c32 a)) hx hb hts hin ty0 hty hnm hown hK hP (k_wd_D hinj hAc) hS c (k_ao hc h0) hcl k hk (hts _ hw) (by rw [hT]; exact fun _ h9 => h9) hfin (by rw [← hti]; exact hty k hk) (by rcases hz01 with rfl | rfl <;> decide) (by rcases hz01 with rfl | rfl <;> decide) hlt hd (fun H1 locs1 hP1 hD1 hS1 => ?_)
    rw [k_wd_obj hc h0 hf] at hP1
    exact h _ z hF hz H1 locs1 ls hP1 hS1 hL
  · cases hF
theorem k_ln_lt (c : Nat) : k_ln c < 2147483648 := by
  by_cases h : c < 68
  · have : ∀ c, c < 68 → k_ln c < 2147483648 := by decide
    exact this c h
  · unfold k_ln
    rw [List.getD_eq_getElem?_getD, List.getElem?_eq_none (by show 68 ≤ c; omega)]
    decide
theorem k_iald (hX : kOk X d cc n own) {c : Nat} {i : Int} {G : Int → Option Z} (hc : c < k_NC) (h1 : k_ty c = 1) (hd : decode cc pc = .ok (.iaload, 1)) {N : Int} (hN : (k_ln c : Int) = N) (h : ∀ r, kJ X (pc + 1) L (ki r :: st) σ (G r) Θ) : kJ X pc L (ki i :: kr c :: st) σ (kRd σ c N i G) Θ := by
  obtain ⟨⟨p, l, e, R⟩, ⟨s, m, args, below⟩, ⟨meth, cd⟩, ⟨D, K, α, A⟩, ⟨Q, cells, slots, nL⟩⟩ := X
  obtain ⟨hx, hb, hml, hnl, hown, hts, hR, hK, hA, hAc, hinj, hE⟩ := hX
  intro z hF hz H locs ls hP hS hL
  subst hN
  unfold kRd at hF
  split at hF
  · rename_i hi
    have hln := k_ln_lt c
    refine va_iald hx hb hK hP c 1 (k_aa hc (by rw [h1]; decide)) (by rw [h1]; rfl) (c32_in hi.1 hi.2 hln) hd ?_
    rw [c32_clamp hi.1 (by omega)]
    have e7 : ((i.toNat : Nat) : Int) = i := by omega
    rw [e7]
    exact h _ z hF hz H locs ls hP hS hL
  · cases hF
theorem k_bald (hX : kOk X d cc n own) {c : Nat} {i : Int} {G : Int → Option Z} (hc : c < k_NC) (h1 : k_ty c = 2) (hd : decode cc pc = .ok (.baload, 1)) {N : Int} (hN : (k_ln c : Int) = N) (h : ∀ r, kJ X (pc + 1) L (ki r :: st) σ (G r) Θ) : kJ X pc L (ki i :: kr c :: st) σ (kRd σ c N i G) Θ := by
  obtain ⟨⟨p, l, e, R⟩, ⟨s, m, args, below⟩, ⟨meth, cd⟩, ⟨D, K, α, A⟩, ⟨Q, cells, slots, nL⟩⟩ := X
  obtain ⟨hx, hb, hml, hnl, hown, hts, hR, hK, hA, hAc, hinj, hE⟩ := hX
  intro z hF hz H locs ls hP hS hL
  subst hN
  unfold kRd at hF
  split at hF
  · rename_i hi
    have hln := k_ln_lt c
    refine va_bald hx hb hK hP c 2 (k_aa hc (by rw [h1]; decide)) (by rw [h1]; rfl) (c32_in hi.1 hi.2 hln) hd ?_
    rw [c32_clamp hi.1 (by omega)]
    have e7 : ((i.toNat : Nat) : Int) = i := by omega
    rw [e7]
    exact h _ z hF hz H locs ls hP hS hL
  · cases hF
theorem k_zald (hX : kOk X d cc n own) {c : Nat} {i : Int} {G : Int → Option Z} (hc : c < k_NC) (h1 : k_ty c = 3) (hd : decode cc pc = .ok (.baload, 1)) {N : Int} (hN : (k_ln c : Int) = N) (h : ∀ r, kJ X (pc + 1) L (ki r :: st) σ (G r) Θ) : kJ X pc L (ki i :: kr c :: st) σ (kRd σ c N i G) Θ := by
  obtain ⟨⟨p, l, e, R⟩, ⟨s, m, args, below⟩, ⟨meth, cd⟩, ⟨D, K, α, A⟩, ⟨Q, cells, slots, nL⟩⟩ := X
  obtain ⟨hx, hb, hml, hnl, hown, hts, hR, hK, hA, hAc, hinj, hE⟩ := hX
  intro z hF hz H locs ls hP hS hL
  subst hN
  unfold kRd at hF
  split at hF
  · rename_i hi
    have hln := k_ln_lt c
    refine va_zald hx hb hK hP c 3 (k_aa hc (by rw [h1]; decide)) (by rw [h1]; rfl) (c32_in hi.1 hi.2 hln) hd ?_
    rw [c32_clamp hi.1 (by omega)]
    have e7 : ((i.toNat : Nat) : Int) = i := by omega
    rw [e7]
    exact h _ z hF hz H locs ls hP hS hL
  · cases hF
theorem k_iast (hX : kOk X d cc n own) {c : Nat} {i a : Int} {G : KM → Option Z} (hc : c < k_NC) (h1 : k_ty c = 1) (hd : decode cc pc = .ok (.iastore, 1)) {N : Int} (hN : (k_ln c : Int) = N) (h : ∀ τ, kJ X (pc + 1) L st τ (G τ) Θ) : kJ X pc L (ki a :: ki i :: kr c :: st) σ (kWr σ c N i a G) Θ := by
  obtain ⟨⟨p, l, e, R⟩, ⟨s, m, args, below⟩, ⟨meth, cd⟩, ⟨D, K, α, A⟩, ⟨Q, cells, slots, nL⟩⟩ := X
  obtain ⟨hx, hb, hml, hnl, hown, hts, hR, hK, hA, hAc, hinj, hE⟩ := hX
  intro z hF hz H locs ls hP hS hL
  subst hN
  unfold kWr at hF
  split at hF
  · rename_i hi
    have hln := k_ln_lt c
    have h9 : k_ty c ≠ 0 := by rw [h1]; decide
    refine va_iast hx hb hK hP (k_wd_D hinj hAc) hS c 1 (k_aa hc h9) (by rw [h1]; rfl) (c32_in hi.1 hi.2 hln) hd (fun H1 locs1 hP1 hD1 hS1 => ?_)
    rw [c32_clamp hi.1 (by have := hi.2; omega), k_wd_arr hc h9 (by omega)] at hP1
    exact h _ z hF hz H1 locs1 ls hP1 hS1 hL
  · cases hF
theorem k_zast (hX : kOk X d cc n own) {c : Nat} {i a : Int} {G : KM → Option Z} (hc : c < k_NC) (h1 : k_ty c = 3) (hd : decode cc pc = .ok (.bastore, 1)) {N : Int} (hN : (k_ln c : Int) = N) (h : ∀ τ, kJ X (pc + 1) L st τ (G τ) Θ) : kJ X pc L (ki a :: ki i :: kr c :: st) σ (kWz σ c N i a G) Θ := by
  obtain ⟨⟨p, l, e, R⟩, ⟨s, m, args, below⟩, ⟨meth, cd⟩, ⟨D, K, α, A⟩, ⟨Q, cells, slots, nL⟩⟩ := X
  obtain ⟨hx, hb, hml, hnl, hown, hts, hR, hK, hA, hAc, hinj, hE⟩ := hX
  intro z hF hz H locs ls hP hS hL
  subst hN
  unfold kWz at hF
  split at hF
  · rename_i hi
    have hln := k_ln_lt c
    have h9 : k_ty c ≠ 0 := by rw [h1]; decide
    refine va_zast hx hb hK hP (k_wd_D hinj hAc) hS c 3 (k_aa hc h9) (by rw [h1]; rfl) (c32_in hi.1.1 hi.1.2 hln) hd (fun H1 locs1 hP1 hD1 hS1 => ?_)
    have e8 : vp_nar .boolean (c32 a) = c32 a := by rcases hi.2 with rfl | rfl <;> decide
    rw [e8] at hP1
    rw [c32_clamp hi.1.1 (by have := hi.1.2; omega), k_wd_arr hc h9 (by omega)] at hP1
    exact h _ z hF hz H1 locs1 ls hP1 hS1 hL
  · cases hF
theorem k_bast (hX : kOk X d cc n own) {c : Nat} {i a : Int} {G : KM → Option Z} (hc : c < k_NC) (h1 : k_ty c = 2) (hd : decode cc pc = .ok (.bastore, 1)) {N : Int} (hN : (k_ln c : Int) = N) (h : ∀ τ, kJ X (pc + 1) L st τ (G τ) Θ) : kJ X pc L (ki a :: ki i :: kr c :: st) σ (kWb σ c N i a G) Θ := by
  obtain ⟨⟨p, l, e, R⟩, ⟨s, m, args, below⟩, ⟨meth, cd⟩, ⟨D, K, α, A⟩, ⟨Q, cells, slots, nL⟩⟩ := X
  obtain ⟨hx, hb, hml, hnl, hown, hts, hR, hK, hA, hAc, hinj, hE⟩ := hX
  intro z hF hz H locs ls hP hS hL
  subst hN
  unfold kWb at hF
  split at hF
  · rename_i hi
    have hln := k_ln_lt c
    have h9 : k_ty c ≠ 0 := by rw [h1]; decide
    refine va_bast hx hb hK hP (k_wd_D hinj hAc) hS c 2 (k_aa hc h9) (by rw [h1]; rfl) (c32_in hi.1.1 hi.1.2 hln) hd (fun H1 locs1 hP1 hD1 hS1 => ?_)
    have e8 : vp_nar .byte (c32 a) = c32 a := by
      rw [vp_nar_byte]
      refine Int32.toInt_inj.mp ?_
      rw [Int8.toInt_toInt32, Int32.toInt_toInt8, c32_toInt ⟨by omega, by omega⟩]
      refine Int.bmod_eq_of_le ?_ ?_ <;> omega
    rw [e8] at hP1
    rw [c32_clamp hi.1.1 (by have := hi.1.2; omega), k_wd_arr hc h9 (by omega)] at hP1
    exact h _ z hF hz H1 locs1 ls hP1 hS1 hL
  · cases hF
theorem k_gets (hX : kOk X d cc n own) (i : Nat) {index : Nat} (hi : i < 6) (hw : Cond.fieldLink own index "KeyPath" (k_sn i) "[I" ∈ k_Tg) (hd : decode cc pc = .ok (.getstatic index, 3)) (h : kJ X (pc + 3) L (kr (100 + i) :: st) σ F Θ) : kJ X pc L st σ F Θ := by
  obtain ⟨⟨p, l, e, R⟩, ⟨s, m, args, below⟩, ⟨meth, cd⟩, ⟨D, K, α, A⟩, ⟨Q, cells, slots, nL⟩⟩ := X
  obtain ⟨hx, hb, hml, hnl, hown, hts, hR, hK, hA, hAc, hinj, hE⟩ := hX
  intro z hF hz H locs ls hP hS hL
  exact va_gets hx hb (hE.2.1 i hi).1 hS hown (hts _ hw) (fun _ h9 => h9) hd (h z hF hz H locs ls hP hS hL)
theorem k_getsN (hX : kOk X d cc n own) (i : Nat) {index : Nat} (hi : i < 6) (hw : Cond.fieldLinkNest own index "KeyPath" (k_sn i) "[I" "KeyPath" ∈ k_nest) (hd : decode cc pc = .ok (.getstatic index, 3)) (h : kJ X (pc + 3) L (kr (100 + i) :: st) σ F Θ) : kJ X pc L st σ F Θ := by
  obtain ⟨⟨p, l, e, R⟩, ⟨s, m, args, below⟩, ⟨meth, cd⟩, ⟨D, K, α, A⟩, ⟨Q, cells, slots, nL⟩⟩ := X
  obtain ⟨hx, hb, hml, hnl, hown, hts, hR, hK, hA, hAc, hinj, hE⟩ := hX
  intro z hF hz H locs ls hP hS hL
  exact va_getsN hx hb (hE.2.1 i hi).1 hS hown (va_Nw.use rfl (hE.1 _ hw)) (fun _ h9 => h9) hd (h z hF hz H locs ls hP hS hL)
theorem k_sald (hX : kOk X d cc n own) {c : Nat} {i : Int} {G : Int → Option Z} (hc : c < 6) (hd : decode cc pc = .ok (.iaload, 1)) {N : Int} (hN : (k_sl c : Int) = N) (h : ∀ r, kJ X (pc + 1) L (ki r :: st) σ (G r) Θ) : kJ X pc L (ki i :: kr (100 + c) :: st) σ (kRs c N i G) Θ := by
  obtain ⟨⟨p, l, e, R⟩, ⟨s, m, args, below⟩, ⟨meth, cd⟩, ⟨D, K, α, A⟩, ⟨Q, cells, slots, nL⟩⟩ := X
  obtain ⟨hx, hb, hml, hnl, hown, hts, hR, hK, hA, hAc, hinj, hE⟩ := hX
  intro z hF hz H locs ls hP hS hL
  subst hN
  unfold kRs at hF
  split at hF
  · rename_i hi
    have hln : k_sl c < 2147483648 := by
      have : ∀ c, c < 6 → k_sl c < 2147483648 := by decide
      exact this c hc
    refine va_ti hx hb (hE.2.1 c hc).2 hS (c32_in hi.1 hi.2 hln) (v := .int (c32 (k_sv c i.toNat))) (by rw [c32_clamp hi.1 (by omega)]) hd ?_
    exact h _ z hF hz H locs ls hP hS hL
  · cases hF
theorem k_mmax (hX : kOk X d cc n own) {a b : Int} {index : Nat} {G : Int → Option Z} (hd1 : 1 ≤ d) (hst : (st.map (fun v => (k_tr (fun _ => 0) v).category)).sum ≤ 8) (h1 : Cond.methodLink own index Lib.Math.max.name ∈ k_Tg) (h2 : Cond.static Lib.Math.max.name ∈ k_Tg) (h3 : Cond.initialized "java/lang/Math" ∈ k_Tg) (h4 : Cond.code Lib.Math.max.name Lib.Math.max.code 2 (some .int) ∈ k_Tg) (hd : decode cc pc = .ok (.invokestatic index, 3)) (h : ∀ r, kJ X (pc + 3) L (ki r :: st) σ (G r) Θ) : kJ X pc L (ki b :: ki a :: st) σ (kMx a b G) Θ := by
  obtain ⟨⟨p, l, e, R⟩, ⟨s, m, args, below⟩, ⟨meth, cd⟩, ⟨D, K, α, A⟩, ⟨Q, cells, slots, nL⟩⟩ := X
  obtain ⟨hx, hb, hml, hnl, hown, hts, hR, hK, hA, hAc, hinj, hE⟩ := hX
  intro z hF hz H locs ls hP hS hL
  unfold kMx at hF
  split at hF
  · rename_i hi
    refine va_mmax hx hb (by rw [hml]; exact hL.1.symm) hown (hts _ h1) (hts _ h2) (hts _ h3) (hts _ h4) (by omega) (by have := k_cats α st; simp only [List.map_map]; simp only [Function.comp_def]; omega) hR.2.2.1 hR.2.2.2 hd ?_
    have hr := h _ z hF hz H locs ls hP hS hL
    simp only [List.map_cons, k_tr] at hr
    simp only [GT.gt, c32_lt hi.1 hi.2, c32_lt hi.2 hi.1]
    split
    · rename_i hq
      rw [if_pos hq] at hr
      exact hr
    · rename_i hq
      rw [if_neg hq] at hr
      exact hr
  · cases hF
theorem k_mmin (hX : kOk X d cc n own) {a b : Int} {index : Nat} {G : Int → Option Z} (hd1 : 1 ≤ d) (hst : (st.map (fun v => (k_tr (fun _ => 0) v).category)).sum ≤ 8) (h1 : Cond.methodLink own index Lib.Math.min.name ∈ k_Tg) (h2 : Cond.static Lib.Math.min.name ∈ k_Tg) (h3 : Cond.initialized "java/lang/Math" ∈ k_Tg) (h4 : Cond.code Lib.Math.min.name Lib.Math.min.code 2 (some .int) ∈ k_Tg) (hd : decode cc pc = .ok (.invokestatic index, 3)) (h : ∀ r, kJ X (pc + 3) L (ki r :: st) σ (G r) Θ) : kJ X pc L (ki b :: ki a :: st) σ (kMn a b G) Θ := by
  obtain ⟨⟨p, l, e, R⟩, ⟨s, m, args, below⟩, ⟨meth, cd⟩, ⟨D, K, α, A⟩, ⟨Q, cells, slots, nL⟩⟩ := X
  obtain ⟨hx, hb, hml, hnl, hown, hts, hR, hK, hA, hAc, hinj, hE⟩ := hX
  intro z hF hz H locs ls hP hS hL
  unfold kMn at hF
  split at hF
  · rename_i hi
    refine va_mmin hx hb (by rw [hml]; exact hL.1.symm) hown (hts _ h1) (hts _ h2) (hts _ h3) (hts _ h4) (by omega) (by have := k_cats α st; simp only [List.map_map]; simp only [Function.comp_def]; omega) hR.2.2.1 hR.2.2.2 hd ?_
    have hr := h _ z hF hz H locs ls hP hS hL
    simp only [List.map_cons, k_tr] at hr
    simp only [GT.gt, c32_lt hi.1 hi.2, c32_lt hi.2 hi.1]
    split
    · rename_i hq
      rw [if_pos hq] at hr
      exact hr
    · rename_i hq
      rw [if_neg hq] at hr
      exact hr
  · cases hF
end KH
