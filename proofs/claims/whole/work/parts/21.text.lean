/-! ===== the two texts: String.charAt and what it calls ===== -/
theorem kMet_of {d nL : Nat} {y : MethodName} {cc : ByteArray} {ret : Option FieldType} {σ τ : KM} {r : Int} {l : Launch} {D : va_G} {K : Nat → ClassId} {α : Nat → Nat} {sz : Nat} {vs : List Value} {L0 : List (Option KV)} (hy : plainName y.cls = true) (hl : (lg_sl vs).length ≤ nL) (h0 : L0.length = nL) (hL0 : ∀ (i : Nat) (v : KV), L0[i]? = some (some v) → (i, k_tr α v) ∈ lv_args 0 vs) (h : ∀ X : KC, kOk X d cc nL y.cls → kRet X ret (r, τ) → kW X 0 L0 [] σ) : Met l y (.code y cc nL ret :: k_Tg) (k_rm d) (va_Pc vs (k_Pre D K α sz σ)) (k_Q ret r τ D K α sz) 0 0 (k_AA α sz) := by
  refine Met.ofW (cc := cc) (maxL := nL) (ret := ret) hy rfl ?_
  intro p e s m args below meth c s₁ B hml hv
  obtain ⟨rfl, hsz, hK, hP, hinj, hE⟩ := hv
  have hts := atoms_spec (ws := .code y cc nL ret :: k_Tg) B.pre
  have hown : s.vm.findClass y.cls = some m.cls := findClass_of_methodNamed B.named
  subst hsz
  have hle := lv_entry vs (n := nL) hl
  rw [lg_entry_eq]
  generalize (lg_sl vs ++ List.replicate (nL - (lg_sl vs).length) Slot.unset).toArray = ls at hle ⊢
  have hX : kOk ((p, l, e, (headSpec (.code y cc nL ret :: k_Tg) (k_rm d)).room), (s, m, vs.toArray, below), (meth, c), (D, K, α, k_AA α s.heap.size), (MQ below (k_Q ret r τ D K α s.heap.size) vs.toArray s 0 0 (k_AA α s.heap.size), 0, 0, nL)) d cc nL y.cls :=
    ⟨B.exec, B.bytes, hml, rfl, hown, fun w hw => hts w (List.mem_cons_of_mem _ hw), ⟨Nat.le_refl _, Nat.le_refl _, Nat.zero_le _, Nat.zero_le _⟩, hK, fun q hq => Or.inr hq, fun c hc => Or.inl ⟨c, hc, rfl⟩, hinj, hE⟩
  exact h _ hX ⟨B.returns, B.notSynchronized, rfl, rfl, rfl, rfl⟩ s.heap [] ls hP va_S.rf ⟨hle.1, hle.2.1, h0, fun i v hi => hle.2.2 (i, k_tr α v) (hL0 i v hi)⟩
abbrev y_ckp : MethodName := ⟨"jdk/internal/util/Preconditions", "checkIndex", "(IILjava/util/function/BiFunction;)I"⟩
abbrev y_cks : MethodName := ⟨"java/lang/String", "checkIndex", "(II)V"⟩
abbrev y_lch : MethodName := ⟨"java/lang/StringLatin1", "charAt", "([BI)C"⟩
abbrev y_isl : MethodName := ⟨"java/lang/String", "isLatin1", "()Z"⟩
abbrev y_chr : MethodName := ⟨"java/lang/String", "charAt", "(I)C"⟩
theorem xw_14 : Cond.initialized "java/lang/String" ∈ k_Tg := k_tg 14 (by decide +kernel) rfl
theorem xw_15 : Cond.initialized "java/lang/StringLatin1" ∈ k_Tg := k_tg 15 (by decide +kernel) rfl
theorem xw_16 : Cond.initialized "jdk/internal/util/Preconditions" ∈ k_Tg := k_tg 16 (by decide +kernel) rfl
theorem xw_931 : Cond.methodLink "KeyPath" 318 y_chr ∈ k_Tg := k_tg 931 (by decide +kernel) rfl
theorem xw_932 : Cond.instanceMethod y_chr ∈ k_Tg := k_tg 932 (by decide +kernel) rfl
theorem xw_933 : Cond.selects "java/lang/String" y_chr y_chr ∈ k_Tg := k_tg 933 (by decide +kernel) rfl
theorem xw_934 : Cond.code y_chr prog_14_method_56_code 2 (some .char) ∈ k_Tg := k_tg 934 (by decide +kernel) rfl
theorem xw_935 : Cond.methodLink "java/lang/String" 492 y_isl ∈ k_Tg := k_tg 935 (by decide +kernel) rfl
theorem xw_936 : Cond.instanceMethod y_isl ∈ k_Tg := k_tg 936 (by decide +kernel) rfl
theorem xw_937 : Cond.selects "java/lang/String" y_isl y_isl ∈ k_Tg := k_tg 937 (by decide +kernel) rfl
theorem xw_938 : Cond.code y_isl prog_14_method_154_code 1 (some .boolean) ∈ k_Tg := k_tg 938 (by decide +kernel) rfl
theorem xw_939 : Cond.fieldLink "java/lang/String" 38 "java/lang/String" "COMPACT_STRINGS" "Z" ∈ k_Tg := k_tg 939 (by decide +kernel) rfl
theorem xw_941 : Cond.methodLink "java/lang/String" 495 y_lch ∈ k_Tg := k_tg 941 (by decide +kernel) rfl
theorem xw_942 : Cond.static y_lch ∈ k_Tg := k_tg 942 (by decide +kernel) rfl
theorem xw_943 : Cond.code y_lch prog_15_method_2_code 2 (some .char) ∈ k_Tg := k_tg 943 (by decide +kernel) rfl
theorem xw_944 : Cond.methodLink "java/lang/StringLatin1" 9 y_cks ∈ k_Tg := k_tg 944 (by decide +kernel) rfl
theorem xw_945 : Cond.static y_cks ∈ k_Tg := k_tg 945 (by decide +kernel) rfl
theorem xw_946 : Cond.code y_cks prog_14_method_155_code 2 none ∈ k_Tg := k_tg 946 (by decide +kernel) rfl
theorem xw_947 : Cond.fieldLink "java/lang/String" 1053 "jdk/internal/util/Preconditions" "SIOOBE_FORMATTER" "Ljava/util/function/BiFunction;" ∈ k_Tg := k_tg 947 (by decide +kernel) rfl
theorem xw_949 : Cond.methodLink "java/lang/String" 1059 y_ckp ∈ k_Tg := k_tg 949 (by decide +kernel) rfl
theorem xw_950 : Cond.static y_ckp ∈ k_Tg := k_tg 950 (by decide +kernel) rfl
theorem xw_951 : Cond.code y_ckp prog_19_method_11_code 3 (some .int) ∈ k_Tg := k_tg 951 (by decide +kernel) rfl
theorem xw_1480 : Cond.fieldLink "java/lang/String" 15 "java/lang/String" "coder" "B" ∈ k_Tg := k_tg 1480 (by decide +kernel) rfl
theorem xw_1481 : Cond.fieldLink "java/lang/String" 9 "java/lang/String" "value" "[B" ∈ k_Tg := k_tg 1481 (by decide +kernel) rfl
def fX_ckp (a b : Int) (σ : KM) : Option (Int × KM) := kLt a 0 none (kLt a b (kRetI a σ) none)
theorem dX_ckp_0 : decode prog_19_method_11_code 0 = .ok (.iload_n 0, 1) := by decide +kernel
theorem dX_ckp_1 : decode prog_19_method_11_code 1 = .ok (.ifCond .lt 8, 3) := by decide +kernel
theorem dX_ckp_4 : decode prog_19_method_11_code 4 = .ok (.iload_n 0, 1) := by decide +kernel
theorem dX_ckp_5 : decode prog_19_method_11_code 5 = .ok (.iload_n 1, 1) := by decide +kernel
theorem dX_ckp_6 : decode prog_19_method_11_code 6 = .ok (.if_icmp .lt 10, 3) := by decide +kernel
theorem dX_ckp_16 : decode prog_19_method_11_code 16 = .ok (.iload_n 0, 1) := by decide +kernel
theorem dX_ckp_17 : decode prog_19_method_11_code 17 = .ok (.ireturn, 1) := by decide +kernel
theorem sX_ckp {a b : Int} {v : Value} (hv : v.category = 1) {σ τ : KM} {r : Int} (hF : fX_ckp a b σ = some (r, τ)) (l : Launch) (D : va_G) (K : Nat → ClassId) (α : Nat → Nat) (sz : Nat) : Met l y_ckp (.code y_ckp prog_19_method_11_code 3 (some .int) :: k_Tg) (k_rm 1) (va_Pc [.int (c32 a), .int (c32 b), v] (k_Pre D K α sz σ)) (k_Q (some .int) r τ D K α sz) 0 0 (k_AA α sz) := by
  refine kMet_of (L0 := [li a, li b, none]) (by decide) ?_ rfl ?_ (fun X hX hR => ?_)
  · simp [lg_sl, Value.category] at hv ⊢
    simp [hv]
  · intro i w hi
    match i, hi with
    | 0, hi => cases hi; exact List.mem_cons_self
    | 1, hi => cases hi; exact List.mem_cons_of_mem _ List.mem_cons_self
    | 2, hi => cases hi
    | i + 3, hi => simp at hi
  · have key : kJ X 0 [li a, li b, none] [] σ (fX_ckp a b σ) (fun z => z = (r, τ)) := by
      refine k_iload_n hX dX_ckp_0 rfl ?_
      refine k_if_lt (tgt := 9) hX dX_ckp_1 (by decide) ?_ ?_
      · exact k_none
      · refine k_iload_n hX dX_ckp_4 rfl ?_
        refine k_iload_n hX dX_ckp_5 rfl ?_
        refine k_icmp_lt (tgt := 16) hX dX_ckp_6 (by decide) ?_ ?_
        · refine k_iload_n hX dX_ckp_16 rfl ?_
          exact k_iret hX hR (fun _ h => h) dX_ckp_17
        · exact k_none
    exact key _ hF rfl
section KX
variable {X : KC} {d n : Nat} {cc : ByteArray} {own : String} {pc : Nat} {L : List (Option KV)} {st : List KV} {σ : KM} {Z : Type} {F : Option Z} {Θ : Z → Prop}
theorem k_ckx (hX : kOk X d cc n "java/lang/String") (hd1 : 2 ≤ d) {a b : Int} {G : Int → KM → Option Z} (hst : k_cat st ≤ 8) (hd2 : decode cc pc = .ok (.getstatic 1053, 3)) (hd3 : decode cc (pc + 3) = .ok (.invokestatic 1059, 3)) (h : ∀ r τ, kJ X (pc + 6) L (ki r :: st) τ (G r τ) Θ) : kJ X pc L (ki b :: ki a :: st) σ (kCall (fX_ckp a b σ) G) Θ := by
  obtain ⟨⟨p, l, e, R⟩, ⟨s, m, args, below⟩, ⟨meth, cd⟩, ⟨D, K, α, A⟩, ⟨Q, cells, slots, nL⟩⟩ := X
  obtain ⟨hx, hb, hml, hnl, hown, hts, hR, hK, hA, hAc, hinj, hE⟩ := hX
  intro z hF hz H locs ls hP hS hL
  unfold kCall at hF
  split at hF
  · cases hF
  · rename_i q hq
    obtain ⟨r, τ⟩ := q
    have hsub := k_AA_sub (α := α) hA hAc hS.1
    have main : ∀ v : Value, v.category = 1 → W p l e R s m args below meth cd H locs cells slots Q (F0 m (pc + 3) ls (v :: .int (c32 b) :: .int (c32 a) :: st.map (k_tr α))) := by
      intro v hv
      have hM := sX_ckp (l := l) (D := D) (K := K) (α := α) (sz := H.size) hv hq
      refine k_run (va_runS (As := [.int (c32 a), .int (c32 b), v]) (rest := st.map (k_tr α)) (n := 3) ⟨hx, hb, hml, hown, hts⟩ hM ⟨callB_of 3 hts (k_goodIn (fun w hw => ?_)) rfl rfl rfl (hts _ xw_16) (hts _ xw_949) (by decide +kernel) ⟨?_, ?_⟩, hts _ xw_950⟩ ⟨k_blind, fun U hU hW => ⟨rfl, by rw [hU], va_K.moved hW.alike hK, by rw [hU]; exact hP, hinj, by rw [hU]; exact k_ext.warm hW hsub hS.2.1 hE⟩⟩ rfl rfl hL.1 rfl ?_ hd3 ⟨hR.2.2.1, hR.2.2.2⟩) hS hsub (fun H1 locs1 hP1 hS1 => ?_)
      · rcases List.mem_cons.mp hw with rfl | hw
        · exact xw_951
        · exact hw
      · show 1 + 1 ≤ _
        omega
      · show 8 + (3 + 11) + 40 * 1 ≤ _
        omega
      · show 2 * 0 + _ ≤ 8
        rw [k_cat_eq]
        omega
      · exact h r τ z hF hz H1 locs1 ls hP1 hS1 hL
    rcases hE.2.2.2.2.2 with hZ | ⟨t, hZ⟩
    · exact va_gets hx hb hZ hS hown (hts _ xw_947) (fun _ h9 => h9) hd2 (main _ rfl)
    · exact va_gets hx hb hZ hS hown (hts _ xw_947) (fun _ h9 => h9) hd2 (main _ rfl)
theorem k_comp (hX : kOk X d cc n "java/lang/String") (hd : decode cc pc = .ok (.getstatic 38, 3)) (h : kJ X (pc + 3) L (ki 1 :: st) σ F Θ) : kJ X pc L st σ F Θ := by
  obtain ⟨⟨p, l, e, R⟩, ⟨s, m, args, below⟩, ⟨meth, cd⟩, ⟨D, K, α, A⟩, ⟨Q, cells, slots, nL⟩⟩ := X
  obtain ⟨hx, hb, hml, hnl, hown, hts, hR, hK, hA, hAc, hinj, hE⟩ := hX
  intro z hF hz H locs ls hP hS hL
  exact va_gets hx hb hE.2.2.2.2.1 hS hown (hts _ xw_939) (fun _ h9 => h9) hd (h z hF hz H locs ls hP hS hL)
theorem k_coder (hX : kOk X d cc n "java/lang/String") {i : Nat} (hi : i < 2) (hd : decode cc pc = .ok (.getfield 15, 3)) (h : kJ X (pc + 3) L (ki 0 :: st) σ F Θ) : kJ X pc L (kr (110 + i) :: st) σ F Θ := by
  obtain ⟨⟨p, l, e, R⟩, ⟨s, m, args, below⟩, ⟨meth, cd⟩, ⟨D, K, α, A⟩, ⟨Q, cells, slots, nL⟩⟩ := X
  obtain ⟨hx, hb, hml, hnl, hown, hts, hR, hK, hA, hAc, hinj, hE⟩ := hX
  intro z hF hz H locs ls hP hS hL
  exact vk_getf hx hb (hE.2.2.2.1.1 i hi).2.1 hS hown (hts _ xw_1480) (fun _ h9 => h9) hd (h z hF hz H locs ls hP hS hL)
theorem k_value (hX : kOk X d cc n "java/lang/String") {i : Nat} (hi : i < 2) (hd : decode cc pc = .ok (.getfield 9, 3)) (h : kJ X (pc + 3) L (kr (112 + i) :: st) σ F Θ) : kJ X pc L (kr (110 + i) :: st) σ F Θ := by
  obtain ⟨⟨p, l, e, R⟩, ⟨s, m, args, below⟩, ⟨meth, cd⟩, ⟨D, K, α, A⟩, ⟨Q, cells, slots, nL⟩⟩ := X
  obtain ⟨hx, hb, hml, hnl, hown, hts, hR, hK, hA, hAc, hinj, hE⟩ := hX
  intro z hF hz H locs ls hP hS hL
  exact vk_getf hx hb (hE.2.2.2.1.1 i hi).2.2.1 hS hown (hts _ xw_1481) (fun _ h9 => h9) hd (h z hF hz H locs ls hP hS hL)
theorem k_xlen (hX : kOk X d cc n own) {i : Nat} (hi : i < 2) (hd : decode cc pc = .ok (.arraylength, 1)) (h : kJ X (pc + 1) L (ki 12 :: st) σ F Θ) : kJ X pc L (kr (112 + i) :: st) σ F Θ := by
  obtain ⟨⟨p, l, e, R⟩, ⟨s, m, args, below⟩, ⟨meth, cd⟩, ⟨D, K, α, A⟩, ⟨Q, cells, slots, nL⟩⟩ := X
  obtain ⟨hx, hb, hml, hnl, hown, hts, hR, hK, hA, hAc, hinj, hE⟩ := hX
  intro z hF hz H locs ls hP hS hL
  refine va_tlen hx hb (hE.2.2.2.1.1 i hi).2.2.2 hS (v := c32 12) ?_ hd (h z hF hz H locs ls hP hS hL)
  rcases (show i = 0 ∨ i = 1 by omega) with rfl | rfl <;> decide
theorem k_xbald (hX : kOk X d cc n own) {i : Nat} {k : Int} {G : Int → Option Z} (hi : i < 2) (hd : decode cc pc = .ok (.baload, 1)) (h : ∀ y, kJ X (pc + 1) L (ki y :: st) σ (G y) Θ) : kJ X pc L (ki k :: kr (112 + i) :: st) σ (kChr i k G) Θ := by
  obtain ⟨⟨p, l, e, R⟩, ⟨s, m, args, below⟩, ⟨meth, cd⟩, ⟨D, K, α, A⟩, ⟨Q, cells, slots, nL⟩⟩ := X
  obtain ⟨hx, hb, hml, hnl, hown, hts, hR, hK, hA, hAc, hinj, hE⟩ := hX
  intro z hF hz H locs ls hP hS hL
  unfold kChr at hF
  split at hF
  · rename_i hc
    have hlen : ([12, 12] : List Nat).getD i 0 = 12 := by rcases (show i = 0 ∨ i = 1 by omega) with rfl | rfl <;> rfl
    have hT := (hE.2.2.2.1.1 i hi).2.2.2
    rw [hlen] at hT
    refine va_tb hx hb hT hS (c32_in hc.1 hc.2 (by decide)) (v := .int (c32 _)) ?_ hd (h _ z hF hz H locs ls hP hS hL)
    rw [c32_clamp hc.1 (by omega)]
    have : ∀ (i : Fin 2) (k : Fin 12), (([k_t0, k_t1] : List (List Int32)).getD i.val []).getD k.val 0 = c32 (if i.val = 0 then ([99, 99, 100, 100, 101, 102, 102, 103, 103, 97, 97, 98] : List Int).getD k.val 0 else ([32, 35, 32, 35, 32, 32, 35, 32, 35, 32, 35, 32] : List Int).getD k.val 0) := by decide +kernel
    exact congrArg Value.int (this ⟨i, hi⟩ ⟨k.toNat, by omega⟩)
  · cases hF
def kI2c {Z : Type} (a : Int) (F : Option Z) : Option Z := if 0 ≤ a ∧ a < 256 then F else none
theorem k_i2c (hX : kOk X d cc n own) {a : Int} (hd : decode cc pc = .ok (.i2c, 1)) (h : kJ X (pc + 1) L (ki a :: st) σ F Θ) : kJ X pc L (ki a :: st) σ (kI2c a F) Θ := by
  obtain ⟨⟨p, l, e, R⟩, ⟨s, m, args, below⟩, ⟨meth, cd⟩, ⟨D, K, α, A⟩, ⟨Q, cells, slots, nL⟩⟩ := X
  obtain ⟨hx, hb, hml, hnl, hown, hts, hR, hK, hA, hAc, hinj, hE⟩ := hX
  intro z hF hz H locs ls hP hS hL
  unfold kI2c at hF
  split at hF
  · rename_i hc
    have h9 : ∀ k : Fin 256, ((c32 (k.val : Int)).toUInt32 % 65536).toInt32 = c32 (k.val : Int) := by decide +kernel
    have h8 := h9 ⟨a.toNat, by omega⟩
    rw [show (((⟨a.toNat, by omega⟩ : Fin 256).val : Nat) : Int) = a by show (a.toNat : Int) = a; omega] at h8
    exact lv_i2c hx hb hd h8 (h z hF hz H locs ls hP hS hL)
  · cases hF
theorem k_callX (hX : kOk X d cc n own) {i d' maxL index np : Nat} {y : MethodName} {bytes : ByteArray} {ret : Option FieldType} {av : List KV} {C : Option (Int × KM)} {G : Int → KM → Option Z} (hi : i < 2) (hyc : y.cls = "java/lang/String") (hS9 : kSem d' y bytes maxL ret (kr (110 + i) :: av) σ C) (hc : k_cal d d' maxL np y bytes ret) (hn : av.length = np) (w1 : Cond.methodLink own index y ∈ k_Tg) (w2 : Cond.instanceMethod y ∈ k_Tg) (w3 : Cond.selects y.cls y y ∈ k_Tg) (hst : k_cat st ≤ 8) (hd : decode cc pc = .ok (.invokevirtual index, 3)) (h : ∀ r τ, C = some (r, τ) → kJ X (pc + 3) L (k_push ret r st) τ (G r τ) Θ) : kJ X pc L (av.reverse ++ kr (110 + i) :: st) σ (kCall C G) Θ := by
  obtain ⟨⟨p, l, e, R⟩, ⟨s, m, args, below⟩, ⟨meth, cd⟩, ⟨D, K, α, A⟩, ⟨Q, cells, slots, nL⟩⟩ := X
  obtain ⟨hx, hb, hml, hnl, hown, hts, hR, hK, hA, hAc, hinj, hE⟩ := hX
  intro z hF hz H locs ls hP hS hL
  unfold kCall at hF
  split at hF
  · cases hF
  · rename_i q
    obtain ⟨r, τ⟩ := q
    have hsub := k_AA_sub (α := α) hA hAc hS.1
    have hM := hS9 r τ rfl l D K α H.size
    have hrec := vk_recv hE.2.2.2.1 hi hS
    rw [← hyc] at hrec
    refine k_run (va_runV (As := av.map (k_tr α)) (rest := st.map (k_tr α)) (n := np) (C := y.cls) (b := α (110 + i)) ⟨hx, hb, hml, hown, hts⟩ hM ⟨callB_of np hts (k_goodIn (fun w hw => ?_)) rfl rfl rfl (hts _ hc.2.2.1) (hts _ w1) hc.2.2.2 ⟨?_, ?_⟩, hts _ w2, hts _ w3⟩ ⟨k_blind, hrec, fun U hU hW => ⟨rfl, by rw [hU], va_K.moved hW.alike hK, by rw [hU]; exact hP, hinj, by rw [hU]; exact k_ext.warm hW hsub hS.2.1 hE⟩⟩ rfl (by simpa using hn) hL.1 (by simp [k_tr]) ?_ hd ⟨hR.2.2.1, hR.2.2.2⟩) hS hsub (fun H1 locs1 hP1 hS1 => ?_)
    · rcases List.mem_cons.mp hw with rfl | hw
      · exact hc.2.1
      · exact hw
    · show d' + 1 ≤ _
      exact Nat.le_trans hc.1.1 hR.1
    · show 8 + (maxL + 11) + 40 * d' ≤ _
      have := hc.1
      have := hR.2.1
      omega
    · show 2 * 0 + _ ≤ 8
      rw [k_cat_eq]
      omega
    · rw [k_push_tr]
      exact h r τ rfl z hF hz H1 locs1 ls hP1 hS1 hL
end KX
def fX_cks (a b : Int) (σ : KM) : Option (Int × KM) := kCall (fX_ckp a b σ) fun _ τ => kRetI 0 τ
theorem dX_cks_0 : decode prog_14_method_155_code 0 = .ok (.iload_n 0, 1) := by decide +kernel
theorem dX_cks_1 : decode prog_14_method_155_code 1 = .ok (.iload_n 1, 1) := by decide +kernel
theorem dX_cks_2 : decode prog_14_method_155_code 2 = .ok (.getstatic 1053, 3) := by decide +kernel
theorem dX_cks_5 : decode prog_14_method_155_code 5 = .ok (.invokestatic 1059, 3) := by decide +kernel
theorem dX_cks_8 : decode prog_14_method_155_code 8 = .ok (.pop, 1) := by decide +kernel
theorem dX_cks_9 : decode prog_14_method_155_code 9 = .ok (.return_, 1) := by decide +kernel
theorem sX_cks (a b : Int) (σ : KM) : kSem 2 y_cks prog_14_method_155_code 2 none [ki a, ki b] σ (fX_cks a b σ) := by
  refine kSem.of (L0 := [li a, li b]) (by decide) (Nat.le_of_ble_eq_true rfl) rfl (fun X q hX hR => ?_)
  refine k_iload_n hX dX_cks_0 rfl ?_
  refine k_iload_n hX dX_cks_1 rfl ?_
  refine k_ckx hX (by decide) (Nat.le_of_ble_eq_true rfl) dX_cks_2 dX_cks_5 (fun r τ => ?_)
  refine k_pop hX dX_cks_8 ?_
  exact k_vret hX hR (fun _ h => h) dX_cks_9
def fX_lch (i : Nat) (k : Int) (σ : KM) : Option (Int × KM) := kCall (fX_cks k 12 σ) fun _ τ => kChr i k fun y => kAnd y 255 fun z => kI2c z (kRetC z τ)
theorem dX_lch_0 : decode prog_15_method_2_code 0 = .ok (.iload_n 1, 1) := by decide +kernel
theorem dX_lch_1 : decode prog_15_method_2_code 1 = .ok (.aload_n 0, 1) := by decide +kernel
theorem dX_lch_2 : decode prog_15_method_2_code 2 = .ok (.arraylength, 1) := by decide +kernel
theorem dX_lch_3 : decode prog_15_method_2_code 3 = .ok (.invokestatic 9, 3) := by decide +kernel
theorem dX_lch_6 : decode prog_15_method_2_code 6 = .ok (.aload_n 0, 1) := by decide +kernel
theorem dX_lch_7 : decode prog_15_method_2_code 7 = .ok (.iload_n 1, 1) := by decide +kernel
theorem dX_lch_8 : decode prog_15_method_2_code 8 = .ok (.baload, 1) := by decide +kernel
theorem dX_lch_9 : decode prog_15_method_2_code 9 = .ok (.sipush 255, 3) := by decide +kernel
theorem dX_lch_12 : decode prog_15_method_2_code 12 = .ok (.iand, 1) := by decide +kernel
theorem dX_lch_13 : decode prog_15_method_2_code 13 = .ok (.i2c, 1) := by decide +kernel
theorem dX_lch_14 : decode prog_15_method_2_code 14 = .ok (.ireturn, 1) := by decide +kernel
theorem sX_lch {i : Nat} (hi : i < 2) (k : Int) (σ : KM) : kSem 3 y_lch prog_15_method_2_code 2 (some .char) [kr (112 + i), ki k] σ (fX_lch i k σ) := by
  refine kSem.of (L0 := [lq (112 + i), li k]) (by decide) (Nat.le_of_ble_eq_true rfl) rfl (fun X q hX hR => ?_)
  refine k_iload_n hX dX_lch_0 rfl ?_
  refine k_aload_n hX dX_lch_1 rfl ?_
  refine k_xlen hX hi dX_lch_2 ?_
  refine k_callS (np := 2) (av := [ki k, ki 12]) (ret := none) hX (sX_cks k 12 σ) ⟨⟨by decide, by decide⟩, xw_946, xw_14, by decide +kernel⟩ rfl xw_944 xw_945 (Nat.le_of_ble_eq_true rfl) dX_lch_3 (fun r τ => ?_)
  refine k_aload_n hX dX_lch_6 rfl ?_
  refine k_iload_n hX dX_lch_7 rfl ?_
  refine k_xbald hX hi dX_lch_8 (fun y => ?_)
  refine k_sipush hX dX_lch_9 (by decide) ?_
  refine k_iand hX dX_lch_12 (fun z => ?_)
  refine k_i2c hX dX_lch_13 ?_
  exact k_cret hX hR (fun _ h => h) dX_lch_14
def fX_isl (σ : KM) : Option (Int × KM) := kEq 1 0 (kRetZ 0 σ) (kEq 0 0 (kRetZ 1 σ) (kRetZ 0 σ))
theorem dX_isl_0 : decode prog_14_method_154_code 0 = .ok (.getstatic 38, 3) := by decide +kernel
theorem dX_isl_3 : decode prog_14_method_154_code 3 = .ok (.ifCond .eq 14, 3) := by decide +kernel
theorem dX_isl_6 : decode prog_14_method_154_code 6 = .ok (.aload_n 0, 1) := by decide +kernel
theorem dX_isl_7 : decode prog_14_method_154_code 7 = .ok (.getfield 15, 3) := by decide +kernel
theorem dX_isl_10 : decode prog_14_method_154_code 10 = .ok (.ifCond .ne 7, 3) := by decide +kernel
theorem dX_isl_13 : decode prog_14_method_154_code 13 = .ok (.iconst 1, 1) := by decide +kernel
theorem dX_isl_14 : decode prog_14_method_154_code 14 = .ok (.goto 4, 3) := by decide +kernel
theorem dX_isl_17 : decode prog_14_method_154_code 17 = .ok (.iconst 0, 1) := by decide +kernel
theorem dX_isl_18 : decode prog_14_method_154_code 18 = .ok (.ireturn, 1) := by decide +kernel
theorem sX_isl {i : Nat} (hi : i < 2) (σ : KM) : kSem 1 y_isl prog_14_method_154_code 1 (some .boolean) [kr (110 + i)] σ (fX_isl σ) := by
  refine kSem.of (L0 := [lq (110 + i)]) (by decide) (Nat.le_of_ble_eq_true rfl) rfl (fun X q hX hR => ?_)
  refine k_comp hX dX_isl_0 ?_
  refine k_if_eq (tgt := 17) hX dX_isl_3 (by decide) ?_ ?_
  · refine k_iconst hX dX_isl_17 ?_
    exact k_zret hX hR (fun _ h => h) dX_isl_18
  · refine k_aload_n hX dX_isl_6 rfl ?_
    refine k_coder hX hi dX_isl_7 ?_
    refine k_if_ne (tgt := 17) hX dX_isl_10 (by decide) ?_ ?_
    · refine k_iconst hX dX_isl_17 ?_
      exact k_zret hX hR (fun _ h => h) dX_isl_18
    · refine k_iconst hX dX_isl_13 ?_
      refine k_goto (tgt := 18) hX dX_isl_14 (by decide) ?_
      exact k_zret hX hR (fun _ h => h) dX_isl_18
def fX_chr (i : Nat) (k : Int) (σ : KM) : Option (Int × KM) := kCall (fX_isl σ) fun r τ => kEq r 0 none (kCall (fX_lch i k τ) fun r2 τ2 => kRetC r2 τ2)
theorem dX_chr_0 : decode prog_14_method_56_code 0 = .ok (.aload_n 0, 1) := by decide +kernel
theorem dX_chr_1 : decode prog_14_method_56_code 1 = .ok (.invokevirtual 492, 3) := by decide +kernel
theorem dX_chr_4 : decode prog_14_method_56_code 4 = .ok (.ifCond .eq 12, 3) := by decide +kernel
theorem dX_chr_7 : decode prog_14_method_56_code 7 = .ok (.aload_n 0, 1) := by decide +kernel
theorem dX_chr_8 : decode prog_14_method_56_code 8 = .ok (.getfield 9, 3) := by decide +kernel
theorem dX_chr_11 : decode prog_14_method_56_code 11 = .ok (.iload_n 1, 1) := by decide +kernel
theorem dX_chr_12 : decode prog_14_method_56_code 12 = .ok (.invokestatic 495, 3) := by decide +kernel
theorem dX_chr_15 : decode prog_14_method_56_code 15 = .ok (.ireturn, 1) := by decide +kernel
theorem sX_chr {i : Nat} (hi : i < 2) (k : Int) (σ : KM) : kSem 4 y_chr prog_14_method_56_code 2 (some .char) [kr (110 + i), ki k] σ (fX_chr i k σ) := by
  refine kSem.of (L0 := [lq (110 + i), li k]) (by decide) (Nat.le_of_ble_eq_true rfl) rfl (fun X q hX hR => ?_)
  refine k_aload_n hX dX_chr_0 rfl ?_
  refine k_callX (np := 0) (av := []) (ret := some .boolean) hX hi rfl (sX_isl hi σ) ⟨⟨by decide, by decide⟩, xw_938, xw_14, by decide +kernel⟩ rfl xw_935 xw_936 xw_937 (Nat.le_of_ble_eq_true rfl) dX_chr_1 (fun r τ _ => ?_)
  refine k_if_eq (tgt := 16) hX dX_chr_4 (by decide) ?_ ?_
  · exact k_none
  · refine k_aload_n hX dX_chr_7 rfl ?_
    refine k_value hX hi dX_chr_8 ?_
    refine k_iload_n hX dX_chr_11 rfl ?_
    refine k_callS (np := 2) (av := [kr (112 + i), ki k]) (ret := some .char) hX (sX_lch hi k τ) ⟨⟨by decide, by decide⟩, xw_943, xw_15, by decide +kernel⟩ rfl xw_941 xw_942 (Nat.le_of_ble_eq_true rfl) dX_chr_12 (fun r2 τ2 => ?_)
    exact k_cret hX hR (fun _ h => h) dX_chr_15
def k_chv (i : Nat) (k : Nat) : Int := if i = 0 then ([99, 99, 100, 100, 101, 102, 102, 103, 103, 97, 97, 98] : List Int).getD k 0 else ([32, 35, 32, 35, 32, 32, 35, 32, 35, 32, 35, 32] : List Int).getD k 0
theorem k_chv_r : ∀ (i : Fin 2) (k : Fin 12), 0 ≤ k_chv i.val k.val ∧ k_chv i.val k.val < 128 := by decide +kernel
theorem fX_chr_eq {i : Nat} (hi : i < 2) {k : Int} (h0 : 0 ≤ k) (h1 : k < 12) (σ : KM) : fX_chr i k σ = some (k_chv i k.toNat, σ) := by
  have hr := k_chv_r ⟨i, hi⟩ ⟨k.toNat, by omega⟩
  have e1 : fX_isl σ = some (1, σ) := by simp [fX_isl, kEq, kin, kRetZ]
  have e2 : fX_ckp k 12 σ = some (k, σ) := by
    unfold fX_ckp kLt kRetI
    rw [if_pos ⟨⟨by omega, by omega⟩, by decide⟩, if_neg (by omega), if_pos ⟨⟨by omega, by omega⟩, by decide⟩, if_pos (by omega)]
  have e3 : fX_lch i k σ = some (k_chv i k.toNat, σ) := by
    unfold fX_lch fX_cks
    rw [e2]
    simp only [kCall, kRetI]
    unfold kChr kAnd kI2c kRetC
    rw [if_pos ⟨h0, h1⟩]
    dsimp only
    rw [if_pos (Or.inl rfl)]
    have e4 : k_chv i k.toNat % (255 + 1) = k_chv i k.toNat := by
      have := hr.1
      have := hr.2
      simp only at *
      omega
    show (if 0 ≤ k_chv i k.toNat % (255 + 1) ∧ k_chv i k.toNat % (255 + 1) < 256 then (if 0 ≤ k_chv i k.toNat % (255 + 1) ∧ k_chv i k.toNat % (255 + 1) < 256 then some (k_chv i k.toNat % (255 + 1), σ) else none) else none) = _
    rw [e4]
    have h5 : 0 ≤ k_chv i k.toNat ∧ k_chv i k.toNat < 256 := ⟨hr.1, by have := hr.2; simp only at this; omega⟩
    rw [if_pos h5, if_pos h5]
  unfold fX_chr
  rw [e1]
  simp only [kCall]
  rw [e3]
  unfold kEq kRetC
  rw [if_pos (by decide), if_neg (by decide)]
  simp only []
  rw [if_pos ⟨hr.1, by have := hr.2; simp only at this; omega⟩]
section KY
variable {X : KC} {d n : Nat} {cc : ByteArray} {own : String} {pc : Nat} {L : List (Option KV)} {st : List KV} {σ : KM} {Z : Type} {F : Option Z} {Θ : Z → Prop}
theorem k_charAt (hX : kOk X d cc n "KeyPath") {i : Nat} {k : Int} {G : Int → Option Z} (hi : i < 2) (hd1 : 4 + 1 ≤ d) (hst : k_cat st ≤ 8) (hd : decode cc pc = .ok (.invokevirtual 318, 3)) (h : ∀ y, kJ X (pc + 3) L (ki y :: st) σ (G y) Θ) : kJ X pc L (ki k :: kr (110 + i) :: st) σ (kChr i k G) Θ := by
  by_cases hc : 0 ≤ k ∧ k < 12
  · have e1 : kChr i k G = kCall (fX_chr i k σ) (fun r _ => G r) := by
      rw [fX_chr_eq hi hc.1 hc.2]
      unfold kChr
      rw [if_pos hc]
      rfl
    rw [e1]
    refine k_callX (np := 1) (av := [ki k]) (ret := some .char) hX hi rfl (sX_chr hi k σ) ⟨⟨hd1, by decide⟩, xw_934, xw_14, by decide +kernel⟩ rfl xw_931 xw_932 xw_933 hst hd (fun r τ hr => ?_)
    rw [fX_chr_eq hi hc.1 hc.2] at hr
    cases hr
    exact h _
  · unfold kChr
    rw [if_neg hc]
    exact k_none
theorem k_ldcW {p : Program} {l : Launch} {e : Env} {R : Room} {s : State} {m : MethodId} {args : Array Value} {below : List Frame} {meth : Method} {c : Code} {H : Heap} {locs : List Loc} {cells slots : Nat} {Q : State → Prop} {cc : ByteArray} {pc : Nat} {ls : Array Slot} {rest : List Value} (hexec : p.tables.exec = Jvm.exec) (hb : c.code = cc) {own tx : String} {index q : Nat} (hown : s.vm.findClass own = some m.cls) (hZ : vk_R own index tx q s) (hdg : decode cc pc = .ok (.ldc_w index, 3))
    (k : W p l e R s m args below meth c H locs cells slots Q (F0 m (pc + 3) ls (.ref q :: rest))) : W p l e R s m args below meth c H locs cells slots Q (F0 m pc ls rest) := by
  intro T hT X
  obtain ⟨t, a1, b1⟩ := k T hT X
  refine ⟨t, ?_, b1⟩
  obtain ⟨kk, cf, i, a', hk, hcf, hcp, -, hr, hev'⟩ := Cond.stringRef_spec hown hZ.1
  cases hZ.2.symm.trans hev'
  obtain ⟨k', hk', he⟩ := X.warmed.alike.2.2 _ _ hk
  have hr' : k'.resolved[index]? = some (some (.string q)) := by
    rcases X.warmed.entry hk hk' index with h | ⟨h, -⟩
    · rw [h]; exact hr
    · rw [hr] at h; cases h
  subst hb
  jvm_step X.here [hexec, hdg, ldc_w.wp_string (e := e) (s := T) (f := F0 m pc ls rest) X.here.top hk' (by rw [he]; exact hcf) hcp hr']
  exact a1
theorem k_ldcS0 (hX : kOk X d cc n "KeyPath") (hd : decode cc pc = .ok (.ldc_w 316, 3)) (h : kJ X (pc + 3) L (kr (110 + 0) :: st) σ F Θ) : kJ X pc L st σ F Θ := by
  obtain ⟨⟨p, l, e, R⟩, ⟨s, m, args, below⟩, ⟨meth, cd⟩, ⟨D, K, α, A⟩, ⟨Q, cells, slots, nL⟩⟩ := X
  obtain ⟨hx, hb, hml, hnl, hown, hts, hR, hK, hA, hAc, hinj, hE⟩ := hX
  intro z hF hz H locs ls hP hS hL
  exact k_ldcW hx hb hown hE.2.2.1.1 hd (h z hF hz H locs ls hP hS hL)
theorem k_ldcS1 (hX : kOk X d cc n "KeyPath") (hd : decode cc pc = .ok (.ldc_w 324, 3)) (h : kJ X (pc + 3) L (kr (110 + 1) :: st) σ F Θ) : kJ X pc L st σ F Θ := by
  obtain ⟨⟨p, l, e, R⟩, ⟨s, m, args, below⟩, ⟨meth, cd⟩, ⟨D, K, α, A⟩, ⟨Q, cells, slots, nL⟩⟩ := X
  obtain ⟨hx, hb, hml, hnl, hown, hts, hR, hK, hA, hAc, hinj, hE⟩ := hX
  intro z hF hz H locs ls hP hS hL
  exact k_ldcW hx hb hown hE.2.2.1.2 hd (h z hF hz H locs ls hP hS hL)
end KY
theorem dP_name_0 : decode prog_1_method_42_code 0 = .ok (.iload_n 1, 1) := by decide +kernel
theorem dP_name_1 : decode prog_1_method_42_code 1 = .ok (.invokestatic 190, 3) := by decide +kernel
theorem dP_name_4 : decode prog_1_method_42_code 4 = .ok (.ifCond .eq 6, 3) := by decide +kernel
theorem dP_name_7 : decode prog_1_method_42_code 7 = .ok (.bipush (-2), 2) := by decide +kernel
theorem dP_name_9 : decode prog_1_method_42_code 9 = .ok (.ireturn, 1) := by decide +kernel
theorem dP_name_10 : decode prog_1_method_42_code 10 = .ok (.iload_n 2, 1) := by decide +kernel
theorem dP_name_11 : decode prog_1_method_42_code 11 = .ok (.ifCond .ge 6, 3) := by decide +kernel
theorem dP_name_14 : decode prog_1_method_42_code 14 = .ok (.bipush (-3), 2) := by decide +kernel
theorem dP_name_16 : decode prog_1_method_42_code 16 = .ok (.ireturn, 1) := by decide +kernel
theorem dP_name_17 : decode prog_1_method_42_code 17 = .ok (.iload_n 2, 1) := by decide +kernel
theorem dP_name_18 : decode prog_1_method_42_code 18 = .ok (.ifCond .ne 14, 3) := by decide +kernel
theorem dP_name_21 : decode prog_1_method_42_code 21 = .ok (.ldc_w 316, 3) := by decide +kernel
theorem dP_name_24 : decode prog_1_method_42_code 24 = .ok (.iload_n 1, 1) := by decide +kernel
theorem dP_name_25 : decode prog_1_method_42_code 25 = .ok (.bipush 12, 2) := by decide +kernel
theorem dP_name_27 : decode prog_1_method_42_code 27 = .ok (.irem, 1) := by decide +kernel
theorem dP_name_28 : decode prog_1_method_42_code 28 = .ok (.invokevirtual 318, 3) := by decide +kernel
theorem dP_name_31 : decode prog_1_method_42_code 31 = .ok (.ireturn, 1) := by decide +kernel
theorem dP_name_32 : decode prog_1_method_42_code 32 = .ok (.iconst 1, 1) := by decide +kernel
theorem dP_name_33 : decode prog_1_method_42_code 33 = .ok (.istore_n 3, 1) := by decide +kernel
theorem dP_name_34 : decode prog_1_method_42_code 34 = .ok (.ldc_w 324, 3) := by decide +kernel
theorem dP_name_37 : decode prog_1_method_42_code 37 = .ok (.iload_n 1, 1) := by decide +kernel
theorem dP_name_38 : decode prog_1_method_42_code 38 = .ok (.bipush 12, 2) := by decide +kernel
theorem dP_name_40 : decode prog_1_method_42_code 40 = .ok (.irem, 1) := by decide +kernel
theorem dP_name_41 : decode prog_1_method_42_code 41 = .ok (.invokevirtual 318, 3) := by decide +kernel
theorem dP_name_44 : decode prog_1_method_42_code 44 = .ok (.bipush 35, 2) := by decide +kernel
theorem dP_name_46 : decode prog_1_method_42_code 46 = .ok (.if_icmp .ne 5, 3) := by decide +kernel
theorem dP_name_49 : decode prog_1_method_42_code 49 = .ok (.iconst 2, 1) := by decide +kernel
theorem dP_name_50 : decode prog_1_method_42_code 50 = .ok (.istore_n 3, 1) := by decide +kernel
theorem dP_name_51 : decode prog_1_method_42_code 51 = .ok (.iload_n 2, 1) := by decide +kernel
theorem dP_name_52 : decode prog_1_method_42_code 52 = .ok (.iload_n 3, 1) := by decide +kernel
theorem dP_name_53 : decode prog_1_method_42_code 53 = .ok (.if_icmp .ge 6, 3) := by decide +kernel
theorem dP_name_56 : decode prog_1_method_42_code 56 = .ok (.bipush 35, 2) := by decide +kernel
theorem dP_name_58 : decode prog_1_method_42_code 58 = .ok (.ireturn, 1) := by decide +kernel
theorem dP_name_59 : decode prog_1_method_42_code 59 = .ok (.iload_n 2, 1) := by decide +kernel
theorem dP_name_60 : decode prog_1_method_42_code 60 = .ok (.iload_n 3, 1) := by decide +kernel
theorem dP_name_61 : decode prog_1_method_42_code 61 = .ok (.if_icmp .ne 16, 3) := by decide +kernel
theorem dP_name_64 : decode prog_1_method_42_code 64 = .ok (.iload_n 1, 1) := by decide +kernel
theorem dP_name_65 : decode prog_1_method_42_code 65 = .ok (.invokestatic 307, 3) := by decide +kernel
theorem dP_name_68 : decode prog_1_method_42_code 68 = .ok (.iconst 1, 1) := by decide +kernel
theorem dP_name_69 : decode prog_1_method_42_code 69 = .ok (.if_icmp .ne 8, 3) := by decide +kernel
theorem dP_name_72 : decode prog_1_method_42_code 72 = .ok (.bipush 109, 2) := by decide +kernel
theorem dP_name_74 : decode prog_1_method_42_code 74 = .ok (.goto 4, 3) := by decide +kernel
theorem dP_name_77 : decode prog_1_method_42_code 77 = .ok (.iconst (-1), 1) := by decide +kernel
theorem dP_name_78 : decode prog_1_method_42_code 78 = .ok (.ireturn, 1) := by decide +kernel
set_option maxRecDepth 100000 in
set_option maxHeartbeats 4000000 in
theorem tP_name_J78 {X : KC} {q : Int × KM} (hX : kOk X 7 prog_1_method_42_code 4 "KeyPath") (hR : kRet X (some .int) q) (t0 : Int) (σ : KM) {Θ : (Int × KM) → Prop} (hT : ∀ z, Θ (z) → z = q) : kJ X 78 [lq 0, none, none, none] [ki t0] σ (fP_name_J78 t0 σ) Θ := by
  exact k_iret hX hR hT dP_name_78
set_option maxRecDepth 100000 in
set_option maxHeartbeats 4000000 in
theorem tP_name_J77 {X : KC} {q : Int × KM} (hX : kOk X 7 prog_1_method_42_code 4 "KeyPath") (hR : kRet X (some .int) q) (σ : KM) {Θ : (Int × KM) → Prop} (hT : ∀ z, Θ (z) → z = q) : kJ X 77 [lq 0, none, none, none] [] σ (fP_name_J77 σ) Θ := by
  refine k_iconst hX dP_name_77 ?_
  exact tP_name_J78 hX hR (-1) σ hT
set_option maxRecDepth 100000 in
set_option maxHeartbeats 4000000 in
theorem tP_name_J51 {X : KC} {q : Int × KM} (hX : kOk X 7 prog_1_method_42_code 4 "KeyPath") (hR : kRet X (some .int) q) (x1 x2 x3 : Int) (σ : KM) {Θ : (Int × KM) → Prop} (hT : ∀ z, Θ (z) → z = q) : kJ X 51 [lq 0, li x1, li x2, li x3] [] σ (fP_name_J51 x1 x2 x3 σ) Θ := by
  refine k_iload_n hX dP_name_51 rfl ?_
  refine k_iload_n hX dP_name_52 rfl ?_
  refine k_icmp_ge (tgt := 59) hX dP_name_53 (by decide) ?_ ?_
  · refine k_iload_n hX dP_name_59 rfl ?_
    refine k_iload_n hX dP_name_60 rfl ?_
    refine k_icmp_ne (tgt := 77) hX dP_name_61 (by decide) ?_ ?_
    · refine k_less [true, false, false, false] (L' := [lq 0, none, none, none]) rfl ?_
      exact tP_name_J77 hX hR σ hT
    · refine k_iload_n hX dP_name_64 rfl ?_
      refine cl_35 hX (by decide) (Nat.le_of_ble_eq_true rfl) dP_name_65 (fun r2 τ1 => ?_)
      refine k_iconst hX dP_name_68 ?_
      refine k_icmp_ne (tgt := 77) hX dP_name_69 (by decide) ?_ ?_
      · refine k_less [true, false, false, false] (L' := [lq 0, none, none, none]) rfl ?_
        exact tP_name_J77 hX hR τ1 hT
      · refine k_bipush hX dP_name_72 (by decide) ?_
        refine k_goto (tgt := 78) hX dP_name_74 (by decide) ?_
        refine k_less [true, false, false, false] (L' := [lq 0, none, none, none]) rfl ?_
        exact tP_name_J78 hX hR 109 τ1 hT
  · refine k_bipush hX dP_name_56 (by decide) ?_
    exact k_iret hX hR hT dP_name_58
set_option maxRecDepth 100000 in
set_option maxHeartbeats 4000000 in
theorem sP_name (x1 x2 : Int) (σ : KM) : kSem 7 (⟨"KeyPath", "name", "(II)I"⟩ : MethodName) prog_1_method_42_code 4 (some .int) [kr 0, ki x1, ki x2] σ (fP_name x1 x2 σ) := by
  refine kSem.of (L0 := [lq 0, li x1, li x2, none]) (by decide) (Nat.le_of_ble_eq_true rfl) rfl (fun X q hX hR => ?_)
  have hT : ∀ z : Int × KM, (fun z => z = q) z → z = q := fun _ h => h
  refine k_iload_n hX dP_name_0 rfl ?_
  refine cl_44 hX (by decide) (Nat.le_of_ble_eq_true rfl) dP_name_1 (fun r2 τ1 => ?_)
  refine k_if_eq (tgt := 10) hX dP_name_4 (by decide) ?_ ?_
  · refine k_iload_n hX dP_name_10 rfl ?_
    refine k_if_ge (tgt := 17) hX dP_name_11 (by decide) ?_ ?_
    · refine k_iload_n hX dP_name_17 rfl ?_
      refine k_if_ne (tgt := 32) hX dP_name_18 (by decide) ?_ ?_
      · refine k_iconst hX dP_name_32 ?_
        refine k_istore_n (L' := [lq 0, li x1, li x2, li 1]) hX dP_name_33 rfl (by decide) rfl ?_
        refine k_ldcS1 hX dP_name_34 ?_
        refine k_iload_n hX dP_name_37 rfl ?_
        refine k_bipush hX dP_name_38 (by decide) ?_
        refine k_irem hX dP_name_40 (fun y3 => ?_)
        refine k_charAt (i := 1) hX (by decide) (by decide) (Nat.le_of_ble_eq_true rfl) dP_name_41 (fun y4 => ?_)
        refine k_bipush hX dP_name_44 (by decide) ?_
        refine k_icmp_ne (tgt := 51) hX dP_name_46 (by decide) ?_ ?_
        · exact tP_name_J51 hX hR x1 x2 1 τ1 hT
        · refine k_iconst hX dP_name_49 ?_
          refine k_istore_n (L' := [lq 0, li x1, li x2, li 2]) hX dP_name_50 rfl (by decide) rfl ?_
          exact tP_name_J51 hX hR x1 x2 2 τ1 hT
      · refine k_ldcS0 hX dP_name_21 ?_
        refine k_iload_n hX dP_name_24 rfl ?_
        refine k_bipush hX dP_name_25 (by decide) ?_
        refine k_irem hX dP_name_27 (fun y5 => ?_)
        refine k_charAt (i := 0) hX (by decide) (by decide) (Nat.le_of_ble_eq_true rfl) dP_name_28 (fun y6 => ?_)
        exact k_iret hX hR hT dP_name_31
    · refine k_bipush hX dP_name_14 (by decide) ?_
      exact k_iret hX hR hT dP_name_16
  · refine k_bipush hX dP_name_7 (by decide) ?_
    exact k_iret hX hR hT dP_name_9
