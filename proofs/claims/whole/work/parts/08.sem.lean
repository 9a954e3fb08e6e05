/-! ===== what a method does, told by a pure function; calls ===== -/
def k_rm (d : Nat) : Room := { frames := d, cells := 0, slots := 0, locals := 40 * d }
def k_Pre (D : va_G) (K : Nat → ClassId) (α : Nat → Nat) (sz : Nat) (σ : KM) (U : State) : Prop := U.heap.size = sz ∧ va_K D k_cls (k_tys K) U ∧ va_P D k_cls (k_wd α K σ) U.heap ∧ k_inj α ∧ k_ext α (k_AA α sz) U U.heap
def kSem (d : Nat) (y : MethodName) (cc : ByteArray) (nL : Nat) (ret : Option FieldType) (av : List KV) (σ : KM) (G : Option (Int × KM)) : Prop :=
  ∀ (r : Int) (τ : KM), G = some (r, τ) → ∀ (l : Launch) (D : va_G) (K : Nat → ClassId) (α : Nat → Nat) (sz : Nat), Met l y (.code y cc nL ret :: k_Tg) (k_rm d) (va_Pc (av.map (k_tr α)) (k_Pre D K α sz σ)) (k_Q ret r τ D K α sz) 0 0 (k_AA α sz)
def k_e1 : List KV → List (Option KV)
  | [] => []
  | .inr (.inl v) :: r => some (kl v) :: none :: k_e1 r
  | .inl v :: r => some (ki v) :: k_e1 r
  | .inr (.inr c) :: r => some (kr c) :: k_e1 r
def k_e0 (n : Nat) (av : List KV) : List (Option KV) := k_e1 av ++ List.replicate (n - (k_e1 av).length) none
theorem k_lgl (x : Int64) (w : List Value) : (lg_sl (.long x :: w)).length = (lg_sl w).length + 2 := by
  show ([Slot.val (.long x), Slot.second] ++ lg_sl w).length = _
  simp
theorem k_lgi (x : Int32) (w : List Value) : (lg_sl (.int x :: w)).length = (lg_sl w).length + 1 := by
  show ([Slot.val (.int x)] ++ lg_sl w).length = _
  simp
theorem k_lgr (x : Nat) (w : List Value) : (lg_sl (.ref x :: w)).length = (lg_sl w).length + 1 := by
  show ([Slot.val (.ref x)] ++ lg_sl w).length = _
  simp
theorem k_e1_len (α : Nat → Nat) : ∀ av : List KV, (lg_sl (av.map (k_tr α))).length = (k_e1 av).length
  | [] => rfl
  | .inr (.inl v) :: r => by
    have := k_e1_len α r
    rw [List.map_cons]
    simp only [k_tr, k_lgl, k_e1, List.length_cons, this]
  | .inl v :: r => by
    have := k_e1_len α r
    rw [List.map_cons]
    simp only [k_tr, k_lgi, k_e1, List.length_cons, this]
  | .inr (.inr c) :: r => by
    have := k_e1_len α r
    rw [List.map_cons]
    simp only [k_tr, k_lgr, k_e1, List.length_cons, this]
theorem k_e1_at (α : Nat → Nat) : ∀ (av : List KV) (b i : Nat) (v : KV), (k_e1 av)[i]? = some (some v) → (b + i, k_tr α v) ∈ lv_args b (av.map (k_tr α))
  | [], b, i, v, h => by simp [k_e1] at h
  | .inr (.inl w) :: r, b, 0, v, h => by
    simp [k_e1] at h
    subst h
    exact List.mem_cons_self
  | .inr (.inl w) :: r, b, 1, v, h => by simp [k_e1] at h
  | .inr (.inl w) :: r, b, i + 2, v, h => by
    have := k_e1_at α r (b + 2) i v (by simpa [k_e1] using h)
    rw [show b + (i + 2) = b + 2 + i by omega]
    exact List.mem_cons_of_mem _ this
  | .inl w :: r, b, 0, v, h => by
    simp [k_e1] at h
    subst h
    exact List.mem_cons_self
  | .inl w :: r, b, i + 1, v, h => by
    have := k_e1_at α r (b + 1) i v (by simpa [k_e1] using h)
    rw [show b + (i + 1) = b + 1 + i by omega]
    exact List.mem_cons_of_mem _ this
  | .inr (.inr w) :: r, b, 0, v, h => by
    simp [k_e1] at h
    subst h
    exact List.mem_cons_self
  | .inr (.inr w) :: r, b, i + 1, v, h => by
    have := k_e1_at α r (b + 1) i v (by simpa [k_e1] using h)
    rw [show b + (i + 1) = b + 1 + i by omega]
    exact List.mem_cons_of_mem _ this
theorem kSem.of {d nL : Nat} {y : MethodName} {cc : ByteArray} {ret : Option FieldType} {av : List KV} {σ : KM} {G : Option (Int × KM)} {L0 : List (Option KV)} (hy : plainName y.cls = true) (hl : (k_e1 av).length ≤ nL) (hL0 : k_e0 nL av = L0) (h : ∀ (X : KC) (q : Int × KM), kOk X d cc nL y.cls → kRet X ret q → kJ X 0 L0 [] σ G (fun z => z = q)) : kSem d y cc nL ret av σ G := by
  intro r τ hG l D K α sz
  refine Met.ofW (cc := cc) (maxL := nL) (ret := ret) hy rfl ?_
  intro p e s m args below meth c s₁ B hml hv
  obtain ⟨rfl, hsz, hK, hP, hinj, hE⟩ := hv
  have hts := atoms_spec (ws := .code y cc nL ret :: k_Tg) B.pre
  have hown : s.vm.findClass y.cls = some m.cls := findClass_of_methodNamed B.named
  subst hsz
  have hlen := k_e1_len α av
  have hle := lv_entry (av.map (k_tr α)) (n := nL) (by rw [hlen]; exact hl)
  rw [lg_entry_eq]
  generalize (lg_sl (av.map (k_tr α)) ++ List.replicate (nL - (lg_sl (av.map (k_tr α))).length) Slot.unset).toArray = ls at hle ⊢
  have hX : kOk ((p, l, e, (headSpec (.code y cc nL ret :: k_Tg) (k_rm d)).room), (s, m, (av.map (k_tr α)).toArray, below), (meth, c), (D, K, α, k_AA α s.heap.size), (MQ below (k_Q ret r τ D K α s.heap.size) (av.map (k_tr α)).toArray s 0 0 (k_AA α s.heap.size), 0, 0, nL)) d cc nL y.cls :=
    ⟨B.exec, B.bytes, hml, rfl, hown, fun w hw => hts w (List.mem_cons_of_mem _ hw), ⟨Nat.le_refl _, Nat.le_refl _, Nat.zero_le _, Nat.zero_le _⟩, hK, fun q hq => Or.inr hq, fun c hc => Or.inl ⟨c, hc, rfl⟩, hinj, hE⟩
  refine h _ (r, τ) hX ⟨B.returns, B.notSynchronized, rfl, rfl, rfl, rfl⟩ (r, τ) hG rfl s.heap [] ls hP va_S.rf ⟨hle.1, hle.2.1, ?_, fun i v hi => ?_⟩
  · rw [← hL0]
    simp only [k_e0, List.length_append, List.length_replicate]
    omega
  · refine hle.2.2 (i, k_tr α v) ?_
    have := k_e1_at α av 0 i v (by
      rw [← hL0] at hi
      unfold k_e0 at hi
      by_cases hlt : i < (k_e1 av).length
      · rwa [List.getElem?_append_left hlt] at hi
      · rw [List.getElem?_append_right (by omega)] at hi
        have := (List.mem_of_getElem? hi)
        simp at this)
    rwa [Nat.zero_add] at this
/-! a call, behind which the frame goes on -/
def k_push (ret : Option FieldType) (r : Int) (st : List KV) : List KV := match ret with
  | none => st
  | some _ => ki r :: st
theorem k_push_tr (α : Nat → Nat) (ret : Option FieldType) (r : Int) (st : List KV) : (k_rv ret r).toList ++ st.map (k_tr α) = (k_push ret r st).map (k_tr α) := by
  cases ret <;> rfl
theorem k_goodIn {ws : List Cond} (h : ∀ w ∈ ws, w ∈ k_Tg) : GoodIn k_Tg ws := fun w hw => ⟨h w hw, good_of_word (List.mem_filter.mp (h w hw)).2⟩
theorem k_blind {av : List Value} {D : va_G} {K : Nat → ClassId} {α : Nat → Nat} {sz : Nat} {σ : KM} : FrameBlind (va_Pc av (k_Pre D K α sz σ)) := by
  intro a U g mk q
  obtain ⟨q0, q1, q2, q3, q4, q5⟩ := q
  exact ⟨q0, q1, va_K.moved (u := U) (U := U.calling g mk a) (Vm.Alike.refl U.vm) q2, q3, q4, q5.same (s := U) (U := U.calling g mk a) rfl⟩
section KCL
variable {p : Program} {l : Launch} {e : Env} {R : Room} {s : State} {m : MethodId} {args : Array Value} {below : List Frame} {meth : Method} {c : Code} {H : Heap} {locs : List Loc} {cells slots : Nat} {Q : State → Prop}
theorem k_run {pc : Nat} {ls : Array Slot} {st0 rest : List Value} {ret : Option FieldType} {r : Int} {τ : KM} {D : va_G} {K : Nat → ClassId} {α : Nat → Nat} {A : Nat → Prop} {a : Array Value} (hr : va_Run p l e R s m args below meth c H locs cells slots 0 0 (F0 m pc ls st0) rest (k_Q ret r τ D K α H.size a) (k_AA α H.size)) (hS : va_S A s.heap H locs) (hA : ∀ q, k_AA α H.size q → A q)
    (kk : ∀ (H1 : Heap) (locs1 : List Loc), va_P D k_cls (k_wd α K τ) H1 → va_S A s.heap H1 locs1 → W p l e R s m args below meth c H1 locs1 cells slots Q (F0 m (pc + 3) ls ((k_rv ret r).toList ++ rest))) : W p l e R s m args below meth c H locs cells slots Q (F0 m pc ls st0) := by
  intro T hT X
  obtain ⟨v, st₀, t, T', L, h0, X', hL, e1, e2, ⟨hv, hp, hz, hk⟩, st⟩ := hr T hT X
  have hv : v = k_rv ret r := Outcome.returned.inj hv
  subst hv
  rw [h0] at hz hk
  obtain ⟨t2, a1, b1⟩ := kk T'.heap (locs ++ L) (by rw [e1]; exact hp)
    ⟨Nat.le_trans hS.1 (by rw [e1]; exact hz), fun q h1 h2 => by rw [e1, hk q (Nat.lt_of_lt_of_le h1 hS.1) (fun z => h2 (hA q z))]; exact hS.2.1 q h1 h2, fun q hq => by
      rcases List.mem_append.mp hq with h | h
      · exact hS.2.2 q h
      · exact hA _ (hL q h)⟩ T' rfl X'
  exact ⟨t2, st t2 a1, b1⟩
end KCL
section KCM
variable {X : KC} {d n : Nat} {cc : ByteArray} {own : String} {pc : Nat} {L : List (Option KV)} {st : List KV} {σ : KM} {Z : Type} {Θ : Z → Prop}
variable {d' maxL index np : Nat} {y : MethodName} {bytes : ByteArray} {ret : Option FieldType} {av : List KV} {C : Option (Int × KM)} {G : Int → KM → Option Z}
/-- what a callee's words and room need -/
def k_cal (d d' maxL np : Nat) (y : MethodName) (bytes : ByteArray) (ret : Option FieldType) : Prop := (d' + 1 ≤ d ∧ maxL ≤ 21) ∧ Cond.code y bytes maxL ret ∈ k_Tg ∧ Cond.initialized y.cls ∈ k_Tg ∧ (y.cls ≠ "java/lang/invoke/MethodHandle" ∧ y.cls ≠ "java/lang/invoke/VarHandle" ∧ (parseMethodDescriptor y.desc).map (fun q => q.parameters.length) = some np)
theorem k_AA_sub {α : Nat → Nat} {A : Nat → Prop} {sz0 sz : Nat} (h1 : ∀ q, sz0 ≤ q → A q) (h2 : ∀ c, c < k_NC → A (α c)) (h : sz0 ≤ sz) : ∀ q, k_AA α sz q → A q := by
  intro q hq
  rcases hq with ⟨c, hc, rfl⟩ | hq
  · exact h2 c hc
  · exact h1 q (by omega)
theorem k_callS (hX : kOk X d cc n own) (hS9 : kSem d' y bytes maxL ret av σ C) (hc : k_cal d d' maxL np y bytes ret) (hn : av.length = np) (w1 : Cond.methodLink own index y ∈ k_Tg) (w2 : Cond.static y ∈ k_Tg) (hst : k_cat st ≤ 8) (hd : decode cc pc = .ok (.invokestatic index, 3)) (h : ∀ r τ, kJ X (pc + 3) L (k_push ret r st) τ (G r τ) Θ) : kJ X pc L (av.reverse ++ st) σ (kCall C G) Θ := by
  obtain ⟨⟨p, l, e, R⟩, ⟨s, m, args, below⟩, ⟨meth, cd⟩, ⟨D, K, α, A⟩, ⟨Q, cells, slots, nL⟩⟩ := X
  obtain ⟨hx, hb, hml, hnl, hown, hts, hR, hK, hA, hAc, hinj, hE⟩ := hX
  intro z hF hz H locs ls hP hS hL
  unfold kCall at hF
  split at hF
  · cases hF
  · rename_i q
    obtain ⟨r, τ⟩ := q
    have hsub := k_AA_sub (α := α) hA hAc hS.1
    have hM := hS9 r τ rfl l D K α H.size
    refine k_run (va_runS (As := av.map (k_tr α)) (rest := st.map (k_tr α)) (n := np) ⟨hx, hb, hml, hown, hts⟩ hM ⟨callB_of np hts (k_goodIn (fun w hw => ?_)) rfl rfl rfl (hts _ hc.2.2.1) (hts _ w1) hc.2.2.2 ⟨?_, ?_⟩, hts _ w2⟩ ⟨k_blind, fun U hU hW => ⟨rfl, by rw [hU], va_K.moved hW.alike hK, by rw [hU]; exact hP, hinj, by rw [hU]; exact k_ext.warm hW hsub hS.2.1 hE⟩⟩ rfl (by simpa using hn) hL.1 (by simp) ?_ hd ⟨hR.2.2.1, hR.2.2.2⟩) hS hsub (fun H1 locs1 hP1 hS1 => ?_)
    · rcases List.mem_cons.mp hw with rfl | hw
      · exact hc.2.1
      · exact hw
    · show d' + 1 ≤ _
      exact Nat.le_trans hc.1.1 hR.1
    · show 8 + (maxL + 11) + 40 * d' ≤ _
      have := hc.1
      have := hR.2.1
      omega
    · show 2 * 0 + _ ≤ 8
      rw [k_cat_eq]
      omega
    · rw [k_push_tr]
      exact h r τ z hF hz H1 locs1 ls hP1 hS1 hL
theorem k_callSN (hX : kOk X d cc n own) (hS9 : kSem d' y bytes maxL ret av σ C) (hc : k_cal d d' maxL np y bytes ret) (hn : av.length = np) (w1 : Cond.methodLinkNest own index y "KeyPath" ∈ k_nest) (w2 : Cond.static y ∈ k_Tg) (hst : k_cat st ≤ 8) (hd : decode cc pc = .ok (.invokestatic index, 3)) (h : ∀ r τ, kJ X (pc + 3) L (k_push ret r st) τ (G r τ) Θ) : kJ X pc L (av.reverse ++ st) σ (kCall C G) Θ := by
  obtain ⟨⟨p, l, e, R⟩, ⟨s, m, args, below⟩, ⟨meth, cd⟩, ⟨D, K, α, A⟩, ⟨Q, cells, slots, nL⟩⟩ := X
  obtain ⟨hx, hb, hml, hnl, hown, hts, hR, hK, hA, hAc, hinj, hE⟩ := hX
  intro z hF hz H locs ls hP hS hL
  unfold kCall at hF
  split at hF
  · cases hF
  · rename_i q
    obtain ⟨r, τ⟩ := q
    have hsub := k_AA_sub (α := α) hA hAc hS.1
    have hM := hS9 r τ rfl l D K α H.size
    refine k_run (va_runSN (As := av.map (k_tr α)) (rest := st.map (k_tr α)) (n := np) ⟨hx, hb, hml, hown, hts⟩ hM ⟨va_cnB np hts (k_goodIn (fun w hw => ?_)) rfl rfl rfl (hE.1 _ w1) (hts _ hc.2.2.1) hc.2.2.2 ⟨?_, ?_⟩, hts _ w2, trivial⟩ ⟨k_blind, fun U hU hW => ⟨rfl, by rw [hU], va_K.moved hW.alike hK, by rw [hU]; exact hP, hinj, by rw [hU]; exact k_ext.warm hW hsub hS.2.1 hE⟩⟩ rfl (by simpa using hn) hL.1 (by simp) ?_ hd ⟨hR.2.2.1, hR.2.2.2⟩) hS hsub (fun H1 locs1 hP1 hS1 => ?_)
    · rcases List.mem_cons.mp hw with rfl | hw
      · exact hc.2.1
      · exact hw
    · show d' + 1 ≤ _
      exact Nat.le_trans hc.1.1 hR.1
    · show 8 + (maxL + 11) + 40 * d' ≤ _
      have := hc.1
      have := hR.2.1
      omega
    · show 2 * 0 + _ ≤ 8
      rw [k_cat_eq]
      omega
    · rw [k_push_tr]
      exact h r τ z hF hz H1 locs1 ls hP1 hS1 hL
theorem k_callV (hX : kOk X d cc n own) {q0 : Nat} (h0 : q0 < k_NC) (ht : k_ty q0 = 0) {vc : vw_C} (hcl : k_cls[k_ci q0]? = some vc) (hyc : vc.1 = y.cls) (hS9 : kSem d' y bytes maxL ret (kr q0 :: av) σ C) (hc : k_cal d d' maxL np y bytes ret) (hn : av.length = np) (w1 : Cond.methodLink own index y ∈ k_Tg) (w2 : Cond.instanceMethod y ∈ k_Tg) (w3 : Cond.selects y.cls y y ∈ k_Tg) (hst : k_cat st ≤ 8) (hd : decode cc pc = .ok (.invokevirtual index, 3)) (h : ∀ r τ, kJ X (pc + 3) L (k_push ret r st) τ (G r τ) Θ) : kJ X pc L (av.reverse ++ kr q0 :: st) σ (kCall C G) Θ := by
  obtain ⟨⟨p, l, e, R⟩, ⟨s, m, args, below⟩, ⟨meth, cd⟩, ⟨D, K, α, A⟩, ⟨Q, cells, slots, nL⟩⟩ := X
  obtain ⟨hx, hb, hml, hnl, hown, hts, hR, hK, hA, hAc, hinj, hE⟩ := hX
  intro z hF hz H locs ls hP hS hL
  unfold kCall at hF
  split at hF
  · cases hF
  · rename_i q
    obtain ⟨r, τ⟩ := q
    have hsub := k_AA_sub (α := α) hA hAc hS.1
    have hM := hS9 r τ rfl l D K α H.size
    have hrec := va_recv hK hP hcl (k_ao h0 ht)
    rw [hyc] at hrec
    refine k_run (va_runV (As := av.map (k_tr α)) (rest := st.map (k_tr α)) (n := np) (C := y.cls) (b := α q0) ⟨hx, hb, hml, hown, hts⟩ hM ⟨callB_of np hts (k_goodIn (fun w hw => ?_)) rfl rfl rfl (hts _ hc.2.2.1) (hts _ w1) hc.2.2.2 ⟨?_, ?_⟩, hts _ w2, hts _ w3⟩ ⟨k_blind, hrec, fun U hU hW => ⟨rfl, by rw [hU], va_K.moved hW.alike hK, by rw [hU]; exact hP, hinj, by rw [hU]; exact k_ext.warm hW hsub hS.2.1 hE⟩⟩ rfl (by simpa using hn) hL.1 (by simp [k_tr]) ?_ hd ⟨hR.2.2.1, hR.2.2.2⟩) hS hsub (fun H1 locs1 hP1 hS1 => ?_)
    · rcases List.mem_cons.mp hw with rfl | hw
      · exact hc.2.1
      · exact hw
    · show d' + 1 ≤ _
      exact Nat.le_trans hc.1.1 hR.1
    · show 8 + (maxL + 11) + 40 * d' ≤ _
      have := hc.1
      have := hR.2.1
      omega
    · show 2 * 0 + _ ≤ 8
      rw [k_cat_eq]
      omega
    · rw [k_push_tr]
      exact h r τ z hF hz H1 locs1 ls hP1 hS1 hL
end KCM
