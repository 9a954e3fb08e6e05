/-! ===== cells that are made: worlds that grow at their head ===== -/
abbrev KG : Type := (Program × Launch × Env × Room) × (State × MethodId × Array Value × List Frame) × (Method × Code) × (va_G × (Nat → ClassId) × (Nat → Nat) × Nat) × ((State → Prop) × Nat)
abbrev gA (z : Nat) : Nat → Prop := fun q => z ≤ q
abbrev gK (X : KG) : Nat → ClassId := X.2.2.2.1.2.1
abbrev gAl (X : KG) : Nat → Nat := X.2.2.2.1.2.2.1
/-- the first weights stand at the start, as the array that a clone copies -/
def gFW (α : Nat → Nat) (K : Nat → ClassId) (z : Nat) (U : State) (H : Heap) : Prop := (∃ cell : Cell, H[α 105]? = some cell ∧ α 105 < z ∧ (∀ k, cell.vm ≠ .statics k) ∧ cell.vm ≠ .unknown ∧ ({ cls := cell.cls, slots := cell.slots } : Cell) = vp_cell (K 1) (24, .inl (fun j => c32 (k_s5 j)))) ∧ ∃ cC : ClassId, U.vm.findClass "java/lang/Cloneable" = some cC ∧ U.vm.assignable (K 1) cC = true
theorem gFW.kept {α : Nat → Nat} {K : Nat → ClassId} {z : Nat} {u U : State} {H H1 : Heap} (h : gFW α K z u H) (hvm : u.vm.Alike U.vm) (hk : ∀ a : Nat, a < H.size → ¬ gA z a → H1[a]? = H[a]?) : gFW α K z U H1 := by
  obtain ⟨⟨cell, h1, h2, h3⟩, cC, h4, h5⟩ := h
  exact ⟨⟨cell, by rw [hk _ (Array.getElem?_eq_some_iff.mp h1).1 (by show ¬ z ≤ _; omega)]; exact h1, h2, h3⟩, cC, by rw [hvm.findClass]; exact h4, by rw [hvm.assignable]; exact h5⟩
def gW : KG → Nat → Nat → Nat → List (Nat × Value) → List Value → va_W → Prop
  | ((p, l, e, R), (s, m, args, below), (meth, c), (D, _, _, z), (Q, nL)), cells, slots, pc, lv, st, w => ∀ (H : Heap) (locs : List Loc) (ls : Array Slot), va_P D k_cls w H → va_D (gA z) w → va_S (gA z) s.heap H locs → lv_has ls nL lv → W p l e R s m args below meth c H locs cells slots Q (F0 m pc ls st)
def gOk : KG → Nat → Nat → Nat → ByteArray → Nat → String → Prop
  | ((p, l, e, R), (s, m, args, below), (meth, c), (D, K, α, z), (Q, nL)), d, mc, ms, cc, n, own => p.tables.exec = Jvm.exec ∧ c.code = cc ∧ c.maxLocals = nL ∧ n = nL ∧ s.vm.findClass own = some m.cls ∧ (∀ w ∈ k_Tg, w.before args s = true) ∧ (d ≤ R.frames ∧ 40 * d ≤ R.locals ∧ mc ≤ R.cells ∧ ms ≤ R.slots) ∧ va_K D k_cls (k_tys K) s ∧ z ≤ s.heap.size ∧ k_ext α (gA z) s s.heap ∧ gFW α K z s s.heap
def gIn : KG → Prop
  | (_, _, (meth, _), _, _) => meth.name = "<init>"
def gRet : KG → (va_W → Prop) → Nat → Nat → Prop
  | ((p, l, e, R), (s, m, args, below), (meth, c), (D, K, α, z), (Q, nL)), post, mc, ms => meth.sig.returnType = none ∧ meth.locks = false ∧ Q = MQ below (va_Qv post (fun u t => va_P D k_cls u t.heap ∧ va_D (gA z) u) (gA z)) args s mc ms (gA z)
theorem g_P {D : va_G} {w : va_W} {x : Nat × va_E} {H : Heap} (h : va_P D k_cls (w ++ [x]) H) : va_P D k_cls (x :: w) H := by
  intro k q hk
  cases k with
  | zero => exact h w.length q (by simpa using hk)
  | succ j =>
    have hk : w[j]? = some q := by simpa using hk
    have hl : j < w.length := (List.getElem?_eq_some_iff.mp hk).1
    exact h j q (by rw [List.getElem?_append_left hl]; exact hk)
theorem va_P.perm {D : va_G} {w v : va_W} {H : Heap} (hp : List.Perm w v) (h : va_P D k_cls w H) : va_P D k_cls v H := by
  intro k q hk
  obtain ⟨i, hi⟩ := List.getElem?_of_mem (hp.mem_iff.mpr (List.mem_of_getElem? hk))
  exact h i q hi
theorem va_D.iff {A : Nat → Prop} {w : va_W} : va_D A w ↔ (w.map (fun q => q.1)).Nodup ∧ ∀ q ∈ w, A q.1 := by
  constructor
  · intro h
    refine ⟨?_, fun q hq => ?_⟩
    · refine List.pairwise_iff_getElem.mpr (fun i j hi hj hij he => ?_)
      have hi' : i < w.length := by simpa using hi
      have hj' : j < w.length := by simpa using hj
      simp only [List.getElem_map] at he
      have := h.1 i j w[i] w[j] (List.getElem?_eq_getElem hi') (List.getElem?_eq_getElem hj') he
      omega
    · obtain ⟨i, hi⟩ := List.getElem?_of_mem hq
      exact h.2 i q hi
  · intro h
    refine ⟨fun i j p q hi hj he => ?_, fun k q hk => h.2 q (List.mem_of_getElem? hk)⟩
    obtain ⟨li, ei⟩ := List.getElem?_eq_some_iff.mp hi
    obtain ⟨lj, ej⟩ := List.getElem?_eq_some_iff.mp hj
    have hn := List.pairwise_iff_getElem.mp h.1
    rcases Nat.lt_trichotomy i j with h1 | h1 | h1
    · have h2 := hn i j (by simpa using li) (by simpa using lj) h1
      rw [List.getElem_map, List.getElem_map, ei, ej] at h2
      exact absurd he h2
    · exact h1
    · have h2 := hn j i (by simpa using lj) (by simpa using li) h1
      rw [List.getElem_map, List.getElem_map, ei, ej] at h2
      exact absurd he.symm h2
theorem va_D.perm {A : Nat → Prop} {w v : va_W} (hp : List.Perm w v) (h : va_D A w) : va_D A v := by
  rw [va_D.iff] at h ⊢
  exact ⟨(hp.map _).nodup_iff.mp h.1, fun q hq => h.2 q (hp.mem_iff.mpr hq)⟩
theorem g_D {A : Nat → Prop} {w : va_W} {x : Nat × va_E} (h : va_D A (w ++ [x])) : va_D A (x :: w) := h.perm (List.perm_append_singleton x w)
section KGS
variable {X : KG} {d mc ms n : Nat} {cc : ByteArray} {own : String} {cells slots pc : Nat} {lv : List (Nat × Value)} {st : List Value} {w : va_W}
theorem g_perm {v : va_W} (hp : List.Perm w v) (h : gW X cells slots pc lv st v) : gW X cells slots pc lv st w := by
  obtain ⟨⟨p, l, e, R⟩, ⟨s, m, args, below⟩, ⟨meth, c⟩, ⟨D, K, α, z⟩, ⟨Q, nL⟩⟩ := X
  intro H locs ls hP hD hS hL
  exact h H locs ls (hP.perm hp) (hD.perm hp) hS hL
theorem g_iconst (hX : gOk X d mc ms cc n own) {k : Int} {v : Int32} (hd : decode cc pc = .ok (.iconst k, 1)) (hv : Int32.ofInt k = v) (h : gW X cells slots (pc + 1) lv (.int v :: st) w) : gW X cells slots pc lv st w := by
  obtain ⟨⟨p, l, e, R⟩, ⟨s, m, args, below⟩, ⟨meth, c⟩, ⟨D, K, α, z⟩, ⟨Q, nL⟩⟩ := X
  obtain ⟨hx, hb, hml, hnl, hown, hts, hR, hK, hz, hE, hF⟩ := hX
  intro H locs ls hP hD hS hL
  exact lv_iconst hx hb hd hv (h H locs ls hP hD hS hL)
theorem g_bipush (hX : gOk X d mc ms cc n own) {k : Int} {v : Int32} (hd : decode cc pc = .ok (.bipush k, 2)) (hv : (Int8.ofInt k).toInt32 = v) (h : gW X cells slots (pc + 2) lv (.int v :: st) w) : gW X cells slots pc lv st w := by
  obtain ⟨⟨p, l, e, R⟩, ⟨s, m, args, below⟩, ⟨meth, c⟩, ⟨D, K, α, z⟩, ⟨Q, nL⟩⟩ := X
  obtain ⟨hx, hb, hml, hnl, hown, hts, hR, hK, hz, hE, hF⟩ := hX
  intro H locs ls hP hD hS hL
  exact lv_bipush hx hb hd hv (h H locs ls hP hD hS hL)
theorem g_sipush (hX : gOk X d mc ms cc n own) {k : Int} {v : Int32} (hd : decode cc pc = .ok (.sipush k, 3)) (hv : (Int16.ofInt k).toInt32 = v) (h : gW X cells slots (pc + 3) lv (.int v :: st) w) : gW X cells slots pc lv st w := by
  obtain ⟨⟨p, l, e, R⟩, ⟨s, m, args, below⟩, ⟨meth, c⟩, ⟨D, K, α, z⟩, ⟨Q, nL⟩⟩ := X
  obtain ⟨hx, hb, hml, hnl, hown, hts, hR, hK, hz, hE, hF⟩ := hX
  intro H locs ls hP hD hS hL
  exact lv_sipush hx hb hd hv (h H locs ls hP hD hS hL)
theorem g_aload (hX : gOk X d mc ms cc n own) {k : Fin 4} {i x : Nat} (hd : decode cc pc = .ok (.aload_n k, 1)) (hi : (k : Nat) = i) (j : Nat) (hj : lv[j]? = some (i, .ref x)) (h : gW X cells slots (pc + 1) lv (.ref x :: st) w) : gW X cells slots pc lv st w := by
  obtain ⟨⟨p, l, e, R⟩, ⟨s, m, args, below⟩, ⟨meth, c⟩, ⟨D, K, α, z⟩, ⟨Q, nL⟩⟩ := X
  obtain ⟨hx, hb, hml, hnl, hown, hts, hR, hK, hz, hE, hF⟩ := hX
  intro H locs ls hP hD hS hL
  exact lv_aload_n hx hb hd hi (lv_at hL j hj) (h H locs ls hP hD hS hL)
theorem g_iload (hX : gOk X d mc ms cc n own) {k : Fin 4} {i : Nat} {x : Int32} (hd : decode cc pc = .ok (.iload_n k, 1)) (hi : (k : Nat) = i) (j : Nat) (hj : lv[j]? = some (i, .int x)) (h : gW X cells slots (pc + 1) lv (.int x :: st) w) : gW X cells slots pc lv st w := by
  obtain ⟨⟨p, l, e, R⟩, ⟨s, m, args, below⟩, ⟨meth, c⟩, ⟨D, K, α, z⟩, ⟨Q, nL⟩⟩ := X
  obtain ⟨hx, hb, hml, hnl, hown, hts, hR, hK, hz, hE, hF⟩ := hX
  intro H locs ls hP hD hS hL
  exact lv_iload_n hx hb hd hi (lv_at hL j hj) (h H locs ls hP hD hS hL)
theorem g_istore (hX : gOk X d mc ms cc n own) {k : Fin 4} {i : Nat} {x : Int32} {lv' : List (Nat × Value)} (hd : decode cc pc = .ok (.istore_n k, 1)) (hi : (k : Nat) = i) (hn : i < n) (hl : (i, Value.int x) :: lv.filter (fun q => !(q.1 == i) && !(q.1 + 1 == i && q.2.category == 2)) = lv') (h : gW X cells slots (pc + 1) lv' st w) : gW X cells slots pc lv (.int x :: st) w := by
  obtain ⟨⟨p, l, e, R⟩, ⟨s, m, args, below⟩, ⟨meth, c⟩, ⟨D, K, α, z⟩, ⟨Q, nL⟩⟩ := X
  obtain ⟨hx, hb, hml, hnl, hown, hts, hR, hK, hz, hE, hF⟩ := hX
  intro H locs ls hP hD hS hL
  exact lv_istore_n hx hb hd hi hL (by rw [← hnl]; exact hn) hl (fun ls1 hL1 => h H locs ls1 hP hD hS hL1)
theorem g_astore (hX : gOk X d mc ms cc n own) {k : Fin 4} {i x : Nat} {lv' : List (Nat × Value)} (hd : decode cc pc = .ok (.astore_n k, 1)) (hi : (k : Nat) = i) (hn : i < n) (hl : (i, Value.ref x) :: lv.filter (fun q => !(q.1 == i) && !(q.1 + 1 == i && q.2.category == 2)) = lv') (h : gW X cells slots (pc + 1) lv' st w) : gW X cells slots pc lv (.ref x :: st) w := by
  obtain ⟨⟨p, l, e, R⟩, ⟨s, m, args, below⟩, ⟨meth, c⟩, ⟨D, K, α, z⟩, ⟨Q, nL⟩⟩ := X
  obtain ⟨hx, hb, hml, hnl, hown, hts, hR, hK, hz, hE, hF⟩ := hX
  intro H locs ls hP hD hS hL
  exact lv_astore_n hx hb hd hi hL (by rw [← hnl]; exact hn) hl (fun ls1 hL1 => h H locs ls1 hP hD hS hL1)
theorem g_iinc (hX : gOk X d mc ms cc n own) {i : Nat} {k : Int} {x v : Int32} {lv' : List (Nat × Value)} (hd : decode cc pc = .ok (.iinc i k, 3)) (j : Nat) (hj : lv[j]? = some (i, .int x)) (hv : x + Int32.ofInt k = v) (hn : i < n) (hl : (i, Value.int v) :: lv.filter (fun q => !(q.1 == i) && !(q.1 + 1 == i && q.2.category == 2)) = lv') (h : gW X cells slots (pc + 3) lv' st w) : gW X cells slots pc lv st w := by
  obtain ⟨⟨p, l, e, R⟩, ⟨s, m, args, below⟩, ⟨meth, c⟩, ⟨D, K, α, z⟩, ⟨Q, nL⟩⟩ := X
  obtain ⟨hx, hb, hml, hnl, hown, hts, hR, hK, hz, hE, hF⟩ := hX
  intro H locs ls hP hD hS hL
  exact lv_iinc hx hb hd hL hj hv (by rw [← hnl]; exact hn) hl (fun ls1 hL1 => h H locs ls1 hP hD hS hL1)
theorem g_goto (hX : gOk X d mc ms cc n own) {off : Int} {tgt : Nat} (hd : decode cc pc = .ok (.goto off, 3)) (ht : (pc : Int) + off = (tgt : Int)) (h : gW X cells slots tgt lv st w) : gW X cells slots pc lv st w := by
  obtain ⟨⟨p, l, e, R⟩, ⟨s, m, args, below⟩, ⟨meth, c⟩, ⟨D, K, α, z⟩, ⟨Q, nL⟩⟩ := X
  obtain ⟨hx, hb, hml, hnl, hown, hts, hR, hK, hz, hE, hF⟩ := hX
  intro H locs ls hP hD hS hL
  exact lv_goto hx hb hd ht (h H locs ls hP hD hS hL)
theorem g_ge (hX : gOk X d mc ms cc n own) {x y : Int32} {off : Int} {tgt : Nat} (hd : decode cc pc = .ok (.if_icmp .ge off, 3)) (ht : (pc : Int) + off = (tgt : Int)) (h1 : y ≤ x → gW X cells slots tgt lv st w) (h2 : ¬ y ≤ x → gW X cells slots (pc + 3) lv st w) : gW X cells slots pc lv (.int y :: .int x :: st) w := by
  obtain ⟨⟨p, l, e, R⟩, ⟨s, m, args, below⟩, ⟨meth, c⟩, ⟨D, K, α, z⟩, ⟨Q, nL⟩⟩ := X
  obtain ⟨hx, hb, hml, hnl, hown, hts, hR, hK, hz, hE, hF⟩ := hX
  intro H locs ls hP hD hS hL
  exact lv_icmp_ge hx hb hd ht (fun q => h1 q H locs ls hP hD hS hL) (fun q => h2 q H locs ls hP hD hS hL)
theorem g_dup (hX : gOk X d mc ms cc n own) {va : Value} (hd : decode cc pc = .ok (.dup, 1)) (hv : va.category = 1) (h : gW X cells slots (pc + 1) lv (va :: va :: st) w) : gW X cells slots pc lv (va :: st) w := by
  obtain ⟨⟨p, l, e, R⟩, ⟨s, m, args, below⟩, ⟨meth, c⟩, ⟨D, K, α, z⟩, ⟨Q, nL⟩⟩ := X
  obtain ⟨hx, hb, hml, hnl, hown, hts, hR, hK, hz, hE, hF⟩ := hX
  intro H locs ls hP hD hS hL
  exact lv_dup hx hb hd hv (h H locs ls hP hD hS hL)
theorem g_newa (hX : gOk X d mc ms cc n own) {atype : ArrayType} {t N cells' slots' : Nat} {v : Int32} {ty : FieldType} (hty : newarray.typeOf atype = ty) (ht : ∀ K : Nat → ClassId, (k_tys K)[t]? = some (K t, ty)) (hRA : ∀ U cA, va_RA U cA ty → U.vm.findClass ("[" ++ ty.toString) = some cA) (hdv : defaultValue ty = .int 0) (wa : Cond.arrayClass ty ∈ k_Tg) (hn : ¬ v < 0) (hN : v.toNatClampNeg = N) (hby : N * componentBytes ty ≤ 536870912) (hc : cells + 1 = cells') (hs : slots + N = slots') (hc1 : cells' ≤ mc) (hs1 : slots' ≤ ms) (hd : decode cc pc = .ok (.newarray atype, 2)) (h : ∀ q : Nat, gW X cells' slots' (pc + 2) lv (.ref q :: st) ((q, .inl (gK X t, N, .inl (fun _ => 0))) :: w)) : gW X cells slots pc lv (.int v :: st) w := by
  obtain ⟨⟨p, l, e, R⟩, ⟨s, m, args, below⟩, ⟨meth, c⟩, ⟨D, K, α, z⟩, ⟨Q, nL⟩⟩ := X
  obtain ⟨hx, hb, hml, hnl, hown, hts, hR, hK, hz, hE, hF⟩ := hX
  subst hc hs hty
  intro H locs ls hP hD hS hL
  refine va_newa (N' := N) (a0 := (N, .inl (fun _ => 0))) hx hb (hts _ wa) rfl hK hP hD hS (fun q hq => Nat.le_trans hz hq) (fun cA => by rw [vp_cell_i, hdv]) hn hN hby (by omega) (by omega) hd (fun q cA H1 hK1 hP1 hD1 hS1 => ?_)
  have e1 := hRA _ _ (hK1.2 (k_tys K).length (cA, newarray.typeOf atype) (by rw [List.getElem?_append_right (Nat.le_refl _)]; simp)).2
  have e2 := hRA _ _ (hK.2 t _ (ht K)).2
  have e3 : cA = K t := Option.some.inj (e1.symm.trans e2)
  subst e3
  exact h q H1 locs ls (g_P hP1) (g_D hD1) hS1 hL
theorem g_put (hX : gOk X d mc ms cc n own) {ci k N q0 index a : Nat} {T : u_T} {ty0 : Nat → FieldType} (hc : k_cls[ci]? = some (own, T, N)) (hlay : ∀ w ∈ u_ws own T N, w ∈ k_Tg) (hok : ∀ k, k < N → parseFieldDescriptor (T k).2.2.1 = some (ty0 k)) (hnm : ∀ a, a < N → ∀ b, b < N → a ≠ b → (T a).2.1 ≠ (T b).2.1) (hk : k < N) (wl : Cond.fieldLink own index own (T k).2.1 (T k).2.2.1 ∈ k_Tg) (hdecl : (T k).1 = own) (hfin : (T k).2.2.2 = false) {v : Value} (hn : narrow (ty0 k) v = v) (hfit : fits (ty0 k) v = true) {fs : List Value} (he : w[q0]? = some (a, .inr (ci, fs))) (hl : k < fs.length) {w' : va_W} (hw : w.set q0 (a, .inr (ci, fs.set k v)) = w') (hd : decode cc pc = .ok (.putfield index, 3)) (h : gW X cells slots (pc + 3) lv st w') : gW X cells slots pc lv (v :: .ref a :: st) w := by
  obtain ⟨⟨p, l, e, R⟩, ⟨s, m, args, below⟩, ⟨meth, c⟩, ⟨D, K, α, z⟩, ⟨Q, nL⟩⟩ := X
  obtain ⟨hx, hb, hml, hnl, hown, hts, hR, hK, hz, hE, hF⟩ := hX
  intro H locs ls hP hD hS hL
  refine va_put hx hb hts hlay ty0 hok hnm hown hK hP hD hS q0 he hc k hk (hts _ wl) (by rw [hdecl]; exact fun x h => h) hfin (hok k hk) hn hfit hl hd (fun H1 locs1 hP1 hD1 hS1 => ?_)
  rw [hw] at hP1 hD1
  exact h H1 locs1 ls hP1 hD1 hS1 hL
theorem g_putF (hX : gOk X d mc ms cc n own) (hi : gIn X) {ci k N q0 index a : Nat} {T : u_T} {ty0 : Nat → FieldType} (hc : k_cls[ci]? = some (own, T, N)) (hlay : ∀ w ∈ u_ws own T N, w ∈ k_Tg) (hok : ∀ k, k < N → parseFieldDescriptor (T k).2.2.1 = some (ty0 k)) (hnm : ∀ a, a < N → ∀ b, b < N → a ≠ b → (T a).2.1 ≠ (T b).2.1) (hk : k < N) (wl : Cond.fieldLink own index own (T k).2.1 (T k).2.2.1 ∈ k_Tg) (hdecl : (T k).1 = own) (hfin : (T k).2.2.2 = true) {v : Value} (hn : narrow (ty0 k) v = v) (hfit : fits (ty0 k) v = true) {fs : List Value} (he : w[q0]? = some (a, .inr (ci, fs))) (hl : k < fs.length) {w' : va_W} (hw : w.set q0 (a, .inr (ci, fs.set k v)) = w') (hd : decode cc pc = .ok (.putfield index, 3)) (h : gW X cells slots (pc + 3) lv st w') : gW X cells slots pc lv (v :: .ref a :: st) w := by
  obtain ⟨⟨p, l, e, R⟩, ⟨s, m, args, below⟩, ⟨meth, c⟩, ⟨D, K, α, z⟩, ⟨Q, nL⟩⟩ := X
  obtain ⟨hx, hb, hml, hnl, hown, hts, hR, hK, hz, hE, hF⟩ := hX
  intro H locs ls hP hD hS hL
  refine va_putF hx hb hts hlay ty0 hok hnm hown hK hP hD hS q0 he hc k hk (hts _ wl) (by rw [hdecl]; exact fun x h => h) hfin hi hdecl (hok k hk) hn hfit hl hd (fun H1 locs1 hP1 hD1 hS1 => ?_)
  rw [hw] at hP1 hD1
  exact h H1 locs1 ls hP1 hD1 hS1 hL
theorem g_get (hX : gOk X d mc ms cc n own) {ci k N q0 index a : Nat} {T : u_T} (hc : k_cls[ci]? = some (own, T, N)) (hlay : ∀ w ∈ u_ws own T N, w ∈ k_Tg) (hk : k < N) (wl : Cond.fieldLink own index own (T k).2.1 (T k).2.2.1 ∈ k_Tg) (hdecl : (T k).1 = own) {v : Value} {fs : List Value} (he : w[q0]? = some (a, .inr (ci, fs))) (hv : fs[k]? = some v) (hd : decode cc pc = .ok (.getfield index, 3)) (h : gW X cells slots (pc + 3) lv (v :: st) w) : gW X cells slots pc lv (.ref a :: st) w := by
  obtain ⟨⟨p, l, e, R⟩, ⟨s, m, args, below⟩, ⟨meth, c⟩, ⟨D, K, α, z⟩, ⟨Q, nL⟩⟩ := X
  obtain ⟨hx, hb, hml, hnl, hown, hts, hR, hK, hz, hE, hF⟩ := hX
  intro H locs ls hP hD hS hL
  exact va_get hx hb hts hlay hown hK hP q0 he hc k hk (hts _ wl) (by rw [hdecl]; exact fun x h => h) hv hd (h H locs ls hP hD hS hL)
theorem g_iast (hX : gOk X d mc ms cc n own) {q0 a N : Nat} {f : Nat → Int32} {i x : Int32} (he : w[q0]? = some (a, .inl (gK X 1, N, .inl f))) (hin : vp_in i N) {w' : va_W} (hw : w.set q0 (a, .inl (gK X 1, N, .inl (upd f i.toNatClampNeg x))) = w') (hd : decode cc pc = .ok (.iastore, 1)) (h : gW X cells slots (pc + 1) lv st w') : gW X cells slots pc lv (.int x :: .int i :: .ref a :: st) w := by
  obtain ⟨⟨p, l, e, R⟩, ⟨s, m, args, below⟩, ⟨meth, c⟩, ⟨D, K, α, z⟩, ⟨Q, nL⟩⟩ := X
  obtain ⟨hx, hb, hml, hnl, hown, hts, hR, hK, hz, hE, hF⟩ := hX
  intro H locs ls hP hD hS hL
  refine va_iast hx hb hK hP hD hS q0 1 (cA := K 1) he rfl hin hd (fun H1 locs1 hP1 hD1 hS1 => ?_)
  have hP2 : va_P D k_cls w' H1 := by rw [← hw]; exact hP1
  have hD2 : va_D (gA z) w' := by rw [← hw]; exact hD1
  exact h H1 locs1 ls hP2 hD2 hS1 hL
theorem g_alen (hX : gOk X d mc ms cc n own) {q0 a N : Nat} {f : Nat → Int32} {v : Int32} (he : w[q0]? = some (a, .inl (gK X 1, N, .inl f))) (hv : Int32.ofNat N = v) (hd : decode cc pc = .ok (.arraylength, 1)) (h : gW X cells slots (pc + 1) lv (.int v :: st) w) : gW X cells slots pc lv (.ref a :: st) w := by
  obtain ⟨⟨p, l, e, R⟩, ⟨s, m, args, below⟩, ⟨meth, c⟩, ⟨D, K, α, z⟩, ⟨Q, nL⟩⟩ := X
  obtain ⟨hx, hb, hml, hnl, hown, hts, hR, hK, hz, hE, hF⟩ := hX
  intro H locs ls hP hD hS hL
  exact va_alen hx hb hK hP q0 1 (cA := K 1) (x := (N, .inl f)) he rfl hv hd (h H locs ls hP hD hS hL)
theorem g_cell {cA : ClassId} {N : Nat} {f g : Nat → Int32} (h : ∀ j, j < N → f j = g j) : vp_cell cA (N, .inl f) = vp_cell cA (N, .inl g) := by
  rw [vp_cell_i, vp_cell_i]
  unfold arrV
  congr 1
  apply Array.ext
  · simp
  · intro i h1 h2
    have hi : i < N := by simpa using h1
    simp [h i hi]
/-- an array's values beyond its length are nobody's -/
theorem g_swap {a N : Nat} {cA : ClassId} {f g : Nat → Int32} {v : va_W} (hfg : ∀ j, j < N → f j = g j) (h : gW X cells slots pc lv st ((a, .inl (cA, N, .inl g)) :: v)) : gW X cells slots pc lv st ((a, .inl (cA, N, .inl f)) :: v) := by
  obtain ⟨⟨p, l, e, R⟩, ⟨s, m, args, below⟩, ⟨meth, c⟩, ⟨D, K, α, z⟩, ⟨Q, nL⟩⟩ := X
  intro H locs ls hP hD hS hL
  refine h H locs ls (fun k q hk => ?_) ?_ hS hL
  · cases k with
    | zero =>
      have e0 : q = (a, .inl (cA, N, .inl g)) := (Option.some.inj hk).symm
      subst e0
      have := hP 0 _ rfl
      show H[a]? = some (vp_cell cA (N, .inl g))
      rw [← g_cell hfg]
      exact this
    | succ j => exact hP (j + 1) q hk
  · rw [va_D.iff] at hD ⊢
    refine ⟨hD.1, fun q hq => ?_⟩
    rcases List.mem_cons.mp hq with rfl | hq
    · exact hD.2 (a, .inl (cA, N, .inl f)) List.mem_cons_self
    · exact hD.2 q (List.mem_cons_of_mem _ hq)
theorem g_obj (hX : gOk X d mc ms cc n own) {idx a : Nat} (w1 : Cond.methodLink own idx Lib.objectInit ∈ k_Tg) (w2 : Cond.instanceMethod Lib.objectInit ∈ k_Tg) (w3 : Cond.code Lib.objectInit ⟨#[0xb1]⟩ 1 none ∈ k_Tg) (hd1 : 1 ≤ d) (hst : (st.map fun v => v.category).sum ≤ 8) (hd : decode cc pc = .ok (.invokespecial idx, 3)) (h : gW X cells slots (pc + 3) lv st w) : gW X cells slots pc lv (.ref a :: st) w := by
  obtain ⟨⟨p, l, e, R⟩, ⟨s, m, args, below⟩, ⟨meth, c⟩, ⟨D, K, α, z⟩, ⟨Q, nL⟩⟩ := X
  obtain ⟨hx, hb, hml, hnl, hown, hts, hR, hK, hz, hE, hF⟩ := hX
  intro H locs ls hP hD hS hL
  exact W.objInit hx hb hown (hts _ w1) (hts _ w2) (hts _ w3) rfl (by rw [hml]; exact hL.1) rfl hd (by omega) (by show 2 * 0 + _ + 12 ≤ _; omega) (h H locs ls hP hD hS hL)
theorem g_new (hX : gOk X d mc ms cc n own) {C : String} {T : u_T} {N ci index cells' slots' : Nat} {ty : Nat → FieldType} {fs : List Value} (hc : k_cls[ci]? = some (C, T, N)) (hlay : ∀ w ∈ u_ws C T N, w ∈ k_Tg) (hok : ∀ k, k < N → parseFieldDescriptor (T k).2.2.1 = some (ty k)) (w1 : Cond.classLink own index C ∈ k_Tg) (w2 : Cond.instantiable C N ∈ k_Tg) (w3 : Cond.initialized C ∈ k_Tg) (hfs : ∀ j, j < N → defaultValue (ty j) = vp_V fs j) (h1 : cells + 1 = cells') (h2 : slots + N = slots') (hc1 : cells' ≤ mc) (hs1 : slots' ≤ ms) (hd : decode cc pc = .ok (.new index, 3)) (h : ∀ q : Nat, gW X cells' slots' (pc + 3) lv (.ref q :: st) ((q, .inr (ci, fs)) :: w)) : gW X cells slots pc lv st w := by
  obtain ⟨⟨p, l, e, R⟩, ⟨s, m, args, below⟩, ⟨meth, c⟩, ⟨D, K, α, z⟩, ⟨Q, nL⟩⟩ := X
  obtain ⟨hx, hb, hml, hnl, hown, hts, hR, hK, hz, hE, hF⟩ := hX
  subst h1 h2
  intro H locs ls hP hD hS hL
  refine va_new hx hb hts hlay ty hok hown (hts _ w1) (hts _ w2) (hts _ w3) hK hP hD hS (fun q hq => Nat.le_trans hz hq) hc hfs (by omega) (by omega) hd (fun q H1 hP1 hD1 hS1 => ?_)
  exact h q H1 locs ls (g_P hP1) (g_D hD1) hS1 hL
theorem g_ret (hX : gOk X d mc ms cc n own) {post : va_W → Prop} (hR9 : gRet X post cells slots) (hp : post w) (hd : decode cc pc = .ok (.return_, 1)) : gW X cells slots pc lv [] w := by
  obtain ⟨⟨p, l, e, R⟩, ⟨s, m, args, below⟩, ⟨meth, c⟩, ⟨D, K, α, z⟩, ⟨Q, nL⟩⟩ := X
  obtain ⟨hx, hb, hml, hnl, hown, hts, hR, hK, hz, hE, hF⟩ := hX
  obtain ⟨r1, r2, r3⟩ := hR9
  subst r3
  intro H locs ls hP hD hS hL
  exact W.vret hx hb r1 (fun t ht hW => ⟨⟨w, rfl, hp, by rw [ht]; exact hP, hD⟩, hS.F ht⟩) hS.2.2 hd r2
end KGS
/-! what a constructor makes, as a contract -/
def gPre (D : va_G) (K : Nat → ClassId) (α : Nat → Nat) (z : Nat) (v : va_W) (U : State) : Prop := z ≤ U.heap.size ∧ va_K D k_cls (k_tys K) U ∧ va_P D k_cls v U.heap ∧ va_D (gA z) v ∧ k_ext α (gA z) U U.heap ∧ gFW α K z U U.heap
def gSem (d mc ms : Nat) (y : MethodName) (cc : ByteArray) (nL : Nat) (av : Nat → List Value) (V : (Nat → ClassId) → Nat → va_W → va_W) (post : (Nat → ClassId) → Nat → va_W → va_W → Prop) : Prop :=
  ∀ (l : Launch) (D : va_G) (K : Nat → ClassId) (α : Nat → Nat) (z b : Nat) (w : va_W), Met l y (.code y cc nL none :: k_Tg) { frames := d, cells := mc, slots := ms, locals := 40 * d } (va_Pc (av b) (gPre D K α z (V K b w))) (va_Qv (post K b w) (fun u t => va_P D k_cls u t.heap ∧ va_D (gA z) u) (gA z)) mc ms (gA z)
theorem g_blind {av : List Value} {D : va_G} {K : Nat → ClassId} {α : Nat → Nat} {z : Nat} {v : va_W} : FrameBlind (va_Pc av (gPre D K α z v)) := by
  intro a U g mk q
  obtain ⟨q0, q1, q2, q3, q4, q5, q6⟩ := q
  exact ⟨q0, q1, va_K.moved (u := U) (U := U.calling g mk a) (Vm.Alike.refl U.vm) q2, q3, q4, q5.same (s := U) (U := U.calling g mk a) rfl, gFW.kept (u := U) (U := U.calling g mk a) q6 (Vm.Alike.refl U.vm) (fun _ _ _ => rfl)⟩
theorem gSem.of {d mc ms nL : Nat} {y : MethodName} {cc : ByteArray} {av : Nat → List Value} {V : (Nat → ClassId) → Nat → va_W → va_W} {post : (Nat → ClassId) → Nat → va_W → va_W → Prop} {lv : Nat → List (Nat × Value)} (hy : plainName y.cls = true) (hl : ∀ b, (lg_sl (av b)).length ≤ nL) (hlv : ∀ b, lv_args 0 (av b) = lv b) (h : ∀ (X : KG) (b : Nat) (w : va_W), gOk X d mc ms cc nL y.cls → (y.name = "<init>" → gIn X) → gRet X (post (gK X) b w) mc ms → gW X 0 0 0 (lv b) [] (V (gK X) b w)) : gSem d mc ms y cc nL av V post := by
  intro l D K α z b w
  refine Met.ofW (cc := cc) (maxL := nL) (ret := none) hy rfl ?_
  intro p e s m args below meth c s₁ B hml hv
  obtain ⟨rfl, hz, hK, hP, hD, hE, hF⟩ := hv
  have hts := atoms_spec (ws := .code y cc nL none :: k_Tg) B.pre
  have hown : s.vm.findClass y.cls = some m.cls := findClass_of_methodNamed B.named
  have hin : meth.name = y.name := (name_of_methodNamed B.named B.method).1
  have hle := lv_entry (av b) (n := nL) (hl b)
  rw [lg_entry_eq]
  generalize (lg_sl (av b) ++ List.replicate (nL - (lg_sl (av b)).length) Slot.unset).toArray = ls at hle ⊢
  rw [hlv b] at hle
  refine h ((p, l, e, (headSpec (.code y cc nL none :: k_Tg) { frames := d, cells := mc, slots := ms, locals := 40 * d }).room), (s, m, (av b).toArray, below), (meth, c), (D, K, α, z), (MQ below (va_Qv (post K b w) (fun u t => va_P D k_cls u t.heap ∧ va_D (gA z) u) (gA z)) (av b).toArray s mc ms (gA z), nL)) b w
    ⟨B.exec, B.bytes, hml, rfl, hown, fun w hw => hts w (List.mem_cons_of_mem _ hw), ⟨Nat.le_refl _, Nat.le_refl _, Nat.le_refl _, Nat.le_refl _⟩, hK, hz, hE, hF⟩ (fun hi => hin.trans hi) ⟨B.returns, B.notSynchronized, rfl⟩ s.heap [] ls hP hD va_S.rf hle
section KGC
variable {X : KG} {d mc ms n : Nat} {cc : ByteArray} {own : String} {cells slots pc : Nat} {lv : List (Nat × Value)} {st : List Value} {w : va_W}
variable {d' mc' ms' maxL index np cells' slots' b : Nat} {y : MethodName} {bytes : ByteArray} {av : Nat → List Value} {V : (Nat → ClassId) → Nat → va_W → va_W} {post : (Nat → ClassId) → Nat → va_W → va_W → Prop} {v : va_W}
theorem g_callI (hX : gOk X d mc ms cc n own) (hM : gSem d' mc' ms' y bytes maxL (fun b => [.ref b]) V post) (hv : w = V (gK X) b v) (hc : k_cal d d' maxL 0 y bytes none) (w1 : Cond.methodLink own index y ∈ k_Tg) (w2 : Cond.instanceMethod y ∈ k_Tg) (hy : y.name = "<init>") (hst : (st.map fun v => v.category).sum ≤ 8) (h1 : cells + mc' = cells') (h2 : slots + ms' = slots') (hc1 : cells' ≤ mc) (hs1 : slots' ≤ ms) (hd : decode cc pc = .ok (.invokespecial index, 3)) (h : ∀ u, post (gK X) b v u → gW X cells' slots' (pc + 3) lv st u) : gW X cells slots pc lv (.ref b :: st) w := by
  obtain ⟨⟨p, l, e, R⟩, ⟨s, m, args, below⟩, ⟨meth, c⟩, ⟨D, K, α, z⟩, ⟨Q, nL⟩⟩ := X
  obtain ⟨hx, hb, hml, hnl, hown, hts, hR, hK, hz, hE, hF⟩ := hX
  subst h1 h2 hv
  intro H locs ls hP hD hS hL
  refine va_callv (A1 := gA z) (A0 := gA z) (va_runI (As := []) (rest := st) (n := 0) ⟨hx, hb, hml, hown, hts⟩ (hM l D K α z b v) ⟨callB_of 0 hts (k_goodIn (fun w hw => ?_)) rfl rfl rfl (hts _ hc.2.2.1) (hts _ w1) hc.2.2.2 ⟨?_, ?_⟩, hy, hts _ w2⟩ ⟨g_blind, fun U hU hW => ⟨rfl, by rw [hU]; exact Nat.le_trans hz hS.1, va_K.moved hW.alike hK, by rw [hU]; exact hP, hD, by rw [hU]; exact k_ext.warm hW (fun q h => h) hS.2.1 hE, by rw [hU]; exact hF.kept hW.alike hS.2.1⟩⟩ rfl rfl hL.1 rfl ?_ hd ⟨by omega, by omega⟩) hS (fun q _ h => h) (fun q h => h) (fun u t H1 locs1 ht hvm hp hB hz1 hk1 hS1 => ?_)
  · rcases List.mem_cons.mp hw with rfl | hw
    · exact hc.2.1
    · exact hw
  · show d' + 1 ≤ _
    exact Nat.le_trans hc.1.1 hR.1
  · show 8 + (maxL + 11) + 40 * d' ≤ _
    have := hc.1
    have := hR.2.1
    omega
  · show 2 * 0 + _ ≤ 8
    omega
  · rw [ht] at hB
    exact h u hp H1 locs1 ls hB.1 hB.2 hS1 hL
theorem g_callIN (hX : gOk X d mc ms cc n own) (hM : gSem d' mc' ms' y bytes maxL (fun b => [.ref b]) V post) (hv : w = V (gK X) b v) (hc : k_cal d d' maxL 0 y bytes none) (w1 : Cond.methodLinkNest own index y "KeyPath" ∈ k_nest) (w2 : Cond.instanceMethod y ∈ k_Tg) (hy : y.name = "<init>") (hst : (st.map fun v => v.category).sum ≤ 8) (h1 : cells + mc' = cells') (h2 : slots + ms' = slots') (hc1 : cells' ≤ mc) (hs1 : slots' ≤ ms) (hd : decode cc pc = .ok (.invokespecial index, 3)) (h : ∀ u, post (gK X) b v u → gW X cells' slots' (pc + 3) lv st u) : gW X cells slots pc lv (.ref b :: st) w := by
  obtain ⟨⟨p, l, e, R⟩, ⟨s, m, args, below⟩, ⟨meth, c⟩, ⟨D, K, α, z⟩, ⟨Q, nL⟩⟩ := X
  obtain ⟨hx, hb, hml, hnl, hown, hts, hR, hK, hz, hE, hF⟩ := hX
  subst h1 h2 hv
  intro H locs ls hP hD hS hL
  refine va_callv (A1 := gA z) (A0 := gA z) (va_runIN (As := []) (rest := st) (n := 0) ⟨hx, hb, hml, hown, hts⟩ (hM l D K α z b v) ⟨va_cnB 0 hts (k_goodIn (fun w hw => ?_)) rfl rfl rfl (hE.1 _ w1) (hts _ hc.2.2.1) hc.2.2.2 ⟨?_, ?_⟩, hy, hts _ w2⟩ ⟨g_blind, fun U hU hW => ⟨rfl, by rw [hU]; exact Nat.le_trans hz hS.1, va_K.moved hW.alike hK, by rw [hU]; exact hP, hD, by rw [hU]; exact k_ext.warm hW (fun q h => h) hS.2.1 hE, by rw [hU]; exact hF.kept hW.alike hS.2.1⟩⟩ rfl rfl hL.1 rfl ?_ hd ⟨by omega, by omega⟩) hS (fun q _ h => h) (fun q h => h) (fun u t H1 locs1 ht hvm hp hB hz1 hk1 hS1 => ?_)
  · rcases List.mem_cons.mp hw with rfl | hw
    · exact hc.2.1
    · exact hw
  · show d' + 1 ≤ _
    exact Nat.le_trans hc.1.1 hR.1
  · show 8 + (maxL + 11) + 40 * d' ≤ _
    have := hc.1
    have := hR.2.1
    omega
  · show 2 * 0 + _ ≤ 8
    omega
  · rw [ht] at hB
    exact h u hp H1 locs1 ls hB.1 hB.2 hS1 hL
theorem g_callS (hX : gOk X d mc ms cc n own) (hM : gSem d' mc' ms' y bytes maxL av V post) (hv : w = V (gK X) b v) (hc : k_cal d d' maxL np y bytes none) (hn : (av b).length = np) (w1 : Cond.methodLink own index y ∈ k_Tg) (w2 : Cond.static y ∈ k_Tg) (hst : (st.map fun v => v.category).sum ≤ 8) (h1 : cells + mc' = cells') (h2 : slots + ms' = slots') (hc1 : cells' ≤ mc) (hs1 : slots' ≤ ms) {st0 : List Value} (hs0 : st0 = (av b).reverse ++ st) (hd : decode cc pc = .ok (.invokestatic index, 3)) (h : ∀ u, post (gK X) b v u → gW X cells' slots' (pc + 3) lv st u) : gW X cells slots pc lv st0 w := by
  obtain ⟨⟨p, l, e, R⟩, ⟨s, m, args, below⟩, ⟨meth, c⟩, ⟨D, K, α, z⟩, ⟨Q, nL⟩⟩ := X
  obtain ⟨hx, hb, hml, hnl, hown, hts, hR, hK, hz, hE, hF⟩ := hX
  subst h1 h2 hv
  intro H locs ls hP hD hS hL
  refine va_callv (A1 := gA z) (A0 := gA z) (va_runS (As := av b) (rest := st) (n := np) ⟨hx, hb, hml, hown, hts⟩ (hM l D K α z b v) ⟨callB_of np hts (k_goodIn (fun w hw => ?_)) rfl rfl rfl (hts _ hc.2.2.1) (hts _ w1) hc.2.2.2 ⟨?_, ?_⟩, hts _ w2⟩ ⟨g_blind, fun U hU hW => ⟨rfl, by rw [hU]; exact Nat.le_trans hz hS.1, va_K.moved hW.alike hK, by rw [hU]; exact hP, hD, by rw [hU]; exact k_ext.warm hW (fun q h => h) hS.2.1 hE, by rw [hU]; exact hF.kept hW.alike hS.2.1⟩⟩ rfl hn hL.1 hs0 ?_ hd ⟨by omega, by omega⟩) hS (fun q _ h => h) (fun q h => h) (fun u t H1 locs1 ht hvm hp hB hz1 hk1 hS1 => ?_)
  · rcases List.mem_cons.mp hw with rfl | hw
    · exact hc.2.1
    · exact hw
  · show d' + 1 ≤ _
    exact Nat.le_trans hc.1.1 hR.1
  · show 8 + (maxL + 11) + 40 * d' ≤ _
    have := hc.1
    have := hR.2.1
    omega
  · show 2 * 0 + _ ≤ 8
    omega
  · rw [ht] at hB
    exact h u hp H1 locs1 ls hB.1 hB.2 hS1 hL
/-- the weights' clone -/
theorem g_fw (hX : gOk X d mc ms cc n own) {index : Nat} (wl : Cond.fieldLinkNest own index "KeyPath" "FIRST_WEIGHTS" "[I" "KeyPath" ∈ k_nest) (hd : decode cc pc = .ok (.getstatic index, 3)) (h : gW X cells slots (pc + 3) lv (.ref (gAl X 105) :: st) w) : gW X cells slots pc lv st w := by
  obtain ⟨⟨p, l, e, R⟩, ⟨s, m, args, below⟩, ⟨meth, c⟩, ⟨D, K, α, z⟩, ⟨Q, nL⟩⟩ := X
  obtain ⟨hx, hb, hml, hnl, hown, hts, hR, hK, hz, hE, hF⟩ := hX
  intro H locs ls hP hD hS hL
  exact va_getsN hx hb (hE.2.1 5 (by decide)).1 hS hown (va_Nw.use rfl (hE.1 _ wl)) (fun x h => h) hd (h H locs ls hP hD hS hL)
theorem g_clone (hX : gOk X d mc ms cc n own) {index : Nat} (w1 : Cond.methodLink own index ⟨"[I", "clone", "()Ljava/lang/Object;"⟩ ∈ k_Tg) (w2 : Cond.sameMethod "[I" "java/lang/Object" "clone" "()Ljava/lang/Object;" ∈ k_Tg) (w3 : Cond.native ⟨"java/lang/Object", "clone", "()Ljava/lang/Object;"⟩ ∈ k_Tg) (w4 : Cond.instanceMethod ⟨"java/lang/Object", "clone", "()Ljava/lang/Object;"⟩ ∈ k_Tg) (w5 : Cond.selects "[I" ⟨"[I", "clone", "()Ljava/lang/Object;"⟩ ⟨"java/lang/Object", "clone", "()Ljava/lang/Object;"⟩ ∈ k_Tg) (hd1 : 1 ≤ d) (hst : (st.map fun v => v.category).sum ≤ 8) (h1 : cells + 1 = cells') (h2 : slots + 24 = slots') (hc1 : cells' ≤ mc) (hs1 : slots' ≤ ms) (hd : decode cc pc = .ok (.invokevirtual index, 3)) (h : ∀ q : Nat, gW X cells' slots' (pc + 3) lv (.ref q :: st) ((q, .inl (gK X 1, 24, .inl (fun j => c32 (k_s5 j)))) :: w)) : gW X cells slots pc lv (.ref (gAl X 105) :: st) w := by
  obtain ⟨⟨p, l, e, R⟩, ⟨s, m, args, below⟩, ⟨meth, c⟩, ⟨D, K, α, z⟩, ⟨Q, nL⟩⟩ := X
  obtain ⟨hx, hb, hml, hnl, hown, hts, hR, hK, hz, hE, hF⟩ := hX
  subst h1 h2
  intro H locs ls hP hD hS hL
  obtain ⟨⟨cell, g1, g2, g3, g4, g5⟩, cC, f2, f3⟩ := hF.kept (U := s) (Vm.Alike.refl s.vm) hS.2.1
  have hsl : cell.slots = (vp_cell (K 1) (24, .inl (fun j => c32 (k_s5 j)))).slots := by rw [← g5]
  have hcl : cell.cls = K 1 := by
    have : cell.cls = (vp_cell (K 1) (24, .inl (fun j => c32 (k_s5 j)))).cls := by rw [← g5]
    exact this
  have hsz : cell.slots.size = 24 := by rw [hsl]; exact arrV_size _ _ _
  have hnm : s.vm.findClass "[I" = some (K 1) := (hK.2 1 _ rfl).2
  intro T hT X
  obtain ⟨-, kA, hkA, comp, hkind⟩ := State.isArrayOf_alike X.warmed.alike ((hK.2 1 _ rfl).1 0 (fun _ => .null))
  obtain ⟨-, kS, hkS, compS, hkindS⟩ := (hK.2 1 _ rfl).1 0 (fun _ => .null)
  obtain ⟨vm', X', st'⟩ := X.cloneArray hx hown (hts _ w1) (hts _ w2) (hts _ w3) (hts _ w4) (hts _ w5) (a := α 105) (cell := cell) (by rw [hT]; exact g1) g3 g4 (by rw [hcl]; exact hnm) f2 (by rw [hcl]; exact f3)
    (fun i v hv => by
      rw [hcl]
      have hk' : T.vm.classes[K 1]? = some kA := hkA
      have hv2 : fits .int v = true := by
        rw [hsl] at hv
        by_cases hi : i < 24
        · have := (arrV_read (K 1) (fun j => .int (c32 (k_s5 j))) hi).symm.trans hv
          cases this
          rfl
        · rw [Array.getElem?_eq_none (by rw [show (vp_cell (K 1) (24, .inl (fun j => c32 (k_s5 j)))).slots.size = 24 from arrV_size _ _ _]; omega)] at hv
          cases hv
      simpa [State.fitsSlot, State.slotType?, hk', hkind] using hv2)
    (g := F0 m pc ls (.ref (α 105) :: st)) rfl (by show ls.size = _; rw [hml]; exact hL.1) rfl (by rw [hb]; exact hd) (by omega) (by show 2 * 0 + _ + 14 ≤ _; omega) (by omega) (by rw [hsz]; omega) (hloader := by rw [hcl]; exact Vm.clonesLoader_of_array hkS hkindS)
  rw [g5, hsz] at X'
  generalize hH1 : H.push (vp_cell (K 1) (24, .inl (fun j => c32 (k_s5 j)))) = H1
  have z1 : H1.size = H.size + 1 := by rw [← hH1, Array.size_push]
  have e1 : H1[H.size]? = some (vp_cell (K 1) (24, .inl (fun j => c32 (k_s5 j)))) := by rw [← hH1, Array.getElem?_push_size]
  have o1 : ∀ q : Nat, q < H.size → H1[q]? = H[q]? := fun q hq => by rw [← hH1, Array.getElem?_push, if_neg (Nat.ne_of_lt hq)]
  have hk : ∀ (k : Nat) (y : Nat × va_E), w[k]? = some y → H1[y.1]? = H[y.1]? := fun k y hy => o1 y.1 ((hP k y hy).lt)
  obtain ⟨t, b1, b2⟩ := h H.size H1 locs ls (g_P ((hP.kept hk).app (fun k y hy => by
      have hz : k < 1 := (List.getElem?_eq_some_iff.mp hy).1
      rw [show k = 0 by omega] at hy
      cases hy
      exact e1))) (g_D (hD.push hP rfl (Nat.le_trans hz hS.1))) ⟨Nat.le_trans hS.1 (by omega), fun y h1 h2 => (o1 y (Nat.lt_of_lt_of_le h1 hS.1)).trans (hS.2.1 y h1 h2), hS.2.2⟩ hL
    ((T.setVm vm').pushCell (vp_cell (K 1) (24, .inl (fun j => c32 (k_s5 j))))) (by rw [← hH1, ← hT]; rfl) X'
  refine ⟨t, st' t ?_, b2⟩
  rw [g5, hT]
  exact b1
theorem g_cast (hX : gOk X d mc ms cc n own) {index a q0 N : Nat} {f : Nat → Int32} (w1 : Cond.classLink own index "[I" ∈ k_Tg) (he : w[q0]? = some (a, .inl (gK X 1, N, .inl f))) (hd : decode cc pc = .ok (.checkcast index, 3)) (h : gW X cells slots (pc + 3) lv (.ref a :: st) w) : gW X cells slots pc lv (.ref a :: st) w := by
  obtain ⟨⟨p, l, e, R⟩, ⟨s, m, args, below⟩, ⟨meth, c⟩, ⟨D, K, α, z⟩, ⟨Q, nL⟩⟩ := X
  obtain ⟨hx, hb, hml, hnl, hown, hts, hR, hK, hz, hE, hF⟩ := hX
  intro H locs ls hP hD hS hL
  exact va_castA hx hb hown (hts _ w1) hP q0 (cA := K 1) (x := (N, .inl f)) he (hK.2 1 _ rfl).2 hd (h H locs ls hP hD hS hL)
end KGC
