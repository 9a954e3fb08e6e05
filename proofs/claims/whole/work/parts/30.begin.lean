/-! ===== what stands at the law's entry ===== -/
theorem b_tab {args : Array Value} {s : State} (hts : ∀ w ∈ lw_tbl, w.before args s = true) : ∀ w ∈ k_Tg, w.before args s = true := fun w hw => hts w (List.mem_filter.mp hw).1
theorem b_word {args : Array Value} {s : State} (hts : ∀ w ∈ lw_tbl, w.before args s = true) (i : Nat) {w : Cond} (h : tables_1[i]? = some w) : w.before args s = true := hts w (List.mem_append_right _ (List.mem_of_getElem? h))
theorem b_classes {args : Array Value} {s : State} (hts : ∀ w ∈ lw_tbl, w.before args s = true) : ∃ D : va_G, ∀ (c : Nat) (q : vw_C), k_cls[c]? = some q → u_Kn s q.1 q.2.1 q.2.2 (D.1 c) (D.2 c) := by
  have h : ∀ c : Nat, ∃ x : ClassId × (Nat → Nat), ∀ q : vw_C, k_cls[c]? = some q → u_Kn s q.1 q.2.1 q.2.2 x.1 x.2 := by
    intro c
    have ht := b_tab hts
    match c with
    | 0 => obtain ⟨cC, iS, hk⟩ := u_known ht k_lay0 (n := 8) (b_word hts 19 (by decide +kernel)); exact ⟨(cC, iS), fun q hq => by cases hq; exact hk⟩
    | 1 => obtain ⟨cC, iS, hk⟩ := u_known ht k_lay1 (n := 10) (b_word hts 27 (by decide +kernel)); exact ⟨(cC, iS), fun q hq => by cases hq; exact hk⟩
    | 2 => obtain ⟨cC, iS, hk⟩ := u_known ht k_lay2 (n := 4) (b_word hts 33 (by decide +kernel)); exact ⟨(cC, iS), fun q hq => by cases hq; exact hk⟩
    | 3 => obtain ⟨cC, iS, hk⟩ := u_known ht k_lay3 (n := 6) (b_word hts 99 (by decide +kernel)); exact ⟨(cC, iS), fun q hq => by cases hq; exact hk⟩
    | 4 => obtain ⟨cC, iS, hk⟩ := u_known ht k_lay4 (n := 7) (b_word hts 125 (by decide +kernel)); exact ⟨(cC, iS), fun q hq => by cases hq; exact hk⟩
    | 5 => obtain ⟨cC, iS, hk⟩ := u_known ht k_lay5 (n := 4) (b_word hts 165 (by decide +kernel)); exact ⟨(cC, iS), fun q hq => by cases hq; exact hk⟩
    | 6 => obtain ⟨cC, iS, hk⟩ := u_known ht k_lay6 (n := 8) (b_word hts 198 (by decide +kernel)); exact ⟨(cC, iS), fun q hq => by cases hq; exact hk⟩
    | 7 => obtain ⟨cC, iS, hk⟩ := u_known ht k_lay7 (n := 16) (b_word hts 237 (by decide +kernel)); exact ⟨(cC, iS), fun q hq => by cases hq; exact hk⟩
    | 8 => obtain ⟨cC, iS, hk⟩ := u_known ht k_lay8 (n := 6) (b_word hts 312 (by decide +kernel)); exact ⟨(cC, iS), fun q hq => by cases hq; exact hk⟩
    | 9 => obtain ⟨cC, iS, hk⟩ := u_known ht k_lay9 (n := 42) (b_word hts 982 (by decide +kernel)); exact ⟨(cC, iS), fun q hq => by cases hq; exact hk⟩
    | n + 10 => exact ⟨(0, fun _ => 0), fun q hq => by cases hq⟩
  obtain ⟨f, hf⟩ := Classical.axiomOfChoice h
  exact ⟨(fun c => (f c).1, fun c => (f c).2), fun c q hq => hf c q hq⟩
theorem b_arr {args : Array Value} {s : State} {ty : FieldType} (h : (Cond.arrayClass ty).before args s = true) (hRA : ∀ cA, s.vm.findClass ("[" ++ ty.toString) = some cA → va_RA s cA ty) : ∃ cA, ArrOfT s cA ty ∧ va_RA s cA ty := by
  obtain ⟨cA, kA, comp, h1, h2, h3⟩ := Cond.arrayClass_spec h
  exact ⟨cA, fun n z => ⟨fun k h => (by cases h), kA, h2, comp, h3⟩, hRA cA h1⟩
theorem b_K {args : Array Value} {s : State} (hts : ∀ w ∈ lw_tbl, w.before args s = true) : ∃ (D : va_G) (K : Nat → ClassId), va_K D k_cls (k_tys K) s := by
  obtain ⟨D, hD⟩ := b_classes hts
  obtain ⟨ci, a1, a2⟩ := b_arr (ty := .int) (b_word hts 60 (by decide +kernel)) (fun _ h => h)
  obtain ⟨cb, b1, b2⟩ := b_arr (ty := .byte) (b_word hts 972 (by decide +kernel)) (fun _ h => h)
  obtain ⟨cz, c1, c2⟩ := b_arr (ty := .boolean) (b_word hts 310 (by decide +kernel)) (fun _ h => h)
  refine ⟨D, fun t => if t = 2 then cb else if t = 3 then cz else ci, hD, fun k q hk => ?_⟩
  match k, hk with
  | 0, hk => cases hk; exact ⟨a1, a2⟩
  | 1, hk => cases hk; exact ⟨a1, a2⟩
  | 2, hk => cases hk; exact ⟨b1, b2⟩
  | 3, hk => cases hk; exact ⟨c1, c2⟩
  | n + 4, hk => cases hk
/-- the parts of what is given -/
def b_giv : List Cond := flatC (Jvm.Cond.and given_1 narrow_1)
abbrev b_st (i : Nat) : Term := .static "KeyPath" (k_sn i) "[I"
theorem b_g1 : ∀ i, i < 6 → Cond.arrayOf (b_st i) .int ∈ b_giv := by decide +kernel
theorem b_g2 : ∀ i, i < 6 → Cond.eq (.length (b_st i)) (.int (Int32.ofNat (k_sl i))) ∈ b_giv := by decide +kernel
theorem b_g3 : ∀ i, i < 6 → ∀ j, j < k_sl i → Cond.eq (.elem (b_st i) (.int (Int32.ofNat j))) (.int (c32 (k_sv i j))) ∈ b_giv := by decide +kernel
theorem b_g4 : Cond.exactly (b_st 5) "[I" ∈ b_giv := by decide +kernel
theorem b_l : ∀ i, i < 6 → Cond.laysStatic "KeyPath" (k_sn i) "[I" ∈ tables_1 := by
  intro i hi
  match i with
  | 0 => exact List.mem_of_getElem? (i := 871) (by decide +kernel)
  | 1 => exact List.mem_of_getElem? (i := 874) (by decide +kernel)
  | 2 => exact List.mem_of_getElem? (i := 570) (by decide +kernel)
  | 3 => exact List.mem_of_getElem? (i := 572) (by decide +kernel)
  | 4 => exact List.mem_of_getElem? (i := 438) (by decide +kernel)
  | 5 => exact List.mem_of_getElem? (i := 171) (by decide +kernel)
def b_tx (i : Nat) : Nat := if i = 0 then 316 else 324
abbrev b_sr (i : Nat) : Term := .string "KeyPath" (b_tx i)
theorem b_x1 : ∀ i, i < 2 → Cond.exactly (b_sr i) "java/lang/String" ∈ b_giv := by decide +kernel
theorem b_x2 : ∀ i, i < 2 → Cond.eq (.field (b_sr i) "java/lang/String" "coder" "B") (.int 0) ∈ b_giv := by decide +kernel
theorem b_x3 : ∀ i, i < 2 → Cond.arrayOf (.field (b_sr i) "java/lang/String" "value" "[B") .byte ∈ b_giv := by decide +kernel
theorem b_x4 : ∀ i, i < 2 → Cond.eq (.length (.field (b_sr i) "java/lang/String" "value" "[B")) (.int (Int32.ofNat (([12, 12] : List Nat).getD i 0))) ∈ b_giv := by decide +kernel
theorem b_x5 : ∀ i, i < 2 → ∀ j, j < ([12, 12] : List Nat).getD i 0 → Cond.eq (.elem (.field (b_sr i) "java/lang/String" "value" "[B") (.int (Int32.ofNat j))) (.int ((([k_t0, k_t1] : List (List Int32)).getD i []).getD j 0)) ∈ b_giv := by decide +kernel
theorem b_x6 : Cond.not (Cond.eq (b_sr 0) (b_sr 1)) ∈ b_giv := by decide +kernel
theorem b_x7 : Cond.eq (.static "java/lang/String" "COMPACT_STRINGS" "Z") (.int 1) ∈ b_giv := by decide +kernel
theorem b_x8 : Cond.isRef (.static "jdk/internal/util/Preconditions" "SIOOBE_FORMATTER" "Ljava/util/function/BiFunction;") ∈ b_giv := by decide +kernel
theorem b_n : ∀ w ∈ k_nest, w ∈ tables_1 := by decide +kernel
theorem b_no : ∀ w ∈ k_nest, w.onTables = true := by decide +kernel
theorem b_sl : ∀ i, k_sl i < 2 ^ 31 := by
  intro i
  unfold k_sl
  split <;> decide
theorem b_lt {args : Array Value} {s : State} {tm : Term} {a : Nat} {cell : Cell} {v : Value} (ev : tm.eval args s none [] s = some (.ref a)) (g2 : s.arrayAt? a = some cell) (h : (Term.length tm).eval args s none [] s = some v) : cell.slots.size < 2 ^ 31 := by
  simp only [Term.eval, ev, g2, Option.bind_eq_bind, Option.bind_some] at h
  by_cases hlt : cell.slots.size < 2147483648
  · exact hlt
  · simp [hlt] at h
theorem b_begin {s : State} {b : Nat} (hts : ∀ w ∈ lw_tbl, w.before #[Value.ref b] s = true) (hg : (Jvm.Cond.and given_1 narrow_1).before #[Value.ref b] s = true) {D : va_G} {K : Nat → ClassId} (hK : va_K D k_cls (k_tys K) s) : ∃ α : Nat → Nat, α 120 = b ∧ k_ext α (gA s.heap.size) s s.heap ∧ gFW α K s.heap.size s s.heap := by
  have hs : ∀ c ∈ b_giv, c.before #[Value.ref b] s = true := flat_of_before _ hg
  have hA : ∀ a : Nat, a < s.heap.size → ¬ gA s.heap.size a := fun a h => Nat.not_le.mpr h
  have hst : ∀ i : Nat, ∃ t : Nat, i < 6 → (b_st i).eval #[Value.ref b] s none [] s = some (.ref t) ∧ va_T .int t (k_sl i) (fun j => .int (c32 (k_sv i j))) (gA s.heap.size) s s.heap := by
    intro i
    by_cases hi : i < 6
    · obtain ⟨t, h1, h2⟩ := va_Tof (tm := b_st i) (f := fun j => .int (c32 (k_sv i j))) (A := gA s.heap.size) (b_sl i) (hs _ (b_g1 i hi)) (va_eqt (hs _ (b_g2 i hi))) (fun j hj => va_eqt (hs _ (b_g3 i hi j hj))) hA
      exact ⟨t, fun _ => ⟨h1, h2⟩⟩
    · exact ⟨0, fun h => absurd h hi⟩
  obtain ⟨ad, had⟩ := Classical.axiomOfChoice hst
  obtain ⟨adK, adV, hS, hR⟩ := vk_Sof (s := s) (args := #[Value.ref b]) (N := 2) (tm := b_sr) (len := [12, 12]) (byt := [k_t0, k_t1]) (A := gA s.heap.size) (by decide) (fun i hi => hs _ (b_x1 i hi)) (fun i hi => hs _ (b_x2 i hi)) (fun i hi => hs _ (b_x3 i hi)) (fun i hi => hs _ (b_x4 i hi)) (fun i hi j hj => hs _ (b_x5 i hi j hj))
    (fun i j hi hj hij => by
      rcases (show (i = 0 ∧ j = 1) ∨ (i = 1 ∧ j = 0) by omega) with ⟨rfl, rfl⟩ | ⟨rfl, rfl⟩
      · exact Or.inl (hs _ b_x6)
      · exact Or.inr (hs _ b_x6)) hA
  obtain ⟨α, hα⟩ : ∃ α : Nat → Nat, α = fun c => if c < 106 then ad (c - 100) else if c < 112 then adK (c - 110) else if c < 120 then adV (c - 112) else b := ⟨_, rfl⟩
  have e1 : ∀ i, i < 6 → α (100 + i) = ad i := by
    intro i hi
    rw [hα]
    dsimp only
    rw [if_pos (by omega)]
    congr 1
    omega
  have e2 : ∀ i, i < 2 → α (110 + i) = adK i := by
    intro i hi
    rw [hα]
    dsimp only
    rw [if_neg (by omega), if_pos (by omega)]
    congr 1
    omega
  have e3 : ∀ i, i < 2 → α (112 + i) = adV i := by
    intro i hi
    rw [hα]
    dsimp only
    rw [if_neg (by omega), if_neg (by omega), if_pos (by omega)]
    congr 1
    omega
  have hT : ∀ i, i < 6 → va_Z "KeyPath" (k_sn i) "[I" (.ref (α (100 + i))) (gA s.heap.size) s s.heap ∧ va_T .int (α (100 + i)) (k_sl i) (fun j => .int (c32 (k_sv i j))) (gA s.heap.size) s s.heap := by
    intro i hi
    rw [e1 i hi]
    exact ⟨va_Zof (hts _ (List.mem_append_right _ (b_l i hi))) (b_word hts 1 (by decide +kernel)) (had i hi).1 hA, (had i hi).2⟩
  refine ⟨α, by rw [hα]; rfl, ⟨fun w hw => va_Nw.of (b_no w hw) (hts w (List.mem_append_right _ (b_n w hw))), hT, ⟨?_, ?_⟩, ⟨fun i hi => ?_, fun i j hi hj h => ?_⟩, ?_, ?_⟩, ?_⟩
  · rw [show α 110 = adK 0 from e2 0 (by decide)]
    exact vk_R.of (b_word hts 930 (by decide +kernel)) (hR 0 (by decide))
  · rw [show α 111 = adK 1 from e2 1 (by decide)]
    exact vk_R.of (b_word hts 971 (by decide +kernel)) (hR 1 (by decide))
  · dsimp only
    rw [e2 i hi, e3 i hi]
    exact hS.1 i hi
  · dsimp only at h
    rw [e2 i hi, e2 j hj] at h
    exact hS.2 i j hi hj h
  · exact va_Zof (b_word hts 940 (by decide +kernel)) (b_word hts 14 (by decide +kernel)) (va_eqi (hs _ b_x7)) hA
  · exact va_Zqof (b_word hts 948 (by decide +kernel)) (b_word hts 16 (by decide +kernel)) (hs _ b_x8) hA
  · obtain ⟨c, t, f1, f2, f3⟩ := Cond.castable_spec (b_word hts 177 (w := Cond.castable "[I" "java/lang/Cloneable") (by decide +kernel))
    have hnm : s.vm.findClass "[I" = some (K 1) := (hK.2 1 _ rfl).2
    cases hnm.symm.trans f1
    refine ⟨?_, t, f2, f3⟩
    obtain ⟨a, c2, cell2, k2, q1, q2, q3, q4, q5, q6, -⟩ := Cond.exactly_spec (args := #[Value.ref b]) (first := s) (o := none) (s := s) (idx := []) (t := b_st 5) (cls := "[I") (hs _ b_g4)
    obtain ⟨ev, cell, h1, h2, h3, h4, h5, h6, h7⟩ := had 5 (by decide)
    cases ev.symm.trans q1
    have hce : cell2 = cell := Option.some.inj (q3.symm.trans h1)
    rw [hce] at q5 q6
    cases hnm.symm.trans q2
    have hlen : (Term.length (b_st 5)).eval #[Value.ref b] s none [] s = some (.int (Int32.ofNat 24)) := va_eqt (hs _ (b_g2 5 (by decide)))
    have hlt : cell.slots.size < 2 ^ 31 := by
      obtain ⟨a', cell', g1, g2, -⟩ := Term.length_spec hlen
      cases ev.symm.trans g1
      have g3 := (State.arrayAt?_spec g2).1
      have hcf : cell' = cell := Option.some.inj (g3.symm.trans h1)
      rw [hcf] at g2
      exact b_lt ev g2 hlen
    have hsz : cell.slots.size = 24 := by
      have g := congrArg Int32.toNatClampNeg h5
      have g1 : (Nat.toInt32 cell.slots.size).toNatClampNeg = cell.slots.size := nI_clamp hlt
      rw [g1] at g
      exact g.trans (by decide)
    have e5 : α 105 = ad 5 := e1 5 (by decide)
    refine ⟨cell, by rw [e5]; exact h1, by rw [e5]; exact (Array.getElem?_eq_some_iff.mp h1).1, fun k hk => ?_, h3, ?_⟩
    · rw [hk] at q5
      cases q5
    · have hsl : cell.slots = (arrV (K 1) 24 (fun j => .int (c32 (k_s5 j)))).slots := by
        apply Array.ext_getElem?
        intro i
        by_cases hi : i < 24
        · rw [h6 i hi, arrV_read _ _ hi]
          rfl
        · rw [Array.getElem?_eq_none (by omega), Array.getElem?_eq_none (by rw [arrV_size]; omega)]
      rw [vp_cell_i, hsl, q6]
      rfl
