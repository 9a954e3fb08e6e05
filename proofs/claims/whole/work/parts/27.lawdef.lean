/-! THE CLAIM OUT OF ONE WALK OF THE LAW'S BODY. Your part is whole_start (and what it stands on); all else here is the same for every law, but numbers. -/
def R_law : String := "KeyPathLaw"
def lw_P (b : Addr) (xs : List Int32) (args : Array Value) (s : State) : Prop := args = #[.ref b] ∧ s.IntsAt b xs ∧ xs.length ≤ 3072 ∧ (Jvm.Cond.and given_1 narrow_1).before args s = true
def lw_Q (_ : Array Value) (s : State) (o : Outcome) (t : State) : Prop := o = .returned (some (.int 1)) ∧ Framed s o t [] 600000 7302250
def lw_Z (below : List Frame) (a : Array Value) (s : State) : State → Prop := fun t => ∃ o, t.status = .running ∧ Ended t below o ∧ lw_Q a s o t
/-- the law's own end, with 1 on the stack, nothing written that was there before, its room as the claim has it -/
theorem lw_ret {p : Program} {l : Launch} {e : Env} {s : State} {m : MethodId} {below : List Frame} {meth : Method} {c : Code} {b : Nat} (hx : p.tables.exec = Jvm.exec) (hb : c.code = code) (hr : meth.sig.returnType = ret) (hlocks : meth.locks = false) {pc : Nat} {H : Heap} {ls : Array Slot} (hdg : decode code pc = .ok (.ireturn, 1)) : W p l e room_1 s m #[Value.ref b] below meth c H [] 600000 7302250 (lw_Z below #[Value.ref b] s) (F0 m pc ls [.int 1]) := by
  intro T hT X
  obtain ⟨fs, hret, hrun, hended, hW, hframe⟩ := X.leave (v := some (.int 1)) (hlocks := hlocks) (fun h => by rw [hr] at h; cases h)
  have hmeth' : T.vm.method? m = some meth := X.method'
  refine ⟨T.setFrames fs, ?_, .returned (some (.int 1)), hrun, hended, rfl, ⟨_, rfl⟩, hW, hframe⟩
  jvm_step X.here [X.here.top, hx, hb, hdg, hmeth', hr, ret, narrow_b1]
  (try refine ⟨rfl, ?_⟩); (try refine ⟨rfl, ?_⟩)
  first | (intro acts; rw [hret _ acts rfl rfl rfl]) | rw [hret _ _ rfl rfl rfl]
  exact Steps.refl _
/-- what holds at the law's entry: the machine, the code, the tables' words (any of lw_tbl by 'hts w (by decide +kernel)'), the script of L ints xs at the cell b, what the Statement gives of the start (any of its parts by flat_of_before) -/
def lw_At (p : Program) (s : State) (m : MethodId) (meth : Method) (c : Code) (b L : Nat) (xs : Nat → Int32) : Prop :=
  p.tables.exec = Jvm.exec ∧ c.code = code ∧ meth.sig.returnType = ret ∧ c.maxLocals = 4 ∧ s.vm.findClass R_law = some m.cls ∧ (∀ w ∈ lw_tbl, w.before #[Value.ref b] s = true) ∧ va_X b L xs s s.heap ∧ b < s.heap.size ∧ meth.locks = false ∧ (Jvm.Cond.and given_1 narrow_1).before #[Value.ref b] s = true
/-! ===== the script's rows, the law's end ===== -/
def kSc {Z : Type} (nS : Int) (xS : Int → Int) (i : Int) (G : Int → Option Z) : Option Z := if 0 ≤ i ∧ i < nS then G (xS i) else none
def kSame {Z : Type} (a b : Int) (T : Option Z) : Option Z := if a = b then T else none
def kScr : KC → Int → (Int → Int) → Prop
  | ((_, _, _, _), (s, _, _, _), _, (_, _, α, A), _), nS, xS => ∃ N : Nat, (N : Int) = nS ∧ N < 2147483648 ∧ va_X (α 120) N (fun j => c32 (xS (j : Int))) s s.heap ∧ α 120 < s.heap.size ∧ ¬ A (α 120)
def kRetM : KC → Int × KM → Prop
  | ((_, _, _, R), (s, _, args, below), (meth, _), (_, _, α, A), (Q, cells, slots, _)), q => q.1 = 1 ∧ meth.sig.returnType = ret ∧ meth.locks = false ∧ R = room_1 ∧ args = #[Value.ref (α 120)] ∧ (A = fun q => s.heap.size ≤ q) ∧ cells ≤ 600000 ∧ slots ≤ 7302250 ∧ Q = lw_Z below #[Value.ref (α 120)] s
def kRetL (X : KC) (nS : Int) (xS : Int → Int) (q : Int × KM) : Prop := kScr X nS xS ∧ kRetM X q
section KLW
variable {X : KC} {d n : Nat} {cc : ByteArray} {own : String} {pc : Nat} {L : List (Option KV)} {st : List KV} {σ : KM} {Z : Type} {F : Option Z} {Θ : Z → Prop} {nS : Int} {xS : Int → Int}
theorem k_sld (hX : kOk X d cc n own) (hC : kScr X nS xS) {i : Int} {G : Int → Option Z} (hd : decode cc pc = .ok (.iaload, 1)) (h : ∀ y, kJ X (pc + 1) L (ki y :: st) σ (G y) Θ) : kJ X pc L (ki i :: kr 120 :: st) σ (kSc nS xS i G) Θ := by
  obtain ⟨⟨p, l, e, R⟩, ⟨s, m, args, below⟩, ⟨meth, cd⟩, ⟨D, K, α, A⟩, ⟨Q, cells, slots, nL⟩⟩ := X
  obtain ⟨hx, hb, hml, hnl, hown, hts, hR, hK, hA, hAc, hinj, hE⟩ := hX
  obtain ⟨N, c1, c2, c3, c4, c5⟩ := hC
  intro z hF hz H locs ls hP hS hL
  unfold kSc at hF
  split at hF
  · rename_i hi
    refine va_sld hx hb c3 c4 c5 hS (i := c32 i) (c32_in hi.1 (by omega) c2) hd ?_
    have h9 := h _ z hF hz H locs ls hP hS hL
    rw [c32_clamp hi.1 (by omega)]
    have e1 : ((i.toNat : Nat) : Int) = i := by omega
    rw [e1]
    exact h9
  · cases hF
theorem k_same (hX : kOk X d cc n own) {a b : Int} {off : Int} {tgt : Nat} (hd : decode cc pc = .ok (.if_icmp .eq off, 3)) (ht : (pc : Int) + off = (tgt : Int)) (h : kJ X tgt L st σ F Θ) : kJ X pc L (ki b :: ki a :: st) σ (kSame a b F) Θ := by
  obtain ⟨⟨p, l, e, R⟩, ⟨s, m, args, below⟩, ⟨meth, cd⟩, ⟨D, K, α, A⟩, ⟨Q, cells, slots, nL⟩⟩ := X
  obtain ⟨hx, hb, hml, hnl, hown, hts, hR, hK, hA, hAc, hinj, hE⟩ := hX
  intro z hF hz H locs ls hP hS hL
  unfold kSame at hF
  split at hF
  · rename_i hi
    subst hi
    exact lv_icmp_eq hx hb hd ht (fun _ => h z hF hz H locs ls hP hS hL) (fun q => absurd rfl q)
  · cases hF
theorem k_slen (hX : kOk X d cc n own) (hC : kScr X nS xS) (hd : decode cc pc = .ok (.arraylength, 1)) (h : kJ X (pc + 1) L (ki nS :: st) σ F Θ) : kJ X pc L (kr 120 :: st) σ F Θ := by
  obtain ⟨⟨p, l, e, R⟩, ⟨s, m, args, below⟩, ⟨meth, cd⟩, ⟨D, K, α, A⟩, ⟨Q, cells, slots, nL⟩⟩ := X
  obtain ⟨hx, hb, hml, hnl, hown, hts, hR, hK, hA, hAc, hinj, hE⟩ := hX
  obtain ⟨N, c1, c2, c3, c4, c5⟩ := hC
  intro z hF hz H locs ls hP hS hL
  refine va_slen hx hb c3 c4 c5 hS hd ?_
  have h9 := h z hF hz H locs ls hP hS hL
  rw [← c1] at h9
  have e1 : (Int32.ofNat N) = c32 (N : Int) := Int32.ofInt_eq_ofNat.symm
  rw [e1]
  exact h9
theorem k_lret (hX : kOk X d code n own) {r : Int} {q : Int × KM} (hR9 : kRetL X nS xS q) {Θ : Int × KM → Prop} (hT : ∀ z, Θ z → z = q) (hd : decode code pc = .ok (.ireturn, 1)) : kJ X pc L [ki r] σ (kRetZ r σ) Θ := by
  obtain ⟨⟨p, l, e, R⟩, ⟨s, m, args, below⟩, ⟨meth, cd⟩, ⟨D, K, α, A⟩, ⟨Q, cells, slots, nL⟩⟩ := X
  obtain ⟨hx, hb, hml, hnl, hown, hts, hR, hK, hA, hAc, hinj, hE⟩ := hX
  intro z hF hz H locs ls hP hS hL
  obtain ⟨-, r1, r2, r3, r4, r5, r6, r7, r8, r9⟩ := hR9
  have hz := hT _ hz
  unfold kRetZ at hF
  split at hF
  · cases hF
    subst hz r4 r5 r6 r9
    have r1 : r = 1 := r1
    subst r1
    refine va_forget (fun q hq => hS.2.2 q hq) ?_
    exact W.widen r7 r8 (lw_ret hx hb r2 r3 hd)
  · cases hF
end KLW
def fLaw_law_120_J1418 (nS : Int) (xS : Int → Int) (σ : KM) : Option (Int × KM) :=
  kRetZ 1 σ
def fLaw_law_120_J1412 (nS : Int) (xS : Int → Int) (x3 : Int) (σ : KM) : Option ((Int × KM) ⊕ (Int × KM)) :=
  kLet (x3 + 6) fun y1 =>
  some (.inl (y1, σ))
def fLaw_law_120_B18 (nS : Int) (xS : Int → Int) (x3 : Int) (σ : KM) : Option ((Int × KM) ⊕ (Int × KM)) :=
  kLt (nS - 6) x3
    (kExit (fLaw_law_120_J1418 nS xS σ))
    (kSc nS xS x3 fun y1 =>
     kAnd y1 63 fun y2 =>
     kSw y2 0 [
       kSc nS xS (x3 + 1) fun y3 =>
       kSc nS xS (x3 + 2) fun y4 =>
       kSc nS xS (x3 + 3) fun y5 =>
       kSc nS xS (x3 + 4) fun y6 =>
       kSc nS xS (x3 + 5) fun y7 =>
       kCall (fP_feed y3 y4 y5 y6 y7 σ) fun r9 τ8 =>
       kSc nS xS (x3 + 1) fun y10 =>
       kSc nS xS (x3 + 2) fun y11 =>
       kSc nS xS (x3 + 3) fun y12 =>
       kSc nS xS (x3 + 4) fun y13 =>
       kSc nS xS (x3 + 5) fun y14 =>
       kCall (fM_feed y10 y11 y12 y13 y14 τ8) fun r16 τ15 =>
       kSame r9 r16
         (fLaw_law_120_J1412 nS xS x3 τ15),
       kSc nS xS (x3 + 1) fun y17 =>
       kCall (fP_load y17 σ) fun r19 τ18 =>
       kSc nS xS (x3 + 1) fun y20 =>
       kCall (fM_load y20 τ18) fun r22 τ21 =>
       kSame r19 r22
         (fLaw_law_120_J1412 nS xS x3 τ21),
       kSc nS xS (x3 + 1) fun y23 =>
       kCall (fP_fault y23 σ) fun r25 τ24 =>
       kSc nS xS (x3 + 1) fun y26 =>
       kCall (fM_fault y26 τ24) fun r28 τ27 =>
       kSame r25 r28
         (fLaw_law_120_J1412 nS xS x3 τ27),
       kSc nS xS (x3 + 1) fun y29 =>
       kSc nS xS (x3 + 2) fun y30 =>
       kSc nS xS (x3 + 3) fun y31 =>
       kCall (fP_put y29 y30 y31 σ) fun r33 τ32 =>
       kSc nS xS (x3 + 1) fun y34 =>
       kSc nS xS (x3 + 2) fun y35 =>
       kSc nS xS (x3 + 3) fun y36 =>
       kCall (fM_put y34 y35 y36 τ32) fun r38 τ37 =>
       kSame r33 r38
         (fLaw_law_120_J1412 nS xS x3 τ37),
       kSc nS xS (x3 + 1) fun y39 =>
       kCall (fP_drop y39 σ) fun r41 τ40 =>
       kSc nS xS (x3 + 1) fun y42 =>
       kCall (fM_drop y42 τ40) fun r44 τ43 =>
       kSame r41 r44
         (fLaw_law_120_J1412 nS xS x3 τ43),
       kSc nS xS (x3 + 1) fun y45 =>
       kCall (fP_shift y45 σ) fun r47 τ46 =>
       kSc nS xS (x3 + 1) fun y48 =>
       kCall (fM_shift y48 τ46) fun r50 τ49 =>
       kSame r47 r50
         (fLaw_law_120_J1412 nS xS x3 τ49),
       kCall (fP_undo σ) fun r52 τ51 =>
       kCall (fM_undo τ51) fun r54 τ53 =>
       kSame r52 r54
         (fLaw_law_120_J1412 nS xS x3 τ53),
       kSc nS xS (x3 + 1) fun y55 =>
       kSc nS xS (x3 + 2) fun y56 =>
       kCall (fP_note y55 y56 σ) fun r58 τ57 =>
       kSc nS xS (x3 + 1) fun y59 =>
       kSc nS xS (x3 + 2) fun y60 =>
       kCall (fM_note y59 y60 τ57) fun r62 τ61 =>
       kSame r58 r62
         (fLaw_law_120_J1412 nS xS x3 τ61),
       kSc nS xS (x3 + 1) fun y63 =>
       kSc nS xS (x3 + 2) fun y64 =>
       kCall (fP_windows y63 y64 σ) fun r66 τ65 =>
       kSc nS xS (x3 + 1) fun y67 =>
       kSc nS xS (x3 + 2) fun y68 =>
       kCall (fM_windows y67 y68 τ65) fun r70 τ69 =>
       kSame r66 r70
         (fLaw_law_120_J1412 nS xS x3 τ69),
       kSc nS xS (x3 + 1) fun y71 =>
       kSc nS xS (x3 + 2) fun y72 =>
       kSc nS xS (x3 + 3) fun y73 =>
       kCall (fP_weight y71 y72 y73 σ) fun r75 τ74 =>
       kSc nS xS (x3 + 1) fun y76 =>
       kSc nS xS (x3 + 2) fun y77 =>
       kSc nS xS (x3 + 3) fun y78 =>
       kCall (fM_weight y76 y77 y78 τ74) fun r80 τ79 =>
       kSame r75 r80
         (fLaw_law_120_J1412 nS xS x3 τ79),
       kSc nS xS (x3 + 1) fun y81 =>
       kSc nS xS (x3 + 2) fun y82 =>
       kSc nS xS (x3 + 3) fun y83 =>
       kSc nS xS (x3 + 4) fun y84 =>
       kCall (fP_net y81 y82 y83 y84 σ) fun r86 τ85 =>
       kSc nS xS (x3 + 1) fun y87 =>
       kSc nS xS (x3 + 2) fun y88 =>
       kSc nS xS (x3 + 3) fun y89 =>
       kSc nS xS (x3 + 4) fun y90 =>
       kCall (fM_net y87 y88 y89 y90 τ85) fun r92 τ91 =>
       kSame r86 r92
         (fLaw_law_120_J1412 nS xS x3 τ91),
       kSc nS xS (x3 + 1) fun y93 =>
       kSc nS xS (x3 + 2) fun y94 =>
       kCall (fP_pin y93 y94 σ) fun r96 τ95 =>
       kSc nS xS (x3 + 1) fun y97 =>
       kSc nS xS (x3 + 2) fun y98 =>
       kCall (fM_pin y97 y98 τ95) fun r100 τ99 =>
       kSame r96 r100
         (fLaw_law_120_J1412 nS xS x3 τ99),
       kSc nS xS (x3 + 1) fun y101 =>
       kSc nS xS (x3 + 2) fun y102 =>
       kCall (fP_tones y101 y102 σ) fun r104 τ103 =>
       kSc nS xS (x3 + 1) fun y105 =>
       kSc nS xS (x3 + 2) fun y106 =>
       kCall (fM_tones y105 y106 τ103) fun r108 τ107 =>
       kSame r104 r108
         (fLaw_law_120_J1412 nS xS x3 τ107),
       kSc nS xS (x3 + 1) fun y109 =>
       kSc nS xS (x3 + 2) fun y110 =>
       kSc nS xS (x3 + 3) fun y111 =>
       kCall (fP_match y109 y110 y111 σ) fun r113 τ112 =>
       kSc nS xS (x3 + 1) fun y114 =>
       kSc nS xS (x3 + 2) fun y115 =>
       kSc nS xS (x3 + 3) fun y116 =>
       kCall (fM_match y114 y115 y116 τ112) fun r118 τ117 =>
       kSame r113 r118
         (fLaw_law_120_J1412 nS xS x3 τ117),
       kSc nS xS (x3 + 1) fun y119 =>
       kSc nS xS (x3 + 2) fun y120 =>
       kCall (fP_fit y119 y120 σ) fun r122 τ121 =>
       kSc nS xS (x3 + 1) fun y123 =>
       kSc nS xS (x3 + 2) fun y124 =>
       kCall (fM_fit y123 y124 τ121) fun r126 τ125 =>
       kSame r122 r126
         (fLaw_law_120_J1412 nS xS x3 τ125),
       kSc nS xS (x3 + 1) fun y127 =>
       kSc nS xS (x3 + 2) fun y128 =>
       kCall (fP_ranked y127 y128 σ) fun r130 τ129 =>
       kSc nS xS (x3 + 1) fun y131 =>
       kSc nS xS (x3 + 2) fun y132 =>
       kCall (fM_ranked y131 y132 τ129) fun r134 τ133 =>
       kSame r130 r134
         (fLaw_law_120_J1412 nS xS x3 τ133),
       kSc nS xS (x3 + 1) fun y135 =>
       kCall (fP_overall y135 σ) fun r137 τ136 =>
       kSc nS xS (x3 + 1) fun y138 =>
       kCall (fM_overall y138 τ136) fun r140 τ139 =>
       kSame r137 r140
         (fLaw_law_120_J1412 nS xS x3 τ139),
       kSc nS xS (x3 + 1) fun y141 =>
       kCall (fP_chord y141 σ) fun r143 τ142 =>
       kSc nS xS (x3 + 1) fun y144 =>
       kCall (fM_chord y144 τ142) fun r146 τ145 =>
       kSame r143 r146
         (fLaw_law_120_J1412 nS xS x3 τ145),
       kSc nS xS (x3 + 1) fun y147 =>
       kSc nS xS (x3 + 2) fun y148 =>
       kCall (fP_distance y147 y148 σ) fun r150 τ149 =>
       kSc nS xS (x3 + 1) fun y151 =>
       kSc nS xS (x3 + 2) fun y152 =>
       kCall (fM_distance y151 y152 τ149) fun r154 τ153 =>
       kSame r150 r154
         (fLaw_law_120_J1412 nS xS x3 τ153),
       kSc nS xS (x3 + 1) fun y155 =>
       kSc nS xS (x3 + 2) fun y156 =>
       kSc nS xS (x3 + 3) fun y157 =>
       kCall (fP_way y155 y156 y157 σ) fun r159 τ158 =>
       kSc nS xS (x3 + 1) fun y160 =>
       kSc nS xS (x3 + 2) fun y161 =>
       kSc nS xS (x3 + 3) fun y162 =>
       kCall (fM_way y160 y161 y162 τ158) fun r164 τ163 =>
       kSame r159 r164
         (fLaw_law_120_J1412 nS xS x3 τ163),
       kCall (fP_cost σ) fun r166 τ165 =>
       kCall (fM_cost τ165) fun r168 τ167 =>
       kSame r166 r168
         (fLaw_law_120_J1412 nS xS x3 τ167),
       kSc nS xS (x3 + 1) fun y169 =>
       kCall (fP_key y169 σ) fun r171 τ170 =>
       kSc nS xS (x3 + 1) fun y172 =>
       kCall (fM_key y172 τ170) fun r174 τ173 =>
       kSame r171 r174
         (fLaw_law_120_J1412 nS xS x3 τ173),
       kCall (fP_ties σ) fun r176 τ175 =>
       kCall (fM_ties τ175) fun r178 τ177 =>
       kSame r176 r178
         (fLaw_law_120_J1412 nS xS x3 τ177),
       kSc nS xS (x3 + 1) fun y179 =>
       kSc nS xS (x3 + 2) fun y180 =>
       kCall (fP_through y179 y180 σ) fun r182 τ181 =>
       kSc nS xS (x3 + 1) fun y183 =>
       kSc nS xS (x3 + 2) fun y184 =>
       kCall (fM_through y183 y184 τ181) fun r186 τ185 =>
       kSame r182 r186
         (fLaw_law_120_J1412 nS xS x3 τ185),
       kSc nS xS (x3 + 1) fun y187 =>
       kSc nS xS (x3 + 2) fun y188 =>
       kCall (fP_unsure y187 y188 σ) fun r190 τ189 =>
       kSc nS xS (x3 + 1) fun y191 =>
       kSc nS xS (x3 + 2) fun y192 =>
       kCall (fM_unsure y191 y192 τ189) fun r194 τ193 =>
       kSame r190 r194
         (fLaw_law_120_J1412 nS xS x3 τ193),
       kSc nS xS (x3 + 1) fun y195 =>
       kCall (fP_second y195 σ) fun r197 τ196 =>
       kSc nS xS (x3 + 1) fun y198 =>
       kCall (fM_second y198 τ196) fun r200 τ199 =>
       kSame r197 r200
         (fLaw_law_120_J1412 nS xS x3 τ199),
       kSc nS xS (x3 + 1) fun y201 =>
       kCall (fP_within y201 σ) fun r203 τ202 =>
       kSc nS xS (x3 + 1) fun y204 =>
       kCall (fM_within y204 τ202) fun r206 τ205 =>
       kSame r203 r206
         (fLaw_law_120_J1412 nS xS x3 τ205),
       kSc nS xS (x3 + 1) fun y207 =>
       kCall (fP_lasting y207 σ) fun r209 τ208 =>
       kSc nS xS (x3 + 1) fun y210 =>
       kCall (fM_lasting y210 τ208) fun r212 τ211 =>
       kSame r209 r212
         (fLaw_law_120_J1412 nS xS x3 τ211),
       kCall (fP_firm σ) fun r214 τ213 =>
       kCall (fM_firm τ213) fun r216 τ215 =>
       kSame r214 r216
         (fLaw_law_120_J1412 nS xS x3 τ215),
       kCall (fP_segments σ) fun r218 τ217 =>
       kCall (fM_segments τ217) fun r220 τ219 =>
       kSame r218 r220
         (fLaw_law_120_J1412 nS xS x3 τ219),
       kSc nS xS (x3 + 1) fun y221 =>
       kSc nS xS (x3 + 2) fun y222 =>
       kCall (fP_segment y221 y222 σ) fun r224 τ223 =>
       kSc nS xS (x3 + 1) fun y225 =>
       kSc nS xS (x3 + 2) fun y226 =>
       kCall (fM_segment y225 y226 τ223) fun r228 τ227 =>
       kSame r224 r228
         (fLaw_law_120_J1412 nS xS x3 τ227),
       kSc nS xS (x3 + 1) fun y229 =>
       kSc nS xS (x3 + 2) fun y230 =>
       kCall (fP_pivot y229 y230 σ) fun r232 τ231 =>
       kSc nS xS (x3 + 1) fun y233 =>
       kSc nS xS (x3 + 2) fun y234 =>
       kCall (fM_pivot y233 y234 τ231) fun r236 τ235 =>
       kSame r232 r236
         (fLaw_law_120_J1412 nS xS x3 τ235),
       kSc nS xS (x3 + 1) fun y237 =>
       kCall (fP_roman y237 σ) fun r239 τ238 =>
       kSc nS xS (x3 + 1) fun y240 =>
       kCall (fM_roman y240 τ238) fun r242 τ241 =>
       kSame r239 r242
         (fLaw_law_120_J1412 nS xS x3 τ241),
       kCall (fP_outside σ) fun r244 τ243 =>
       kCall (fM_outside τ243) fun r246 τ245 =>
       kSame r244 r246
         (fLaw_law_120_J1412 nS xS x3 τ245),
       kSc nS xS (x3 + 1) fun y247 =>
       kCall (fP_progression y247 σ) fun r249 τ248 =>
       kSc nS xS (x3 + 1) fun y250 =>
       kCall (fM_progression y250 τ248) fun r252 τ251 =>
       kSame r249 r252
         (fLaw_law_120_J1412 nS xS x3 τ251),
       kSc nS xS (x3 + 1) fun y253 =>
       kCall (fP_confirmed y253 σ) fun r255 τ254 =>
       kSc nS xS (x3 + 1) fun y256 =>
       kCall (fM_confirmed y256 τ254) fun r258 τ257 =>
       kSame r255 r258
         (fLaw_law_120_J1412 nS xS x3 τ257),
       kSc nS xS (x3 + 1) fun y259 =>
       kSc nS xS (x3 + 2) fun y260 =>
       kCall (fP_learnt y259 y260 σ) fun r262 τ261 =>
       kSc nS xS (x3 + 1) fun y263 =>
       kSc nS xS (x3 + 2) fun y264 =>
       kCall (fM_learnt y263 y264 τ261) fun r266 τ265 =>
       kSame r262 r266
         (fLaw_law_120_J1412 nS xS x3 τ265),
       kSc nS xS (x3 + 1) fun y267 =>
       kSc nS xS (x3 + 2) fun y268 =>
       kCall (fP_foreign y267 y268 σ) fun r270 τ269 =>
       kSc nS xS (x3 + 1) fun y271 =>
       kSc nS xS (x3 + 2) fun y272 =>
       kCall (fM_foreign y271 y272 τ269) fun r274 τ273 =>
       kSame r270 r274
         (fLaw_law_120_J1412 nS xS x3 τ273),
       kCall (fP_close σ) fun r276 τ275 =>
       kCall (fM_close τ275) fun r278 τ277 =>
       kSame r276 r278
         (fLaw_law_120_J1412 nS xS x3 τ277),
       kSc nS xS (x3 + 1) fun y279 =>
       kSc nS xS (x3 + 2) fun y280 =>
       kCall (fP_degree y279 y280 σ) fun r282 τ281 =>
       kSc nS xS (x3 + 1) fun y283 =>
       kSc nS xS (x3 + 2) fun y284 =>
       kCall (fM_degree y283 y284 τ281) fun r286 τ285 =>
       kSame r282 r286
         (fLaw_law_120_J1412 nS xS x3 τ285),
       kSc nS xS (x3 + 1) fun y287 =>
       kSc nS xS (x3 + 2) fun y288 =>
       kCall (fP_name y287 y288 σ) fun r290 τ289 =>
       kSc nS xS (x3 + 1) fun y291 =>
       kSc nS xS (x3 + 2) fun y292 =>
       kCall (fM_name y291 y292 τ289) fun r294 τ293 =>
       kSame r290 r294
         (fLaw_law_120_J1412 nS xS x3 τ293),
       kSc nS xS (x3 + 1) fun y295 =>
       kCall (fP_count y295 σ) fun r297 τ296 =>
       kSc nS xS (x3 + 1) fun y298 =>
       kCall (fM_count y298 τ296) fun r300 τ299 =>
       kSame r297 r300
         (fLaw_law_120_J1412 nS xS x3 τ299)
       ]
       (fLaw_law_120_J1412 nS xS x3 σ))
def fLaw_law_120_L18 (nS : Int) (xS : Int → Int) (x3 : Int) (σ : KM) : Option (Int × KM) := kIter (fun s => fLaw_law_120_B18 nS xS s.1 s.2) kF (x3, σ)
