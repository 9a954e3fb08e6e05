/-! ===== which cells a function may write ===== -/
def kWc (W : List (Nat × Option Int)) (c : Nat) (i : Int) : Bool := W.any (fun q => q.1 == c && (match q.2 with
  | none => true
  | some j => j == i))
def kFr (W : List (Nat × Option Int)) (σ τ : KM) : Prop := ∀ (c : Nat) (i : Int), kWc W c i = false → τ c i = σ c i
theorem kFr.rf {W : List (Nat × Option Int)} {σ : KM} : kFr W σ σ := fun _ _ _ => rfl
theorem kFr.trans {W : List (Nat × Option Int)} {σ τ υ : KM} (h : kFr W σ τ) (g : kFr W τ υ) : kFr W σ υ := fun c i hc => (g c i hc).trans (h c i hc)
theorem kFr.cell {W : List (Nat × Option Int)} {σ τ : KM} (h : kFr W σ τ) {c : Nat} (hc : W.all (fun q => q.1 != c) = true) : τ c = σ c := by
  funext i
  refine h c i ?_
  unfold kWc
  rw [List.any_eq_false]
  intro q hq
  have := List.all_eq_true.mp hc q hq
  simp at this
  simp [this]
theorem kFr.slot {W : List (Nat × Option Int)} {σ τ : KM} (h : kFr W σ τ) {c : Nat} {i : Int} (hc : kWc W c i = false) : τ c i = σ c i := h c i hc
theorem kFr.pure {σ τ : KM} (h : kFr [] σ τ) : τ = σ := by
  funext c
  exact h.cell rfl
theorem kFr.mono {W W' : List (Nat × Option Int)} {σ τ : KM} (h : kFr W' σ τ) (hs : W'.all (fun q => W.contains q) = true) : kFr W σ τ := by
  intro c i hc
  refine h c i ?_
  unfold kWc at hc ⊢
  rw [List.any_eq_false] at hc ⊢
  intro q hq
  have := List.all_eq_true.mp hs q hq
  exact hc q (by simpa using this)
theorem kFr.put {W : List (Nat × Option Int)} {σ0 σ : KM} {c : Nat} {i v : Int} (h : kFr W σ0 σ) (hm : W.contains (c, none) = true) : kFr W σ0 (ks σ c i v) := by
  intro c' i' hc
  rw [ks_ap, if_neg]
  · exact h c' i' hc
  · rintro ⟨rfl, -⟩
    unfold kWc at hc
    rw [List.any_eq_false] at hc
    exact hc (c', none) (by simpa using hm) (by simp)
theorem kFr.putf {W : List (Nat × Option Int)} {σ0 σ : KM} {c : Nat} {i v : Int} (h : kFr W σ0 σ) (hm : W.contains (c, some i) = true) : kFr W σ0 (ks σ c i v) := by
  intro c' i' hc
  rw [ks_ap, if_neg]
  · exact h c' i' hc
  · rintro ⟨rfl, rfl⟩
    unfold kWc at hc
    rw [List.any_eq_false] at hc
    exact hc (c', some i') (by simpa using hm) (by simp)
theorem kFr.cp {W : List (Nat × Option Int)} {σ0 σ : KM} {c0 c1 : Nat} {sp dp n : Int} (h : kFr W σ0 σ) (hm : W.contains (c1, none) = true) : kFr W σ0 (kCp σ c0 c1 sp dp n) := by
  intro c' i' hc
  rw [kCp_ap, if_neg]
  · exact h c' i' hc
  · rintro ⟨rfl, -⟩
    unfold kWc at hc
    rw [List.any_eq_false] at hc
    exact hc (c', none) (by simpa using hm) (by simp)
def kQ {Z : Type} (W : List (Nat × Option Int)) (σ0 : KM) (μ : Z → KM) (F : Option Z) : Prop := ∀ z, F = some z → kFr W σ0 (μ z)
section KQ
variable {Z : Type} {W : List (Nat × Option Int)} {σ0 σ : KM} {μ : Z → KM}
theorem kQ_let {a : Int} {G : Int → Option Z} (h : ∀ y, kQ W σ0 μ (G y)) : kQ W σ0 μ (kLet a G) := h a
theorem kQ_ite {p : Prop} {_ : Decidable p} {F : Option Z} (h : kQ W σ0 μ F) : kQ W σ0 μ (if p then F else none) := by
  intro z hz
  split at hz
  · exact h z hz
  · cases hz
theorem kQ_lt {a b : Int} {T E : Option Z} (h1 : kQ W σ0 μ T) (h2 : kQ W σ0 μ E) : kQ W σ0 μ (kLt a b T E) := by
  refine kQ_ite ?_
  intro z hz
  split at hz
  · exact h1 z hz
  · exact h2 z hz
theorem kQ_eq {a b : Int} {T E : Option Z} (h1 : kQ W σ0 μ T) (h2 : kQ W σ0 μ E) : kQ W σ0 μ (kEq a b T E) := by
  refine kQ_ite ?_
  intro z hz
  split at hz
  · exact h1 z hz
  · exact h2 z hz
theorem kQ_ck {a : Int} {F : Option Z} (h : kQ W σ0 μ F) : kQ W σ0 μ (kCk a F) := kQ_ite h
theorem kQ_ck6 {a b : Int} {F : Option Z} (h : kQ W σ0 μ F) : kQ W σ0 μ (kCk6 a b F) := kQ_ite h
theorem kQ_dv {a b : Int} {G : Int → Option Z} (h : ∀ y, kQ W σ0 μ (G y)) : kQ W σ0 μ (kDv a b G) := kQ_ite (h _)
theorem kQ_rm {a b : Int} {G : Int → Option Z} (h : ∀ y, kQ W σ0 μ (G y)) : kQ W σ0 μ (kRm a b G) := kQ_ite (h _)
theorem kQ_dv6 {a b : Int} {G : Int → Option Z} (h : ∀ y, kQ W σ0 μ (G y)) : kQ W σ0 μ (kDv6 a b G) := kQ_ite (h _)
theorem kQ_rd {c : Nat} {N i : Int} {G : Int → Option Z} (h : ∀ y, kQ W σ0 μ (G y)) : kQ W σ0 μ (kRd σ c N i G) := kQ_ite (h _)
theorem kQ_rs {c : Nat} {N i : Int} {G : Int → Option Z} (h : ∀ y, kQ W σ0 μ (G y)) : kQ W σ0 μ (kRs c N i G) := kQ_ite (h _)
theorem kQ_mx {a b : Int} {G : Int → Option Z} (h : ∀ y, kQ W σ0 μ (G y)) : kQ W σ0 μ (kMx a b G) := kQ_ite (h _)
theorem kQ_mn {a b : Int} {G : Int → Option Z} (h : ∀ y, kQ W σ0 μ (G y)) : kQ W σ0 μ (kMn a b G) := kQ_ite (h _)
theorem kQ_and {a b : Int} {G : Int → Option Z} (h : ∀ y, kQ W σ0 μ (G y)) : kQ W σ0 μ (kAnd a b G) := kQ_ite (h _)
theorem kQ_shr {a b : Int} {G : Int → Option Z} (h : ∀ y, kQ W σ0 μ (G y)) : kQ W σ0 μ (kShr a b G) := kQ_ite (h _)
theorem kQ_ush {a b : Int} {G : Int → Option Z} (h : ∀ y, kQ W σ0 μ (G y)) : kQ W σ0 μ (kUsh a b G) := kQ_ite (h _)
theorem kQ_chr {t : Nat} {i : Int} {G : Int → Option Z} (h : ∀ y, kQ W σ0 μ (G y)) : kQ W σ0 μ (kChr t i G) := kQ_ite (h _)
theorem kQ_wr {c : Nat} {N i v : Int} {G : KM → Option Z} (hm : W.contains (c, none) = true) (h0 : kFr W σ0 σ) (h : ∀ τ, kFr W σ0 τ → kQ W σ0 μ (G τ)) : kQ W σ0 μ (kWr σ c N i v G) := kQ_ite (h _ (h0.put hm))
theorem kQ_wz {c : Nat} {N i v : Int} {G : KM → Option Z} (hm : W.contains (c, none) = true) (h0 : kFr W σ0 σ) (h : ∀ τ, kFr W σ0 τ → kQ W σ0 μ (G τ)) : kQ W σ0 μ (kWz σ c N i v G) := kQ_ite (h _ (h0.put hm))
theorem kQ_wb {c : Nat} {N i v : Int} {G : KM → Option Z} (hm : W.contains (c, none) = true) (h0 : kFr W σ0 σ) (h : ∀ τ, kFr W σ0 τ → kQ W σ0 μ (G τ)) : kQ W σ0 μ (kWb σ c N i v G) := kQ_ite (h _ (h0.put hm))
theorem kQ_wf {c : Nat} {k v : Int} {G : KM → Option Z} (hm : W.contains (c, some k) = true) (h0 : kFr W σ0 σ) (h : ∀ τ, kFr W σ0 τ → kQ W σ0 μ (G τ)) : kQ W σ0 μ (kWf σ c k v G) := h _ (h0.putf hm)
theorem kQ_wfz {c : Nat} {k v : Int} {G : KM → Option Z} (hm : W.contains (c, some k) = true) (h0 : kFr W σ0 σ) (h : ∀ τ, kFr W σ0 τ → kQ W σ0 μ (G τ)) : kQ W σ0 μ (kWfz σ c k v G) := kQ_ite (h _ (h0.putf hm))
theorem kQ_cpy {c0 c1 : Nat} {N0 N1 sp dp n : Int} {G : KM → Option Z} (hm : W.contains (c1, none) = true) (h0 : kFr W σ0 σ) (h : ∀ τ, kFr W σ0 τ → kQ W σ0 μ (G τ)) : kQ W σ0 μ (kCpy σ c0 N0 sp c1 N1 dp n G) := kQ_ite (h _ (h0.cp hm))
theorem kQ_call {W' : List (Nat × Option Int)} {C : Option (Int × KM)} {G : Int → KM → Option Z} (hc : kQ W' σ Prod.snd C) (hs : W'.all (fun q => W.contains q) = true) (h0 : kFr W σ0 σ) (h : ∀ r τ, kFr W σ0 τ → kQ W σ0 μ (G r τ)) : kQ W σ0 μ (kCall C G) := by
  intro z hz
  unfold kCall at hz
  split at hz
  · cases hz
  · rename_i q
    exact h _ _ (h0.trans ((hc q rfl).mono hs)) z hz
theorem kQ_exit {S : Type} {mf : S → KM} {F : Option Z} (h : kQ W σ0 μ F) : kQ W σ0 (Sum.elim mf μ) (kExit F) := by
  intro z hz
  unfold kExit at hz
  split at hz
  · cases hz
  · rename_i r
    cases hz
    exact h r rfl
theorem kQ_inl {S : Type} {mf : S → KM} {s : S} (h : kFr W σ0 (mf s)) : kQ W σ0 (Sum.elim mf μ) (some (Sum.inl s)) := by
  intro z hz
  cases hz
  exact h
theorem kQ_ri {r : Int} (h : kFr W σ0 σ) : kQ W σ0 Prod.snd (kRetI r σ) := by
  intro z hz
  cases hz
  exact h
theorem kQ_rz {r : Int} (h : kFr W σ0 σ) : kQ W σ0 Prod.snd (kRetZ r σ) := kQ_ite (kQ_ri (r := r) h)
theorem kQ_rc {r : Int} (h : kFr W σ0 σ) : kQ W σ0 Prod.snd (kRetC r σ) := kQ_ite (kQ_ri (r := r) h)
theorem kQ_none : kQ W σ0 μ (none : Option Z) := fun z h => by cases h
theorem kQ_iter {S : Type} {f : S → Option (S ⊕ Z)} {mf : S → KM} (h : ∀ s, kFr W σ0 (mf s) → kQ W σ0 (Sum.elim mf μ) (f s)) : ∀ (k : Nat) (s : S), kFr W σ0 (mf s) → kQ W σ0 μ (kIter f k s) := by
  intro k
  induction k with
  | zero => intro s _ z hz; cases hz
  | succ k ih =>
    intro s h0 z hz
    unfold kIter at hz
    split at hz
    · cases hz
    · rename_i s' hs
      exact ih s' (h s h0 _ hs) z hz
    · rename_i r hs
      cases hz
      exact h s h0 _ hs
theorem kQ_sw {x lo : Int} {Fs : List (Option Z)} {E : Option Z} (h1 : ∀ F ∈ Fs, kQ W σ0 μ F) (h2 : kQ W σ0 μ E) : kQ W σ0 μ (kSw x lo Fs E) := by
  refine kQ_ite ?_
  intro z hz
  split at hz
  · rw [List.getD_eq_getElem?_getD] at hz
    cases hq : Fs[(x - lo).toNat]? with
    | none => rw [hq] at hz; cases hz
    | some F =>
      rw [hq] at hz
      exact h1 F (List.mem_of_getElem? hq) z hz
  · exact h2 z hz
theorem kA_nil : ∀ F ∈ ([] : List (Option Z)), kQ W σ0 μ F := fun _ h => by cases h
theorem kA_cons {F : Option Z} {Fs : List (Option Z)} (h : kQ W σ0 μ F) (hs : ∀ F ∈ Fs, kQ W σ0 μ F) : ∀ G ∈ F :: Fs, kQ W σ0 μ G := fun G hG => by
  rcases List.mem_cons.mp hG with rfl | hG
  · exact h
  · exact hs G hG
end KQ
theorem q_common : ∀ (n : Nat) (a b : Int) (σ : KM), kQ [] σ Prod.snd (fM_common n a b σ)
  | 0, a, b, σ => kQ_none
  | n + 1, a, b, σ => kQ_eq (kQ_ri kFr.rf) (kQ_rm fun y => kQ_call (W' := []) (q_common n b y σ) rfl kFr.rf fun r τ h => kQ_ri h)

abbrev wfNo_end : List (Nat × Option Int) := []
theorem qfNo_end_J36 (x1 : Int) {σ0 σ : KM} (h : kFr wfNo_end σ0 σ) : kQ wfNo_end σ0 Prod.snd (fNo_end_J36 x1 σ) :=
  kQ_ri h
theorem qfNo_end_B4 (x1 x2 : Int) {σ0 σ : KM} (h : kFr wfNo_end σ0 σ) : kQ wfNo_end σ0 (Sum.elim (fun s : Int × Int × KM => s.2.2) Prod.snd) (fNo_end_B4 x1 x2 σ) :=
  kQ_lt
 (kQ_rd fun y1 =>
 kQ_rd fun y2 =>
 kQ_mx fun y3 =>
 kQ_let fun y4 =>
 kQ_inl h)
 (kQ_exit (qfNo_end_J36 _ h))
theorem qfNo_end_L4 (x1 x2 : Int) {σ0 σ : KM} (h : kFr wfNo_end σ0 σ) : kQ wfNo_end σ0 Prod.snd (fNo_end_L4 x1 x2 σ) :=
  kQ_iter (mf := fun s : Int × Int × KM => s.2.2) (fun s h => qfNo_end_B4 s.1 s.2.1 h) kF (x1, x2, σ) h
theorem qfNo_end {σ0 σ : KM} (h : kFr wfNo_end σ0 σ) : kQ wfNo_end σ0 Prod.snd (fNo_end σ) :=
  qfNo_end_L4 _ _ h
theorem rfNo_end (σ : KM) : kQ wfNo_end σ Prod.snd (fNo_end σ) := qfNo_end  kFr.rf
abbrev wfWi_beginsAhead : List (Nat × Option Int) := []
theorem qfWi_beginsAhead_J16 (t0 : Int) {σ0 σ : KM} (h : kFr wfWi_beginsAhead σ0 σ) : kQ wfWi_beginsAhead σ0 Prod.snd (fWi_beginsAhead_J16 t0 σ) :=
  kQ_ri h
theorem qfWi_beginsAhead (x0 x1 : Int) {σ0 σ : KM} (h : kFr wfWi_beginsAhead σ0 σ) : kQ wfWi_beginsAhead σ0 Prod.snd (fWi_beginsAhead x0 x1 σ) :=
  kQ_lt
 (qfWi_beginsAhead_J16 _ h)
 (kQ_dv fun y1 =>
 qfWi_beginsAhead_J16 _ h)
theorem rfWi_beginsAhead (x0 x1 : Int) (σ : KM) : kQ wfWi_beginsAhead σ Prod.snd (fWi_beginsAhead x0 x1 σ) := qfWi_beginsAhead x0 x1 kFr.rf
abbrev wfAr_rangeCheck : List (Nat × Option Int) := []
theorem qfAr_rangeCheck (x0 x1 x2 : Int) {σ0 σ : KM} (h : kFr wfAr_rangeCheck σ0 σ) : kQ wfAr_rangeCheck σ0 Prod.snd (fAr_rangeCheck x0 x1 x2 σ) :=
  kQ_lt
 (kQ_none)
 (kQ_lt
 (kQ_none)
 (kQ_lt
 (kQ_none)
 (kQ_ri h)))
theorem rfAr_rangeCheck (x0 x1 x2 : Int) (σ : KM) : kQ wfAr_rangeCheck σ Prod.snd (fAr_rangeCheck x0 x1 x2 σ) := qfAr_rangeCheck x0 x1 x2 kFr.rf
abbrev wfAr_fill4_24 : List (Nat × Option Int) := [(24, none)]
theorem qfAr_fill4_24_J27 {σ0 σ : KM} (h : kFr wfAr_fill4_24 σ0 σ) : kQ wfAr_fill4_24 σ0 Prod.snd (fAr_fill4_24_J27 σ) :=
  kQ_ri h
theorem qfAr_fill4_24_B10 (x2 x3 x4 : Int) {σ0 σ : KM} (h : kFr wfAr_fill4_24 σ0 σ) : kQ wfAr_fill4_24 σ0 (Sum.elim (fun s : Int × KM => s.2) Prod.snd) (fAr_fill4_24_B10 x2 x3 x4 σ) :=
  kQ_lt
 (kQ_wr rfl h fun τ1 h =>
 kQ_let fun y2 =>
 kQ_inl h)
 (kQ_exit (qfAr_fill4_24_J27  h))
theorem qfAr_fill4_24_L10 (x2 x3 x4 : Int) {σ0 σ : KM} (h : kFr wfAr_fill4_24 σ0 σ) : kQ wfAr_fill4_24 σ0 Prod.snd (fAr_fill4_24_L10 x2 x3 x4 σ) :=
  kQ_iter (mf := fun s : Int × KM => s.2) (fun s h => qfAr_fill4_24_B10 x2 x3 s.1 h) kF (x4, σ) h
theorem qfAr_fill4_24 (x1 x2 x3 : Int) {σ0 σ : KM} (h : kFr wfAr_fill4_24 σ0 σ) : kQ wfAr_fill4_24 σ0 Prod.snd (fAr_fill4_24 x1 x2 x3 σ) :=
  kQ_call (rfAr_rangeCheck _ _ _ _) rfl h fun _ τ1 h =>
 qfAr_fill4_24_L10 _ _ _ h
theorem rfAr_fill4_24 (x1 x2 x3 : Int) (σ : KM) : kQ wfAr_fill4_24 σ Prod.snd (fAr_fill4_24 x1 x2 x3 σ) := qfAr_fill4_24 x1 x2 x3 kFr.rf
abbrev wfWi_countSpan : List (Nat × Option Int) := [(24, none), (25, none)]
theorem qfWi_countSpan_J127 {σ0 σ : KM} (h : kFr wfWi_countSpan σ0 σ) : kQ wfWi_countSpan σ0 Prod.snd (fWi_countSpan_J127 σ) :=
  kQ_ri h
theorem qfWi_countSpan_J121 (x2 x3 x4 x5 : Int) {σ0 σ : KM} (h : kFr wfWi_countSpan σ0 σ) : kQ wfWi_countSpan σ0 (Sum.elim (fun s : Int × KM => s.2) Prod.snd) (fWi_countSpan_J121 x2 x3 x4 x5 σ) :=
  kQ_let fun y1 =>
 kQ_inl h
theorem qfWi_countSpan_B28 (x2 x3 x4 x5 : Int) {σ0 σ : KM} (h : kFr wfWi_countSpan σ0 σ) : kQ wfWi_countSpan σ0 (Sum.elim (fun s : Int × KM => s.2) Prod.snd) (fWi_countSpan_B28 x2 x3 x4 x5 σ) :=
  kQ_lt
 (kQ_rd fun y1 =>
 kQ_mx fun y2 =>
 kQ_rd fun y3 =>
 kQ_rd fun y4 =>
 kQ_mn fun y5 =>
 kQ_lt
 (kQ_rd fun y6 =>
 kQ_rm fun y7 =>
 kQ_rd fun y8 =>
 kQ_wr rfl h fun τ9 h =>
 kQ_rd fun y10 =>
 kQ_wr rfl h fun τ11 h =>
 qfWi_countSpan_J121 _ _ _ _ h)
 (qfWi_countSpan_J121 _ _ _ _ h))
 (kQ_exit (qfWi_countSpan_J127  h))
theorem qfWi_countSpan_L28 (x2 x3 x4 x5 : Int) {σ0 σ : KM} (h : kFr wfWi_countSpan σ0 σ) : kQ wfWi_countSpan σ0 Prod.snd (fWi_countSpan_L28 x2 x3 x4 x5 σ) :=
  kQ_iter (mf := fun s : Int × KM => s.2) (fun s h => qfWi_countSpan_B28 x2 x3 x4 s.1 h) kF (x5, σ) h
theorem qfWi_countSpan (x2 x3 x4 : Int) {σ0 σ : KM} (h : kFr wfWi_countSpan σ0 σ) : kQ wfWi_countSpan σ0 Prod.snd (fWi_countSpan x2 x3 x4 σ) :=
  kQ_call (rfAr_fill4_24 _ _ _ _) rfl h fun _ τ1 h =>
 kQ_wr rfl h fun τ2 h =>
 qfWi_countSpan_L28 _ _ _ _ h
theorem rfWi_countSpan (x2 x3 x4 : Int) (σ : KM) : kQ wfWi_countSpan σ Prod.snd (fWi_countSpan x2 x3 x4 σ) := qfWi_countSpan x2 x3 x4 kFr.rf
abbrev wfP_toneOf : List (Nat × Option Int) := []
theorem qfP_toneOf_J33 (t0 t1 : Int) {σ0 σ : KM} (h : kFr wfP_toneOf σ0 σ) : kQ wfP_toneOf σ0 Prod.snd (fP_toneOf_J33 t0 t1 σ) :=
  kQ_rm fun y1 =>
 kQ_ri h
theorem qfP_toneOf (x0 x1 : Int) {σ0 σ : KM} (h : kFr wfP_toneOf σ0 σ) : kQ wfP_toneOf σ0 Prod.snd (fP_toneOf x0 x1 σ) :=
  kQ_dv fun y1 =>
 kQ_eq
 (kQ_ri h)
 (kQ_eq
 (kQ_rm fun y4 =>
 kQ_rs fun y5 =>
 qfP_toneOf_J33 _ _ h)
 (kQ_rm fun y2 =>
 kQ_rs fun y3 =>
 qfP_toneOf_J33 _ _ h))
theorem rfP_toneOf (x0 x1 : Int) (σ : KM) : kQ wfP_toneOf σ Prod.snd (fP_toneOf x0 x1 σ) := qfP_toneOf x0 x1 kFr.rf
abbrev wfWi_fullestTriad : List (Nat × Option Int) := []
theorem qfWi_fullestTriad_J83 (x2 : Int) {σ0 σ : KM} (h : kFr wfWi_fullestTriad σ0 σ) : kQ wfWi_fullestTriad σ0 Prod.snd (fWi_fullestTriad_J83 x2 σ) :=
  kQ_ri h
theorem qfWi_fullestTriad_J77 (x1 x2 x3 x4 : Int) {σ0 σ : KM} (h : kFr wfWi_fullestTriad σ0 σ) : kQ wfWi_fullestTriad σ0 (Sum.elim (fun s : Int × Int × Int × KM => s.2.2.2) Prod.snd) (fWi_fullestTriad_J77 x1 x2 x3 x4 σ) :=
  kQ_let fun y1 =>
 kQ_inl h
theorem qfWi_fullestTriad_J65 (x1 x2 x3 x4 x5 : Int) {σ0 σ : KM} (h : kFr wfWi_fullestTriad σ0 σ) : kQ wfWi_fullestTriad σ0 (Sum.elim (fun s : Int × Int × Int × KM => s.2.2.2) Prod.snd) (fWi_fullestTriad_J65 x1 x2 x3 x4 x5 σ) :=
  kQ_lt
 (qfWi_fullestTriad_J77 _ _ _ _ h)
 (qfWi_fullestTriad_J77 _ _ _ _ h)
theorem qfWi_fullestTriad_B31 (x1 x2 x3 x4 x5 x6 : Int) {σ0 σ : KM} (h : kFr wfWi_fullestTriad σ0 σ) : kQ wfWi_fullestTriad σ0 (Sum.elim (fun s : Int × Int × KM => s.2.2) (Sum.elim (fun s : Int × Int × Int × KM => s.2.2.2) Prod.snd)) (fWi_fullestTriad_B31 x1 x2 x3 x4 x5 x6 σ) :=
  kQ_lt
 (kQ_call (rfP_toneOf _ _ _) rfl h fun r2 τ1 h =>
 kQ_rd fun y3 =>
 kQ_let fun y4 =>
 kQ_let fun y5 =>
 kQ_inl h)
 (kQ_exit (qfWi_fullestTriad_J65 _ _ _ _ _ h))
theorem qfWi_fullestTriad_L31 (x1 x2 x3 x4 x5 x6 : Int) {σ0 σ : KM} (h : kFr wfWi_fullestTriad σ0 σ) : kQ wfWi_fullestTriad σ0 (Sum.elim (fun s : Int × Int × Int × KM => s.2.2.2) Prod.snd) (fWi_fullestTriad_L31 x1 x2 x3 x4 x5 x6 σ) :=
  kQ_iter (mf := fun s : Int × Int × KM => s.2.2) (fun s h => qfWi_fullestTriad_B31 x1 x2 x3 x4 s.1 s.2.1 h) kF (x5, x6, σ) h
theorem qfWi_fullestTriad_B18 (x1 x2 x3 x4 : Int) {σ0 σ : KM} (h : kFr wfWi_fullestTriad σ0 σ) : kQ wfWi_fullestTriad σ0 (Sum.elim (fun s : Int × Int × Int × KM => s.2.2.2) Prod.snd) (fWi_fullestTriad_B18 x1 x2 x3 x4 σ) :=
  kQ_lt
 (qfWi_fullestTriad_L31 _ _ _ _ _ _ h)
 (kQ_exit (qfWi_fullestTriad_J83 _ h))
theorem qfWi_fullestTriad_L18 (x1 x2 x3 x4 : Int) {σ0 σ : KM} (h : kFr wfWi_fullestTriad σ0 σ) : kQ wfWi_fullestTriad σ0 Prod.snd (fWi_fullestTriad_L18 x1 x2 x3 x4 σ) :=
  kQ_iter (mf := fun s : Int × Int × Int × KM => s.2.2.2) (fun s h => qfWi_fullestTriad_B18 x1 s.1 s.2.1 s.2.2.1 h) kF (x2, x3, x4, σ) h
theorem qfWi_fullestTriad (x1 : Int) {σ0 σ : KM} (h : kFr wfWi_fullestTriad σ0 σ) : kQ wfWi_fullestTriad σ0 Prod.snd (fWi_fullestTriad x1 σ) :=
  kQ_rd fun y1 =>
 kQ_eq
 (kQ_ri h)
 (qfWi_fullestTriad_L18 _ _ _ _ h)
theorem rfWi_fullestTriad (x1 : Int) (σ : KM) : kQ wfWi_fullestTriad σ Prod.snd (fWi_fullestTriad x1 σ) := qfWi_fullestTriad x1 kFr.rf
abbrev wfWi_recount : List (Nat × Option Int) := [(5, some 2), (5, some 6), (24, none), (25, none), (26, none)]
theorem qfWi_recount_J72 (x2 : Int) {σ0 σ : KM} (h : kFr wfWi_recount σ0 σ) : kQ wfWi_recount σ0 Prod.snd (fWi_recount_J72 x2 σ) :=
  kQ_call (rfWi_countSpan _ _ _ _) rfl h fun _ τ1 h =>
 kQ_wfz rfl h fun τ2 h =>
 kQ_ri h
theorem qfWi_recount_B24 (x2 x3 : Int) {σ0 σ : KM} (h : kFr wfWi_recount σ0 σ) : kQ wfWi_recount σ0 (Sum.elim (fun s : Int × KM => s.2) Prod.snd) (fWi_recount_B24 x2 x3 σ) :=
  kQ_lt
 (kQ_call (rfWi_countSpan _ _ _ _) rfl h fun _ τ1 h =>
 kQ_call (rfWi_fullestTriad _ _) rfl h fun r3 τ2 h =>
 kQ_wr rfl h fun τ4 h =>
 kQ_let fun y5 =>
 kQ_inl h)
 (kQ_exit (qfWi_recount_J72 _ h))
theorem qfWi_recount_L24 (x2 x3 : Int) {σ0 σ : KM} (h : kFr wfWi_recount σ0 σ) : kQ wfWi_recount σ0 Prod.snd (fWi_recount_L24 x2 x3 σ) :=
  kQ_iter (mf := fun s : Int × KM => s.2) (fun s h => qfWi_recount_B24 x2 s.1 h) kF (x3, σ) h
theorem qfWi_recount {σ0 σ : KM} (h : kFr wfWi_recount σ0 σ) : kQ wfWi_recount σ0 Prod.snd (fWi_recount σ) :=
  kQ_call (rfNo_end _) rfl h fun r2 τ1 h =>
 kQ_call (rfWi_beginsAhead _ _ _) rfl h fun r4 τ3 h =>
 kQ_mn fun y5 =>
 kQ_wf rfl h fun τ6 h =>
 qfWi_recount_L24 _ _ h
theorem rfWi_recount (σ : KM) : kQ wfWi_recount σ Prod.snd (fWi_recount σ) := qfWi_recount  kFr.rf
abbrev wfP_freshWindows : List (Nat × Option Int) := [(5, some 2), (5, some 6), (24, none), (25, none), (26, none)]
theorem qfP_freshWindows_J21 {σ0 σ : KM} (h : kFr wfP_freshWindows σ0 σ) : kQ wfP_freshWindows σ0 Prod.snd (fP_freshWindows_J21 σ) :=
  kQ_ri h
theorem qfP_freshWindows {σ0 σ : KM} (h : kFr wfP_freshWindows σ0 σ) : kQ wfP_freshWindows σ0 Prod.snd (fP_freshWindows σ) :=
  kQ_eq
 (qfP_freshWindows_J21  h)
 (kQ_call (rfWi_recount _) rfl h fun _ τ1 h =>
 qfP_freshWindows_J21  h)
theorem rfP_freshWindows (σ : KM) : kQ wfP_freshWindows σ Prod.snd (fP_freshWindows σ) := qfP_freshWindows  kFr.rf
abbrev wfP_noWindow : List (Nat × Option Int) := [(5, some 2), (5, some 6), (24, none), (25, none), (26, none)]
theorem qfP_noWindow_J24 (t0 : Int) {σ0 σ : KM} (h : kFr wfP_noWindow σ0 σ) : kQ wfP_noWindow σ0 Prod.snd (fP_noWindow_J24 t0 σ) :=
  kQ_rz h
theorem qfP_noWindow_J19 {σ0 σ : KM} (h : kFr wfP_noWindow σ0 σ) : kQ wfP_noWindow σ0 Prod.snd (fP_noWindow_J19 σ) :=
  qfP_noWindow_J24 _ h
theorem qfP_noWindow (x1 : Int) {σ0 σ : KM} (h : kFr wfP_noWindow σ0 σ) : kQ wfP_noWindow σ0 Prod.snd (fP_noWindow x1 σ) :=
  kQ_call (rfP_freshWindows _) rfl h fun _ τ1 h =>
 kQ_lt
 (qfP_noWindow_J19  h)
 (kQ_lt
 (qfP_noWindow_J24 _ h)
 (qfP_noWindow_J19  h))
theorem rfP_noWindow (x1 : Int) (σ : KM) : kQ wfP_noWindow σ Prod.snd (fP_noWindow x1 σ) := qfP_noWindow x1 kFr.rf
abbrev wfP_chord : List (Nat × Option Int) := [(5, some 2), (5, some 6), (24, none), (25, none), (26, none)]
theorem qfP_chord_J22 (t0 : Int) {σ0 σ : KM} (h : kFr wfP_chord σ0 σ) : kQ wfP_chord σ0 Prod.snd (fP_chord_J22 t0 σ) :=
  kQ_ri h
theorem qfP_chord (x1 : Int) {σ0 σ : KM} (h : kFr wfP_chord σ0 σ) : kQ wfP_chord σ0 Prod.snd (fP_chord x1 σ) :=
  kQ_call (rfP_noWindow _ _) rfl h fun r2 τ1 h =>
 kQ_eq
 (kQ_rd fun y3 =>
 qfP_chord_J22 _ h)
 (qfP_chord_J22 _ h)
theorem rfP_chord (x1 : Int) (σ : KM) : kQ wfP_chord σ Prod.snd (fP_chord x1 σ) := qfP_chord x1 kFr.rf
abbrev wfP_modeOf : List (Nat × Option Int) := []
theorem qfP_modeOf_J11 (t0 : Int) {σ0 σ : KM} (h : kFr wfP_modeOf σ0 σ) : kQ wfP_modeOf σ0 Prod.snd (fP_modeOf_J11 t0 σ) :=
  kQ_ri h
theorem qfP_modeOf (x0 : Int) {σ0 σ : KM} (h : kFr wfP_modeOf σ0 σ) : kQ wfP_modeOf σ0 Prod.snd (fP_modeOf x0 σ) :=
  kQ_lt
 (qfP_modeOf_J11 _ h)
 (qfP_modeOf_J11 _ h)
theorem rfP_modeOf (x0 : Int) (σ : KM) : kQ wfP_modeOf σ Prod.snd (fP_modeOf x0 σ) := qfP_modeOf x0 kFr.rf
abbrev wfPr_weigh : List (Nat × Option Int) := []
theorem qfPr_weigh_J61 (x5 : Int) {σ0 σ : KM} (h : kFr wfPr_weigh σ0 σ) : kQ wfPr_weigh σ0 Prod.snd (fPr_weigh_J61 x5 σ) :=
  kQ_ri h
theorem qfPr_weigh_B15 (x2 x3 x4 x5 x6 : Int) {σ0 σ : KM} (h : kFr wfPr_weigh σ0 σ) : kQ wfPr_weigh σ0 (Sum.elim (fun s : Int × Int × KM => s.2.2) Prod.snd) (fPr_weigh_B15 x2 x3 x4 x5 x6 σ) :=
  kQ_lt
 (kQ_rd fun y1 =>
 kQ_rm fun y2 =>
 kQ_rd fun y3 =>
 kQ_let fun y4 =>
 kQ_let fun y5 =>
 kQ_inl h)
 (kQ_exit (qfPr_weigh_J61 _ h))
theorem qfPr_weigh_L15 (x2 x3 x4 x5 x6 : Int) {σ0 σ : KM} (h : kFr wfPr_weigh σ0 σ) : kQ wfPr_weigh σ0 Prod.snd (fPr_weigh_L15 x2 x3 x4 x5 x6 σ) :=
  kQ_iter (mf := fun s : Int × Int × KM => s.2.2) (fun s h => qfPr_weigh_B15 x2 x3 x4 s.1 s.2.1 h) kF (x5, x6, σ) h
theorem qfPr_weigh (x2 x3 : Int) {σ0 σ : KM} (h : kFr wfPr_weigh σ0 σ) : kQ wfPr_weigh σ0 Prod.snd (fPr_weigh x2 x3 σ) :=
  kQ_call (rfP_modeOf _ _) rfl h fun r2 τ1 h =>
 kQ_let fun y3 =>
 qfPr_weigh_L15 _ _ _ _ _ h
theorem rfPr_weigh (x2 x3 : Int) (σ : KM) : kQ wfPr_weigh σ Prod.snd (fPr_weigh x2 x3 σ) := qfPr_weigh x2 x3 kFr.rf
abbrev wfPr_judgeRow : List (Nat × Option Int) := [(28, none), (29, none)]
theorem qfPr_judgeRow_J84 {σ0 σ : KM} (h : kFr wfPr_judgeRow σ0 σ) : kQ wfPr_judgeRow σ0 Prod.snd (fPr_judgeRow_J84 σ) :=
  kQ_ri h
theorem qfPr_judgeRow_J45 (x2 x3 x4 t0 : Int) {σ0 σ : KM} (h : kFr wfPr_judgeRow σ0 σ) : kQ wfPr_judgeRow σ0 (Sum.elim (fun s : Int × KM => s.2) Prod.snd) (fPr_judgeRow_J45 x2 x3 x4 t0 σ) :=
  kQ_wr rfl h fun τ1 h =>
 kQ_rd fun y2 =>
 kQ_mx fun y3 =>
 kQ_wr rfl h fun τ4 h =>
 kQ_let fun y5 =>
 kQ_inl h
theorem qfPr_judgeRow_B17 (x2 x3 x4 : Int) {σ0 σ : KM} (h : kFr wfPr_judgeRow σ0 σ) : kQ wfPr_judgeRow σ0 (Sum.elim (fun s : Int × KM => s.2) Prod.snd) (fPr_judgeRow_B17 x2 x3 x4 σ) :=
  kQ_lt
 (kQ_eq
 (qfPr_judgeRow_J45 _ _ _ _ h)
 (kQ_call (rfPr_weigh _ _ _) rfl h fun r2 τ1 h =>
 kQ_dv fun y3 =>
 qfPr_judgeRow_J45 _ _ _ _ h))
 (kQ_exit (qfPr_judgeRow_J84  h))
theorem qfPr_judgeRow_L17 (x2 x3 x4 : Int) {σ0 σ : KM} (h : kFr wfPr_judgeRow σ0 σ) : kQ wfPr_judgeRow σ0 Prod.snd (fPr_judgeRow_L17 x2 x3 x4 σ) :=
  kQ_iter (mf := fun s : Int × KM => s.2) (fun s h => qfPr_judgeRow_B17 x2 x3 s.1 h) kF (x4, σ) h
theorem qfPr_judgeRow (x2 : Int) {σ0 σ : KM} (h : kFr wfPr_judgeRow σ0 σ) : kQ wfPr_judgeRow σ0 Prod.snd (fPr_judgeRow x2 σ) :=
  kQ_rd fun y1 =>
 kQ_wr rfl h fun τ2 h =>
 qfPr_judgeRow_L17 _ _ _ h
theorem rfPr_judgeRow (x2 : Int) (σ : KM) : kQ wfPr_judgeRow σ Prod.snd (fPr_judgeRow x2 σ) := qfPr_judgeRow x2 kFr.rf
abbrev wfPr_judge : List (Nat × Option Int) := [(6, some 3), (28, none), (29, none)]
theorem qfPr_judge_J22 {σ0 σ : KM} (h : kFr wfPr_judge σ0 σ) : kQ wfPr_judge σ0 Prod.snd (fPr_judge_J22 σ) :=
  kQ_call (rfPr_judgeRow _ _) rfl h fun _ τ1 h =>
 kQ_wfz rfl h fun τ2 h =>
 kQ_ri h
theorem qfPr_judge_B2 (x2 : Int) {σ0 σ : KM} (h : kFr wfPr_judge σ0 σ) : kQ wfPr_judge σ0 (Sum.elim (fun s : Int × KM => s.2) Prod.snd) (fPr_judge_B2 x2 σ) :=
  kQ_lt
 (kQ_call (rfPr_judgeRow _ _) rfl h fun _ τ1 h =>
 kQ_let fun y2 =>
 kQ_inl h)
 (kQ_exit (qfPr_judge_J22  h))
theorem qfPr_judge_L2 (x2 : Int) {σ0 σ : KM} (h : kFr wfPr_judge σ0 σ) : kQ wfPr_judge σ0 Prod.snd (fPr_judge_L2 x2 σ) :=
  kQ_iter (mf := fun s : Int × KM => s.2) (fun s h => qfPr_judge_B2 s.1 h) kF (x2, σ) h
theorem qfPr_judge {σ0 σ : KM} (h : kFr wfPr_judge σ0 σ) : kQ wfPr_judge σ0 Prod.snd (fPr_judge σ) :=
  qfPr_judge_L2 _ h
theorem rfPr_judge (σ : KM) : kQ wfPr_judge σ Prod.snd (fPr_judge σ) := qfPr_judge  kFr.rf
abbrev wfP_freshFits : List (Nat × Option Int) := [(5, some 2), (5, some 6), (6, some 3), (24, none), (25, none), (26, none), (28, none), (29, none)]
theorem qfP_freshFits_J25 {σ0 σ : KM} (h : kFr wfP_freshFits σ0 σ) : kQ wfP_freshFits σ0 Prod.snd (fP_freshFits_J25 σ) :=
  kQ_ri h
theorem qfP_freshFits {σ0 σ : KM} (h : kFr wfP_freshFits σ0 σ) : kQ wfP_freshFits σ0 Prod.snd (fP_freshFits σ) :=
  kQ_call (rfP_freshWindows _) rfl h fun _ τ1 h =>
 kQ_eq
 (qfP_freshFits_J25  h)
 (kQ_call (rfPr_judge _) rfl h fun _ τ2 h =>
 qfP_freshFits_J25  h)
theorem rfP_freshFits (σ : KM) : kQ wfP_freshFits σ Prod.snd (fP_freshFits σ) := qfP_freshFits  kFr.rf
abbrev wfAr_fill2_32 : List (Nat × Option Int) := [(32, none)]
theorem qfAr_fill2_32_J20 {σ0 σ : KM} (h : kFr wfAr_fill2_32 σ0 σ) : kQ wfAr_fill2_32 σ0 Prod.snd (fAr_fill2_32_J20 σ) :=
  kQ_ri h
theorem qfAr_fill2_32_B5 (x1 x3 x2 : Int) {σ0 σ : KM} (h : kFr wfAr_fill2_32 σ0 σ) : kQ wfAr_fill2_32 σ0 (Sum.elim (fun s : Int × KM => s.2) Prod.snd) (fAr_fill2_32_B5 x1 x3 x2 σ) :=
  kQ_lt
 (kQ_wr rfl h fun τ1 h =>
 kQ_let fun y2 =>
 kQ_inl h)
 (kQ_exit (qfAr_fill2_32_J20  h))
theorem qfAr_fill2_32_L5 (x1 x3 x2 : Int) {σ0 σ : KM} (h : kFr wfAr_fill2_32 σ0 σ) : kQ wfAr_fill2_32 σ0 Prod.snd (fAr_fill2_32_L5 x1 x3 x2 σ) :=
  kQ_iter (mf := fun s : Int × KM => s.2) (fun s h => qfAr_fill2_32_B5 x1 x3 s.1 h) kF (x2, σ) h
theorem qfAr_fill2_32 (x1 : Int) {σ0 σ : KM} (h : kFr wfAr_fill2_32 σ0 σ) : kQ wfAr_fill2_32 σ0 Prod.snd (fAr_fill2_32 x1 σ) :=
  qfAr_fill2_32_L5 _ _ _ h
theorem rfAr_fill2_32 (x1 : Int) (σ : KM) : kQ wfAr_fill2_32 σ Prod.snd (fAr_fill2_32 x1 σ) := qfAr_fill2_32 x1 kFr.rf
abbrev wfNe_raised : List (Nat × Option Int) := []
theorem qfNe_raised (x0 x1 x2 : Int) {σ0 σ : KM} (h : kFr wfNe_raised σ0 σ) : kQ wfNe_raised σ0 Prod.snd (fNe_raised x0 x1 x2 σ) :=
  kQ_rm fun y1 =>
 kQ_ri h
theorem rfNe_raised (x0 x1 x2 : Int) (σ : KM) : kQ wfNe_raised σ Prod.snd (fNe_raised x0 x1 x2 σ) := qfNe_raised x0 x1 x2 kFr.rf
abbrev wfNe_neighbour : List (Nat × Option Int) := []
theorem qfNe_neighbour_J45 (x2 t0 t1 : Int) {σ0 σ : KM} (h : kFr wfNe_neighbour σ0 σ) : kQ wfNe_neighbour σ0 Prod.snd (fNe_neighbour_J45 x2 t0 t1 σ) :=
  kQ_call (rfNe_raised _ _ _ _) rfl h fun r2 τ1 h =>
 kQ_ri h
theorem qfNe_neighbour (x0 x1 : Int) {σ0 σ : KM} (h : kFr wfNe_neighbour σ0 σ) : kQ wfNe_neighbour σ0 Prod.snd (fNe_neighbour x0 x1 σ) :=
  kQ_call (rfP_modeOf _ _) rfl h fun r2 τ1 h =>
 kQ_eq
 (kQ_call (rfNe_raised _ _ _ _) rfl h fun r8 τ7 h =>
 kQ_ri h)
 (kQ_eq
 (kQ_call (rfNe_raised _ _ _ _) rfl h fun r6 τ5 h =>
 kQ_ri h)
 (kQ_eq
 (kQ_eq
 (qfNe_neighbour_J45 _ _ _ h)
 (qfNe_neighbour_J45 _ _ _ h))
 (kQ_call (rfNe_raised _ _ _ _) rfl h fun r4 τ3 h =>
 kQ_ri h)))
theorem rfNe_neighbour (x0 x1 : Int) (σ : KM) : kQ wfNe_neighbour σ Prod.snd (fNe_neighbour x0 x1 σ) := qfNe_neighbour x0 x1 kFr.rf
abbrev wfNe_rankOfStep : List (Nat × Option Int) := []
theorem qfNe_rankOfStep_J32 (x2 : Int) {σ0 σ : KM} (h : kFr wfNe_rankOfStep σ0 σ) : kQ wfNe_rankOfStep σ0 Prod.snd (fNe_rankOfStep_J32 x2 σ) :=
  kQ_ri h
theorem qfNe_rankOfStep_J14 {σ0 σ : KM} (h : kFr wfNe_rankOfStep σ0 σ) : kQ wfNe_rankOfStep σ0 Prod.snd (fNe_rankOfStep_J14 σ) :=
  kQ_let fun y1 =>
 qfNe_rankOfStep_J32 _ h
theorem qfNe_rankOfStep (x1 : Int) {σ0 σ : KM} (h : kFr wfNe_rankOfStep σ0 σ) : kQ wfNe_rankOfStep σ0 Prod.snd (fNe_rankOfStep x1 σ) :=
  kQ_let fun y1 =>
 kQ_eq
 (qfNe_rankOfStep_J14  h)
 (kQ_eq
 (qfNe_rankOfStep_J14  h)
 (kQ_eq
 (kQ_let fun y2 =>
 qfNe_rankOfStep_J32 _ h)
 (qfNe_rankOfStep_J32 _ h)))
theorem rfNe_rankOfStep (x1 : Int) (σ : KM) : kQ wfNe_rankOfStep σ Prod.snd (fNe_rankOfStep x1 σ) := qfNe_rankOfStep x1 kFr.rf
abbrev wfNe_reachFrom : List (Nat × Option Int) := [(32, none)]
theorem qfNe_reachFrom_J117 {σ0 σ : KM} (h : kFr wfNe_reachFrom σ0 σ) : kQ wfNe_reachFrom σ0 Prod.snd (fNe_reachFrom_J117 σ) :=
  kQ_ri h
theorem qfNe_reachFrom_J111 (x2 x3 : Int) {σ0 σ : KM} (h : kFr wfNe_reachFrom σ0 σ) : kQ wfNe_reachFrom σ0 (Sum.elim (fun s : Int × Int × KM => s.2.2) Prod.snd) (fNe_reachFrom_J111 x2 x3 σ) :=
  kQ_let fun y1 =>
 kQ_inl h
theorem qfNe_reachFrom_J105 (x2 x3 x4 : Int) {σ0 σ : KM} (h : kFr wfNe_reachFrom σ0 σ) : kQ wfNe_reachFrom σ0 (Sum.elim (fun s : Int × Int × KM => s.2.2) (Sum.elim (fun s : Int × Int × KM => s.2.2) Prod.snd)) (fNe_reachFrom_J105 x2 x3 x4 σ) :=
  kQ_let fun y1 =>
 kQ_inl h
theorem qfNe_reachFrom_J99 (x2 x3 x4 x5 : Int) {σ0 σ : KM} (h : kFr wfNe_reachFrom σ0 σ) : kQ wfNe_reachFrom σ0 (Sum.elim (fun s : Int × Int × KM => s.2.2) (Sum.elim (fun s : Int × Int × KM => s.2.2) (Sum.elim (fun s : Int × Int × KM => s.2.2) Prod.snd))) (fNe_reachFrom_J99 x2 x3 x4 x5 σ) :=
  kQ_let fun y1 =>
 kQ_inl h
theorem qfNe_reachFrom_B45 (x3 x4 x2 x5 : Int) {σ0 σ : KM} (h : kFr wfNe_reachFrom σ0 σ) : kQ wfNe_reachFrom σ0 (Sum.elim (fun s : Int × Int × KM => s.2.2) (Sum.elim (fun s : Int × Int × KM => s.2.2) (Sum.elim (fun s : Int × Int × KM => s.2.2) Prod.snd))) (fNe_reachFrom_B45 x3 x4 x2 x5 σ) :=
  kQ_lt
 (kQ_call (rfNe_neighbour _ _ _) rfl h fun r2 τ1 h =>
 kQ_rd fun y3 =>
 kQ_call (rfNe_rankOfStep _ _) rfl h fun r5 τ4 h =>
 kQ_let fun y6 =>
 kQ_rd fun y7 =>
 kQ_lt
 (kQ_wr rfl h fun τ8 h =>
 qfNe_reachFrom_J99 _ _ _ _ h)
 (qfNe_reachFrom_J99 _ _ _ _ h))
 (kQ_exit (qfNe_reachFrom_J105 _ _ _ h))
theorem qfNe_reachFrom_L45 (x3 x4 x2 x5 : Int) {σ0 σ : KM} (h : kFr wfNe_reachFrom σ0 σ) : kQ wfNe_reachFrom σ0 (Sum.elim (fun s : Int × Int × KM => s.2.2) (Sum.elim (fun s : Int × Int × KM => s.2.2) Prod.snd)) (fNe_reachFrom_L45 x3 x4 x2 x5 σ) :=
  kQ_iter (mf := fun s : Int × Int × KM => s.2.2) (fun s h => qfNe_reachFrom_B45 x3 x4 s.1 s.2.1 h) kF (x2, x5, σ) h
theorem qfNe_reachFrom_B35 (x3 x2 x4 : Int) {σ0 σ : KM} (h : kFr wfNe_reachFrom σ0 σ) : kQ wfNe_reachFrom σ0 (Sum.elim (fun s : Int × Int × KM => s.2.2) (Sum.elim (fun s : Int × Int × KM => s.2.2) Prod.snd)) (fNe_reachFrom_B35 x3 x2 x4 σ) :=
  kQ_lt
 (qfNe_reachFrom_L45 _ _ _ _ h)
 (kQ_exit (qfNe_reachFrom_J111 _ _ h))
theorem qfNe_reachFrom_L35 (x3 x2 x4 : Int) {σ0 σ : KM} (h : kFr wfNe_reachFrom σ0 σ) : kQ wfNe_reachFrom σ0 (Sum.elim (fun s : Int × Int × KM => s.2.2) Prod.snd) (fNe_reachFrom_L35 x3 x2 x4 σ) :=
  kQ_iter (mf := fun s : Int × Int × KM => s.2.2) (fun s h => qfNe_reachFrom_B35 x3 s.1 s.2.1 h) kF (x2, x4, σ) h
theorem qfNe_reachFrom_B20 (x2 x3 : Int) {σ0 σ : KM} (h : kFr wfNe_reachFrom σ0 σ) : kQ wfNe_reachFrom σ0 (Sum.elim (fun s : Int × Int × KM => s.2.2) Prod.snd) (fNe_reachFrom_B20 x2 x3 σ) :=
  kQ_lt
 (kQ_eq
 (kQ_exit (qfNe_reachFrom_J117  h))
 (qfNe_reachFrom_L35 _ _ _ h))
 (kQ_exit (qfNe_reachFrom_J117  h))
theorem qfNe_reachFrom_L20 (x2 x3 : Int) {σ0 σ : KM} (h : kFr wfNe_reachFrom σ0 σ) : kQ wfNe_reachFrom σ0 Prod.snd (fNe_reachFrom_L20 x2 x3 σ) :=
  kQ_iter (mf := fun s : Int × Int × KM => s.2.2) (fun s h => qfNe_reachFrom_B20 s.1 s.2.1 h) kF (x2, x3, σ) h
theorem qfNe_reachFrom (x1 : Int) {σ0 σ : KM} (h : kFr wfNe_reachFrom σ0 σ) : kQ wfNe_reachFrom σ0 Prod.snd (fNe_reachFrom x1 σ) :=
  kQ_call (rfAr_fill2_32 _ _) rfl h fun _ τ1 h =>
 kQ_wr rfl h fun τ2 h =>
 qfNe_reachFrom_L20 _ _ h
theorem rfNe_reachFrom (x1 : Int) (σ : KM) : kQ wfNe_reachFrom σ Prod.snd (fNe_reachFrom x1 σ) := qfNe_reachFrom x1 kFr.rf
abbrev wfNe_copyRow : List (Nat × Option Int) := [(30, none), (31, none)]
theorem qfNe_copyRow_J59 {σ0 σ : KM} (h : kFr wfNe_copyRow σ0 σ) : kQ wfNe_copyRow σ0 Prod.snd (fNe_copyRow_J59 σ) :=
  kQ_ri h
theorem qfNe_copyRow_B2 (x1 x2 x3 : Int) {σ0 σ : KM} (h : kFr wfNe_copyRow σ0 σ) : kQ wfNe_copyRow σ0 (Sum.elim (fun s : Int × KM => s.2) Prod.snd) (fNe_copyRow_B2 x1 x2 x3 σ) :=
  kQ_lt
 (kQ_call (rfP_modeOf _ _) rfl h fun r2 τ1 h =>
 kQ_call (rfNe_raised _ _ _ _) rfl h fun r4 τ3 h =>
 kQ_let fun y5 =>
 kQ_rd fun y6 =>
 kQ_wr rfl h fun τ7 h =>
 kQ_rd fun y8 =>
 kQ_dv fun y9 =>
 kQ_wr rfl h fun τ10 h =>
 kQ_let fun y11 =>
 kQ_inl h)
 (kQ_exit (qfNe_copyRow_J59  h))
theorem qfNe_copyRow_L2 (x1 x2 x3 : Int) {σ0 σ : KM} (h : kFr wfNe_copyRow σ0 σ) : kQ wfNe_copyRow σ0 Prod.snd (fNe_copyRow_L2 x1 x2 x3 σ) :=
  kQ_iter (mf := fun s : Int × KM => s.2) (fun s h => qfNe_copyRow_B2 x1 x2 s.1 h) kF (x3, σ) h
theorem qfNe_copyRow (x1 x2 : Int) {σ0 σ : KM} (h : kFr wfNe_copyRow σ0 σ) : kQ wfNe_copyRow σ0 Prod.snd (fNe_copyRow x1 x2 σ) :=
  qfNe_copyRow_L2 _ _ _ h
theorem rfNe_copyRow (x1 x2 : Int) (σ : KM) : kQ wfNe_copyRow σ Prod.snd (fNe_copyRow x1 x2 σ) := qfNe_copyRow x1 x2 kFr.rf
abbrev wfNe_refresh : List (Nat × Option Int) := [(7, some 4), (30, none), (31, none), (32, none)]
theorem qfNe_refresh_J54 {σ0 σ : KM} (h : kFr wfNe_refresh σ0 σ) : kQ wfNe_refresh σ0 Prod.snd (fNe_refresh_J54 σ) :=
  kQ_wfz rfl h fun τ1 h =>
 kQ_ri h
theorem qfNe_refresh_J48 (x1 : Int) {σ0 σ : KM} (h : kFr wfNe_refresh σ0 σ) : kQ wfNe_refresh σ0 (Sum.elim (fun s : Int × KM => s.2) Prod.snd) (fNe_refresh_J48 x1 σ) :=
  kQ_let fun y1 =>
 kQ_inl h
theorem qfNe_refresh_B25 (x1 x2 : Int) {σ0 σ : KM} (h : kFr wfNe_refresh σ0 σ) : kQ wfNe_refresh σ0 (Sum.elim (fun s : Int × KM => s.2) (Sum.elim (fun s : Int × KM => s.2) Prod.snd)) (fNe_refresh_B25 x1 x2 σ) :=
  kQ_lt
 (kQ_call (rfNe_copyRow _ _ _) rfl h fun _ τ1 h =>
 kQ_let fun y2 =>
 kQ_inl h)
 (kQ_exit (qfNe_refresh_J48 _ h))
theorem qfNe_refresh_L25 (x1 x2 : Int) {σ0 σ : KM} (h : kFr wfNe_refresh σ0 σ) : kQ wfNe_refresh σ0 (Sum.elim (fun s : Int × KM => s.2) Prod.snd) (fNe_refresh_L25 x1 x2 σ) :=
  kQ_iter (mf := fun s : Int × KM => s.2) (fun s h => qfNe_refresh_B25 x1 s.1 h) kF (x2, σ) h
theorem qfNe_refresh_B10 (x1 : Int) {σ0 σ : KM} (h : kFr wfNe_refresh σ0 σ) : kQ wfNe_refresh σ0 (Sum.elim (fun s : Int × KM => s.2) Prod.snd) (fNe_refresh_B10 x1 σ) :=
  kQ_lt
 (kQ_call (rfNe_reachFrom _ _) rfl h fun _ τ1 h =>
 qfNe_refresh_L25 _ _ h)
 (kQ_exit (qfNe_refresh_J54  h))
theorem qfNe_refresh_L10 (x1 : Int) {σ0 σ : KM} (h : kFr wfNe_refresh σ0 σ) : kQ wfNe_refresh σ0 Prod.snd (fNe_refresh_L10 x1 σ) :=
  kQ_iter (mf := fun s : Int × KM => s.2) (fun s h => qfNe_refresh_B10 s.1 h) kF (x1, σ) h
theorem qfNe_refresh {σ0 σ : KM} (h : kFr wfNe_refresh σ0 σ) : kQ wfNe_refresh σ0 Prod.snd (fNe_refresh σ) :=
  kQ_eq
 (kQ_ri h)
 (qfNe_refresh_L10 _ h)
theorem rfNe_refresh (σ : KM) : kQ wfNe_refresh σ Prod.snd (fNe_refresh σ) := qfNe_refresh  kFr.rf
abbrev wfFi_judge : List (Nat × Option Int) := [(8, some 1), (34, none), (35, none)]
theorem qfFi_judge_J132 {σ0 σ : KM} (h : kFr wfFi_judge σ0 σ) : kQ wfFi_judge σ0 Prod.snd (fFi_judge_J132 σ) :=
  kQ_ri h
theorem qfFi_judge_J126 (x3 : Int) {σ0 σ : KM} (h : kFr wfFi_judge σ0 σ) : kQ wfFi_judge σ0 (Sum.elim (fun s : Int × KM => s.2) Prod.snd) (fFi_judge_J126 x3 σ) :=
  kQ_let fun y1 =>
 kQ_inl h
theorem qfFi_judge_J119 (x3 x4 t0 t1 : Int) {σ0 σ : KM} (h : kFr wfFi_judge σ0 σ) : kQ wfFi_judge σ0 (Sum.elim (fun s : Int × KM => s.2) (Sum.elim (fun s : Int × KM => s.2) Prod.snd)) (fFi_judge_J119 x3 x4 t0 t1 σ) :=
  kQ_wr rfl h fun τ1 h =>
 kQ_let fun y2 =>
 kQ_inl h
theorem qfFi_judge_J87 (x3 x4 x5 t0 : Int) {σ0 σ : KM} (h : kFr wfFi_judge σ0 σ) : kQ wfFi_judge σ0 (Sum.elim (fun s : Int × KM => s.2) (Sum.elim (fun s : Int × KM => s.2) Prod.snd)) (fFi_judge_J87 x3 x4 x5 t0 σ) :=
  kQ_eq
 (qfFi_judge_J119 _ _ _ _ h)
 (kQ_rd fun y1 =>
 kQ_rd fun y2 =>
 qfFi_judge_J119 _ _ _ _ h)
theorem qfFi_judge_J82 (x3 x4 x5 : Int) {σ0 σ : KM} (h : kFr wfFi_judge σ0 σ) : kQ wfFi_judge σ0 (Sum.elim (fun s : Int × KM => s.2) (Sum.elim (fun s : Int × KM => s.2) Prod.snd)) (fFi_judge_J82 x3 x4 x5 σ) :=
  qfFi_judge_J87 _ _ _ _ h
theorem qfFi_judge_B45 (x3 x4 : Int) {σ0 σ : KM} (h : kFr wfFi_judge σ0 σ) : kQ wfFi_judge σ0 (Sum.elim (fun s : Int × KM => s.2) (Sum.elim (fun s : Int × KM => s.2) Prod.snd)) (fFi_judge_B45 x3 x4 σ) :=
  kQ_lt
 (kQ_let fun y1 =>
 kQ_rd fun y2 =>
 kQ_eq
 (qfFi_judge_J82 _ _ _ h)
 (kQ_rd fun y3 =>
 kQ_eq
 (qfFi_judge_J82 _ _ _ h)
 (qfFi_judge_J87 _ _ _ _ h)))
 (kQ_exit (qfFi_judge_J126 _ h))
theorem qfFi_judge_L45 (x3 x4 : Int) {σ0 σ : KM} (h : kFr wfFi_judge σ0 σ) : kQ wfFi_judge σ0 (Sum.elim (fun s : Int × KM => s.2) Prod.snd) (fFi_judge_L45 x3 x4 σ) :=
  kQ_iter (mf := fun s : Int × KM => s.2) (fun s h => qfFi_judge_B45 x3 s.1 h) kF (x4, σ) h
theorem qfFi_judge_J41 (x3 t0 t1 : Int) {σ0 σ : KM} (h : kFr wfFi_judge σ0 σ) : kQ wfFi_judge σ0 (Sum.elim (fun s : Int × KM => s.2) Prod.snd) (fFi_judge_J41 x3 t0 t1 σ) :=
  kQ_wz rfl h fun τ1 h =>
 qfFi_judge_L45 _ _ h
theorem qfFi_judge_J40 (x3 t0 : Int) {σ0 σ : KM} (h : kFr wfFi_judge σ0 σ) : kQ wfFi_judge σ0 (Sum.elim (fun s : Int × KM => s.2) Prod.snd) (fFi_judge_J40 x3 t0 σ) :=
  qfFi_judge_J41 _ _ _ h
theorem qfFi_judge_B10 (x3 : Int) {σ0 σ : KM} (h : kFr wfFi_judge σ0 σ) : kQ wfFi_judge σ0 (Sum.elim (fun s : Int × KM => s.2) Prod.snd) (fFi_judge_B10 x3 σ) :=
  kQ_lt
 (kQ_lt
 (kQ_rd fun y1 =>
 kQ_eq
 (qfFi_judge_J41 _ _ _ h)
 (qfFi_judge_J40 _ _ h))
 (qfFi_judge_J40 _ _ h))
 (kQ_exit (qfFi_judge_J132  h))
theorem qfFi_judge_L10 (x3 : Int) {σ0 σ : KM} (h : kFr wfFi_judge σ0 σ) : kQ wfFi_judge σ0 Prod.snd (fFi_judge_L10 x3 σ) :=
  kQ_iter (mf := fun s : Int × KM => s.2) (fun s h => qfFi_judge_B10 s.1 h) kF (x3, σ) h
theorem qfFi_judge {σ0 σ : KM} (h : kFr wfFi_judge σ0 σ) : kQ wfFi_judge σ0 Prod.snd (fFi_judge σ) :=
  kQ_wf rfl h fun τ1 h =>
 qfFi_judge_L10 _ h
theorem rfFi_judge (σ : KM) : kQ wfFi_judge σ Prod.snd (fFi_judge σ) := qfFi_judge  kFr.rf
abbrev wfFi_findLeast : List (Nat × Option Int) := [(8, some 7), (8, some 8), (8, some 9)]
theorem qfFi_findLeast_J138 (t0 : Int) {σ0 σ : KM} (h : kFr wfFi_findLeast σ0 σ) : kQ wfFi_findLeast σ0 Prod.snd (fFi_findLeast_J138 t0 σ) :=
  kQ_wfz rfl h fun τ1 h =>
 kQ_ri h
theorem qfFi_findLeast_J123 {σ0 σ : KM} (h : kFr wfFi_findLeast σ0 σ) : kQ wfFi_findLeast σ0 Prod.snd (fFi_findLeast_J123 σ) :=
  kQ_lt
 (qfFi_findLeast_J138 _ h)
 (qfFi_findLeast_J138 _ h)
theorem qfFi_findLeast_J117 (x1 : Int) {σ0 σ : KM} (h : kFr wfFi_findLeast σ0 σ) : kQ wfFi_findLeast σ0 (Sum.elim (fun s : Int × KM => s.2) Prod.snd) (fFi_findLeast_J117 x1 σ) :=
  kQ_let fun y1 =>
 kQ_inl h
theorem qfFi_findLeast_B35 (x1 : Int) {σ0 σ : KM} (h : kFr wfFi_findLeast σ0 σ) : kQ wfFi_findLeast σ0 (Sum.elim (fun s : Int × KM => s.2) Prod.snd) (fFi_findLeast_B35 x1 σ) :=
  kQ_lt
 (kQ_lt
 (kQ_rd fun y1 =>
 kQ_lt
 (kQ_rd fun y6 =>
 kQ_wf rfl h fun τ7 h =>
 kQ_rd fun y8 =>
 kQ_wf rfl h fun τ9 h =>
 qfFi_findLeast_J117 _ h)
 (kQ_rd fun y2 =>
 kQ_eq
 (kQ_rd fun y3 =>
 kQ_mn fun y4 =>
 kQ_wf rfl h fun τ5 h =>
 qfFi_findLeast_J117 _ h)
 (qfFi_findLeast_J117 _ h)))
 (kQ_exit (qfFi_findLeast_J123  h)))
 (kQ_exit (qfFi_findLeast_J123  h))
theorem qfFi_findLeast_L35 (x1 : Int) {σ0 σ : KM} (h : kFr wfFi_findLeast σ0 σ) : kQ wfFi_findLeast σ0 Prod.snd (fFi_findLeast_L35 x1 σ) :=
  kQ_iter (mf := fun s : Int × KM => s.2) (fun s h => qfFi_findLeast_B35 s.1 h) kF (x1, σ) h
theorem qfFi_findLeast_J30 (t0 : Int) {σ0 σ : KM} (h : kFr wfFi_findLeast σ0 σ) : kQ wfFi_findLeast σ0 Prod.snd (fFi_findLeast_J30 t0 σ) :=
  kQ_wf rfl h fun τ1 h =>
 qfFi_findLeast_L35 _ h
theorem qfFi_findLeast_J14 (t0 : Int) {σ0 σ : KM} (h : kFr wfFi_findLeast σ0 σ) : kQ wfFi_findLeast σ0 Prod.snd (fFi_findLeast_J14 t0 σ) :=
  kQ_wf rfl h fun τ1 h =>
 kQ_eq
 (qfFi_findLeast_J30 _ h)
 (qfFi_findLeast_J30 _ h)
theorem qfFi_findLeast {σ0 σ : KM} (h : kFr wfFi_findLeast σ0 σ) : kQ wfFi_findLeast σ0 Prod.snd (fFi_findLeast σ) :=
  kQ_eq
 (qfFi_findLeast_J14 _ h)
 (qfFi_findLeast_J14 _ h)
theorem rfFi_findLeast (σ : KM) : kQ wfFi_findLeast σ Prod.snd (fFi_findLeast σ) := qfFi_findLeast  kFr.rf
abbrev wfFi_splitSegments : List (Nat × Option Int) := [(8, some 12), (40, none)]
theorem qfFi_splitSegments_J69 {σ0 σ : KM} (h : kFr wfFi_splitSegments σ0 σ) : kQ wfFi_splitSegments σ0 Prod.snd (fFi_splitSegments_J69 σ) :=
  kQ_ri h
theorem qfFi_splitSegments_J63 (x1 : Int) {σ0 σ : KM} (h : kFr wfFi_splitSegments σ0 σ) : kQ wfFi_splitSegments σ0 (Sum.elim (fun s : Int × KM => s.2) Prod.snd) (fFi_splitSegments_J63 x1 σ) :=
  kQ_let fun y1 =>
 kQ_inl h
theorem qfFi_splitSegments_J43 (x1 : Int) {σ0 σ : KM} (h : kFr wfFi_splitSegments σ0 σ) : kQ wfFi_splitSegments σ0 (Sum.elim (fun s : Int × KM => s.2) Prod.snd) (fFi_splitSegments_J43 x1 σ) :=
  kQ_wr rfl h fun τ1 h =>
 kQ_wf rfl h fun τ2 h =>
 qfFi_splitSegments_J63 _ h
theorem qfFi_splitSegments_B7 (x1 : Int) {σ0 σ : KM} (h : kFr wfFi_splitSegments σ0 σ) : kQ wfFi_splitSegments σ0 (Sum.elim (fun s : Int × KM => s.2) Prod.snd) (fFi_splitSegments_B7 x1 σ) :=
  kQ_lt
 (kQ_eq
 (kQ_exit (qfFi_splitSegments_J69  h))
 (kQ_eq
 (qfFi_splitSegments_J43 _ h)
 (kQ_rd fun y1 =>
 kQ_rd fun y2 =>
 kQ_eq
 (qfFi_splitSegments_J63 _ h)
 (qfFi_splitSegments_J43 _ h))))
 (kQ_exit (qfFi_splitSegments_J69  h))
theorem qfFi_splitSegments_L7 (x1 : Int) {σ0 σ : KM} (h : kFr wfFi_splitSegments σ0 σ) : kQ wfFi_splitSegments σ0 Prod.snd (fFi_splitSegments_L7 x1 σ) :=
  kQ_iter (mf := fun s : Int × KM => s.2) (fun s h => qfFi_splitSegments_B7 s.1 h) kF (x1, σ) h
theorem qfFi_splitSegments {σ0 σ : KM} (h : kFr wfFi_splitSegments σ0 σ) : kQ wfFi_splitSegments σ0 Prod.snd (fFi_splitSegments σ) :=
  kQ_wf rfl h fun τ1 h =>
 qfFi_splitSegments_L7 _ h
theorem rfFi_splitSegments (σ : KM) : kQ wfFi_splitSegments σ Prod.snd (fFi_splitSegments σ) := qfFi_splitSegments  kFr.rf
abbrev wfFi_nextKey : List (Nat × Option Int) := []
theorem qfFi_nextKey_J93 (x2 : Int) {σ0 σ : KM} (h : kFr wfFi_nextKey σ0 σ) : kQ wfFi_nextKey σ0 Prod.snd (fFi_nextKey_J93 x2 σ) :=
  kQ_ri h
theorem qfFi_nextKey_J84 (x5 : Int) {σ0 σ : KM} (h : kFr wfFi_nextKey σ0 σ) : kQ wfFi_nextKey σ0 Prod.snd (fFi_nextKey_J84 x5 σ) :=
  kQ_ri h
theorem qfFi_nextKey_B47 (x1 x2 x4 x5 : Int) {σ0 σ : KM} (h : kFr wfFi_nextKey σ0 σ) : kQ wfFi_nextKey σ0 (Sum.elim (fun s : Int × KM => s.2) Prod.snd) (fFi_nextKey_B47 x1 x2 x4 x5 σ) :=
  kQ_lt
 (kQ_rd fun y1 =>
 kQ_rd fun y2 =>
 kQ_eq
 (kQ_exit (qfFi_nextKey_J84 _ h))
 (kQ_let fun y3 =>
 kQ_inl h))
 (kQ_exit (qfFi_nextKey_J93 _ h))
theorem qfFi_nextKey_L47 (x1 x2 x4 x5 : Int) {σ0 σ : KM} (h : kFr wfFi_nextKey σ0 σ) : kQ wfFi_nextKey σ0 Prod.snd (fFi_nextKey_L47 x1 x2 x4 x5 σ) :=
  kQ_iter (mf := fun s : Int × KM => s.2) (fun s h => qfFi_nextKey_B47 x1 x2 x4 s.1 h) kF (x5, σ) h
theorem qfFi_nextKey (x1 : Int) {σ0 σ : KM} (h : kFr wfFi_nextKey σ0 σ) : kQ wfFi_nextKey σ0 Prod.snd (fFi_nextKey x1 σ) :=
  kQ_rd fun y1 =>
 kQ_rd fun y2 =>
 kQ_eq
 (kQ_let fun y3 =>
 kQ_rd fun y4 =>
 kQ_rd fun y5 =>
 kQ_let fun y6 =>
 qfFi_nextKey_L47 _ _ _ _ h)
 (kQ_ri h)
theorem rfFi_nextKey (x1 : Int) (σ : KM) : kQ wfFi_nextKey σ Prod.snd (fFi_nextKey x1 σ) := qfFi_nextKey x1 kFr.rf
abbrev wfFi_firstKey : List (Nat × Option Int) := []
theorem qfFi_firstKey_J29 {σ0 σ : KM} (h : kFr wfFi_firstKey σ0 σ) : kQ wfFi_firstKey σ0 Prod.snd (fFi_firstKey_J29 σ) :=
  kQ_ri h
theorem qfFi_firstKey_J21 (x1 : Int) {σ0 σ : KM} (h : kFr wfFi_firstKey σ0 σ) : kQ wfFi_firstKey σ0 Prod.snd (fFi_firstKey_J21 x1 σ) :=
  kQ_ri h
theorem qfFi_firstKey_B2 (x1 : Int) {σ0 σ : KM} (h : kFr wfFi_firstKey σ0 σ) : kQ wfFi_firstKey σ0 (Sum.elim (fun s : Int × KM => s.2) Prod.snd) (fFi_firstKey_B2 x1 σ) :=
  kQ_lt
 (kQ_rd fun y1 =>
 kQ_eq
 (kQ_exit (qfFi_firstKey_J21 _ h))
 (kQ_let fun y2 =>
 kQ_inl h))
 (kQ_exit (qfFi_firstKey_J29  h))
theorem qfFi_firstKey_L2 (x1 : Int) {σ0 σ : KM} (h : kFr wfFi_firstKey σ0 σ) : kQ wfFi_firstKey σ0 Prod.snd (fFi_firstKey_L2 x1 σ) :=
  kQ_iter (mf := fun s : Int × KM => s.2) (fun s h => qfFi_firstKey_B2 s.1 h) kF (x1, σ) h
theorem qfFi_firstKey {σ0 σ : KM} (h : kFr wfFi_firstKey σ0 σ) : kQ wfFi_firstKey σ0 Prod.snd (fFi_firstKey σ) :=
  qfFi_firstKey_L2 _ h
theorem rfFi_firstKey (σ : KM) : kQ wfFi_firstKey σ Prod.snd (fFi_firstKey σ) := qfFi_firstKey  kFr.rf
abbrev wfFi_follow : List (Nat × Option Int) := [(39, none)]
theorem qfFi_follow_J38 {σ0 σ : KM} (h : kFr wfFi_follow σ0 σ) : kQ wfFi_follow σ0 Prod.snd (fFi_follow_J38 σ) :=
  kQ_ri h
theorem qfFi_follow_J31 (x1 t0 t1 : Int) {σ0 σ : KM} (h : kFr wfFi_follow σ0 σ) : kQ wfFi_follow σ0 (Sum.elim (fun s : Int × KM => s.2) Prod.snd) (fFi_follow_J31 x1 t0 t1 σ) :=
  kQ_wr rfl h fun τ1 h =>
 kQ_let fun y2 =>
 kQ_inl h
theorem qfFi_follow_B2 (x1 : Int) {σ0 σ : KM} (h : kFr wfFi_follow σ0 σ) : kQ wfFi_follow σ0 (Sum.elim (fun s : Int × KM => s.2) Prod.snd) (fFi_follow_B2 x1 σ) :=
  kQ_lt
 (kQ_eq
 (kQ_call (rfFi_firstKey _) rfl h fun r4 τ3 h =>
 qfFi_follow_J31 _ _ _ h)
 (kQ_call (rfFi_nextKey _ _) rfl h fun r2 τ1 h =>
 qfFi_follow_J31 _ _ _ h))
 (kQ_exit (qfFi_follow_J38  h))
theorem qfFi_follow_L2 (x1 : Int) {σ0 σ : KM} (h : kFr wfFi_follow σ0 σ) : kQ wfFi_follow σ0 Prod.snd (fFi_follow_L2 x1 σ) :=
  kQ_iter (mf := fun s : Int × KM => s.2) (fun s h => qfFi_follow_B2 s.1 h) kF (x1, σ) h
theorem qfFi_follow {σ0 σ : KM} (h : kFr wfFi_follow σ0 σ) : kQ wfFi_follow σ0 Prod.snd (fFi_follow σ) :=
  qfFi_follow_L2 _ h
theorem rfFi_follow (σ : KM) : kQ wfFi_follow σ Prod.snd (fFi_follow σ) := qfFi_follow  kFr.rf
abbrev wfP_plus : List (Nat × Option Int) := []
theorem qfP_plus (x0 x1 : Int) {σ0 σ : KM} (h : kFr wfP_plus σ0 σ) : kQ wfP_plus σ0 Prod.snd (fP_plus x0 x1 σ) :=
  kQ_mn fun y1 =>
 kQ_ri h
theorem rfP_plus (x0 x1 : Int) (σ : KM) : kQ wfP_plus σ Prod.snd (fP_plus x0 x1 σ) := qfP_plus x0 x1 kFr.rf
abbrev wfFi_lookBehind : List (Nat × Option Int) := [(37, none), (38, none)]
theorem qfFi_lookBehind_J47 {σ0 σ : KM} (h : kFr wfFi_lookBehind σ0 σ) : kQ wfFi_lookBehind σ0 Prod.snd (fFi_lookBehind_J47 σ) :=
  kQ_ri h
theorem qfFi_lookBehind_J208 (x3 x5 x6 : Int) {σ0 σ : KM} (h : kFr wfFi_lookBehind σ0 σ) : kQ wfFi_lookBehind σ0 Prod.snd (fFi_lookBehind_J208 x3 x5 x6 σ) :=
  kQ_rd fun y1 =>
 kQ_call (rfP_plus _ _ _) rfl h fun r3 τ2 h =>
 kQ_wr rfl h fun τ4 h =>
 kQ_wr rfl h fun τ5 h =>
 kQ_ri h
theorem qfFi_lookBehind_J202 (x2 x3 x4 x5 x6 x7 : Int) {σ0 σ : KM} (h : kFr wfFi_lookBehind σ0 σ) : kQ wfFi_lookBehind σ0 (Sum.elim (fun s : Int × Int × Int × KM => s.2.2.2) Prod.snd) (fFi_lookBehind_J202 x2 x3 x4 x5 x6 x7 σ) :=
  kQ_let fun y1 =>
 kQ_inl h
theorem qfFi_lookBehind_B117 (x2 x3 x4 x5 x6 x7 : Int) {σ0 σ : KM} (h : kFr wfFi_lookBehind σ0 σ) : kQ wfFi_lookBehind σ0 (Sum.elim (fun s : Int × Int × Int × KM => s.2.2.2) Prod.snd) (fFi_lookBehind_B117 x2 x3 x4 x5 x6 x7 σ) :=
  kQ_lt
 (kQ_rd fun y1 =>
 kQ_rd fun y2 =>
 kQ_let fun y3 =>
 kQ_lt
 (kQ_rd fun y6 =>
 qfFi_lookBehind_J202 _ _ _ _ _ _ h)
 (kQ_eq
 (kQ_rd fun y4 =>
 kQ_mn fun y5 =>
 qfFi_lookBehind_J202 _ _ _ _ _ _ h)
 (qfFi_lookBehind_J202 _ _ _ _ _ _ h)))
 (kQ_exit (qfFi_lookBehind_J208 _ _ _ h))
theorem qfFi_lookBehind_L117 (x2 x3 x4 x5 x6 x7 : Int) {σ0 σ : KM} (h : kFr wfFi_lookBehind σ0 σ) : kQ wfFi_lookBehind σ0 Prod.snd (fFi_lookBehind_L117 x2 x3 x4 x5 x6 x7 σ) :=
  kQ_iter (mf := fun s : Int × Int × Int × KM => s.2.2.2) (fun s h => qfFi_lookBehind_B117 x2 x3 x4 s.1 s.2.1 s.2.2.1 h) kF (x5, x6, x7, σ) h
theorem qfFi_lookBehind (x1 x2 : Int) {σ0 σ : KM} (h : kFr wfFi_lookBehind σ0 σ) : kQ wfFi_lookBehind σ0 Prod.snd (fFi_lookBehind x1 x2 σ) :=
  kQ_let fun y1 =>
 kQ_rd fun y2 =>
 kQ_wr rfl h fun τ3 h =>
 kQ_wr rfl h fun τ4 h =>
 kQ_rd fun y5 =>
 kQ_lt
 (kQ_eq
 (qfFi_lookBehind_J47  h)
 (kQ_rd fun y6 =>
 kQ_eq
 (kQ_let fun y7 =>
 qfFi_lookBehind_L117 _ _ _ _ _ _ h)
 (kQ_rd fun y8 =>
 kQ_rd fun y9 =>
 kQ_call (rfP_plus _ _ _) rfl h fun r11 τ10 h =>
 kQ_wr rfl h fun τ12 h =>
 kQ_rd fun y13 =>
 kQ_wr rfl h fun τ14 h =>
 kQ_ri h)))
 (qfFi_lookBehind_J47  h)
theorem rfFi_lookBehind (x1 x2 : Int) (σ : KM) : kQ wfFi_lookBehind σ Prod.snd (fFi_lookBehind x1 x2 σ) := qfFi_lookBehind x1 x2 kFr.rf
abbrev wfFi_solve : List (Nat × Option Int) := [(8, some 7), (8, some 8), (8, some 9), (8, some 12), (36, none), (37, none), (38, none), (39, none), (40, none)]
theorem qfFi_solve_J84 {σ0 σ : KM} (h : kFr wfFi_solve σ0 σ) : kQ wfFi_solve σ0 Prod.snd (fFi_solve_J84 σ) :=
  kQ_call (rfFi_splitSegments _) rfl h fun _ τ1 h =>
 kQ_ri h
theorem qfFi_solve_J69 {σ0 σ : KM} (h : kFr wfFi_solve σ0 σ) : kQ wfFi_solve σ0 Prod.snd (fFi_solve_J69 σ) :=
  kQ_call (rfFi_findLeast _) rfl h fun _ τ1 h =>
 kQ_eq
 (qfFi_solve_J84  h)
 (kQ_call (rfFi_follow _) rfl h fun _ τ2 h =>
 qfFi_solve_J84  h)
theorem qfFi_solve_J63 (x3 : Int) {σ0 σ : KM} (h : kFr wfFi_solve σ0 σ) : kQ wfFi_solve σ0 (Sum.elim (fun s : Int × KM => s.2) Prod.snd) (fFi_solve_J63 x3 σ) :=
  kQ_let fun y1 =>
 kQ_inl h
theorem qfFi_solve_B43 (x3 x4 : Int) {σ0 σ : KM} (h : kFr wfFi_solve σ0 σ) : kQ wfFi_solve σ0 (Sum.elim (fun s : Int × KM => s.2) (Sum.elim (fun s : Int × KM => s.2) Prod.snd)) (fFi_solve_B43 x3 x4 σ) :=
  kQ_lt
 (kQ_call (rfFi_lookBehind _ _ _) rfl h fun _ τ1 h =>
 kQ_let fun y2 =>
 kQ_inl h)
 (kQ_exit (qfFi_solve_J63 _ h))
theorem qfFi_solve_L43 (x3 x4 : Int) {σ0 σ : KM} (h : kFr wfFi_solve σ0 σ) : kQ wfFi_solve σ0 (Sum.elim (fun s : Int × KM => s.2) Prod.snd) (fFi_solve_L43 x3 x4 σ) :=
  kQ_iter (mf := fun s : Int × KM => s.2) (fun s h => qfFi_solve_B43 x3 s.1 h) kF (x4, σ) h
theorem qfFi_solve_B36 (x3 : Int) {σ0 σ : KM} (h : kFr wfFi_solve σ0 σ) : kQ wfFi_solve σ0 (Sum.elim (fun s : Int × KM => s.2) Prod.snd) (fFi_solve_B36 x3 σ) :=
  kQ_lt
 (kQ_exit (qfFi_solve_J69  h))
 (qfFi_solve_L43 _ _ h)
theorem qfFi_solve_L36 (x3 : Int) {σ0 σ : KM} (h : kFr wfFi_solve σ0 σ) : kQ wfFi_solve σ0 Prod.snd (fFi_solve_L36 x3 σ) :=
  kQ_iter (mf := fun s : Int × KM => s.2) (fun s h => qfFi_solve_B36 s.1 h) kF (x3, σ) h
theorem qfFi_solve_J29 {σ0 σ : KM} (h : kFr wfFi_solve σ0 σ) : kQ wfFi_solve σ0 Prod.snd (fFi_solve_J29 σ) :=
  kQ_let fun y1 =>
 qfFi_solve_L36 _ h
theorem qfFi_solve_B2 (x2 x3 : Int) {σ0 σ : KM} (h : kFr wfFi_solve σ0 σ) : kQ wfFi_solve σ0 (Sum.elim (fun s : Int × KM => s.2) Prod.snd) (fFi_solve_B2 x2 x3 σ) :=
  kQ_lt
 (kQ_rd fun y1 =>
 kQ_wr rfl h fun τ2 h =>
 kQ_let fun y3 =>
 kQ_inl h)
 (kQ_exit (qfFi_solve_J29  h))
theorem qfFi_solve_L2 (x2 x3 : Int) {σ0 σ : KM} (h : kFr wfFi_solve σ0 σ) : kQ wfFi_solve σ0 Prod.snd (fFi_solve_L2 x2 x3 σ) :=
  kQ_iter (mf := fun s : Int × KM => s.2) (fun s h => qfFi_solve_B2 x2 s.1 h) kF (x3, σ) h
theorem qfFi_solve (x2 : Int) {σ0 σ : KM} (h : kFr wfFi_solve σ0 σ) : kQ wfFi_solve σ0 Prod.snd (fFi_solve x2 σ) :=
  qfFi_solve_L2 _ _ h
theorem rfFi_solve (x2 : Int) (σ : KM) : kQ wfFi_solve σ Prod.snd (fFi_solve x2 σ) := qfFi_solve x2 kFr.rf
abbrev wfDe_forget : List (Nat × Option Int) := [(9, some 1), (9, some 4)]
theorem qfDe_forget {σ0 σ : KM} (h : kFr wfDe_forget σ0 σ) : kQ wfDe_forget σ0 Prod.snd (fDe_forget σ) :=
  kQ_wfz rfl h fun τ1 h =>
 kQ_wfz rfl h fun τ2 h =>
 kQ_ri h
theorem rfDe_forget (σ : KM) : kQ wfDe_forget σ Prod.snd (fDe_forget σ) := qfDe_forget  kFr.rf
abbrev wfP_noPath : List (Nat × Option Int) := [(5, some 2), (5, some 6), (6, some 3), (7, some 4), (8, some 1), (8, some 7), (8, some 8), (8, some 9), (8, some 12), (8, some 13), (8, some 14), (9, some 1), (9, some 4), (24, none), (25, none), (26, none), (28, none), (29, none), (30, none), (31, none), (32, none), (34, none), (35, none), (36, none), (37, none), (38, none), (39, none), (40, none)]
theorem qfP_noPath_J92 (t0 : Int) {σ0 σ : KM} (h : kFr wfP_noPath σ0 σ) : kQ wfP_noPath σ0 Prod.snd (fP_noPath_J92 t0 σ) :=
  kQ_rz h
theorem qfP_noPath_J77 {σ0 σ : KM} (h : kFr wfP_noPath σ0 σ) : kQ wfP_noPath σ0 Prod.snd (fP_noPath_J77 σ) :=
  kQ_eq
 (qfP_noPath_J92 _ h)
 (qfP_noPath_J92 _ h)
theorem qfP_noPath {σ0 σ : KM} (h : kFr wfP_noPath σ0 σ) : kQ wfP_noPath σ0 Prod.snd (fP_noPath σ) :=
  kQ_eq
 (qfP_noPath_J77  h)
 (kQ_call (rfP_freshFits _) rfl h fun _ τ1 h =>
 kQ_call (rfNe_refresh _) rfl h fun _ τ2 h =>
 kQ_call (rfFi_judge _) rfl h fun _ τ3 h =>
 kQ_call (rfFi_solve _ _) rfl h fun _ τ4 h =>
 kQ_wfz rfl h fun τ5 h =>
 kQ_wfz rfl h fun τ6 h =>
 kQ_call (rfDe_forget _) rfl h fun _ τ7 h =>
 qfP_noPath_J77  h)
theorem rfP_noPath (σ : KM) : kQ wfP_noPath σ Prod.snd (fP_noPath σ) := qfP_noPath  kFr.rf
abbrev wfWi_lastSounding : List (Nat × Option Int) := []
theorem qfWi_lastSounding_J27 (x1 : Int) {σ0 σ : KM} (h : kFr wfWi_lastSounding σ0 σ) : kQ wfWi_lastSounding σ0 Prod.snd (fWi_lastSounding_J27 x1 σ) :=
  kQ_ri h
theorem qfWi_lastSounding_B7 (x1 : Int) {σ0 σ : KM} (h : kFr wfWi_lastSounding σ0 σ) : kQ wfWi_lastSounding σ0 (Sum.elim (fun s : Int × KM => s.2) Prod.snd) (fWi_lastSounding_B7 x1 σ) :=
  kQ_lt
 (kQ_exit (qfWi_lastSounding_J27 _ h))
 (kQ_rd fun y1 =>
 kQ_eq
 (kQ_let fun y2 =>
 kQ_inl h)
 (kQ_exit (qfWi_lastSounding_J27 _ h)))
theorem qfWi_lastSounding_L7 (x1 : Int) {σ0 σ : KM} (h : kFr wfWi_lastSounding σ0 σ) : kQ wfWi_lastSounding σ0 Prod.snd (fWi_lastSounding_L7 x1 σ) :=
  kQ_iter (mf := fun s : Int × KM => s.2) (fun s h => qfWi_lastSounding_B7 s.1 h) kF (x1, σ) h
theorem qfWi_lastSounding {σ0 σ : KM} (h : kFr wfWi_lastSounding σ0 σ) : kQ wfWi_lastSounding σ0 Prod.snd (fWi_lastSounding σ) :=
  kQ_let fun y1 =>
 qfWi_lastSounding_L7 _ h
theorem rfWi_lastSounding (σ : KM) : kQ wfWi_lastSounding σ Prod.snd (fWi_lastSounding σ) := qfWi_lastSounding  kFr.rf
abbrev wfP_degreeOn : List (Nat × Option Int) := []
theorem qfP_degreeOn_J48 {σ0 σ : KM} (h : kFr wfP_degreeOn σ0 σ) : kQ wfP_degreeOn σ0 Prod.snd (fP_degreeOn_J48 σ) :=
  kQ_ri h
theorem qfP_degreeOn_J38 (x3 : Int) {σ0 σ : KM} (h : kFr wfP_degreeOn σ0 σ) : kQ wfP_degreeOn σ0 Prod.snd (fP_degreeOn_J38 x3 σ) :=
  kQ_ri h
theorem qfP_degreeOn_B15 (x1 x2 x3 : Int) {σ0 σ : KM} (h : kFr wfP_degreeOn σ0 σ) : kQ wfP_degreeOn σ0 (Sum.elim (fun s : Int × KM => s.2) Prod.snd) (fP_degreeOn_B15 x1 x2 x3 σ) :=
  kQ_lt
 (kQ_call (rfP_modeOf _ _) rfl h fun r2 τ1 h =>
 kQ_rs fun y3 =>
 kQ_eq
 (kQ_exit (qfP_degreeOn_J38 _ h))
 (kQ_let fun y4 =>
 kQ_inl h))
 (kQ_exit (qfP_degreeOn_J48  h))
theorem qfP_degreeOn_L15 (x1 x2 x3 : Int) {σ0 σ : KM} (h : kFr wfP_degreeOn σ0 σ) : kQ wfP_degreeOn σ0 Prod.snd (fP_degreeOn_L15 x1 x2 x3 σ) :=
  kQ_iter (mf := fun s : Int × KM => s.2) (fun s h => qfP_degreeOn_B15 x1 x2 s.1 h) kF (x3, σ) h
theorem qfP_degreeOn (x0 x1 : Int) {σ0 σ : KM} (h : kFr wfP_degreeOn σ0 σ) : kQ wfP_degreeOn σ0 Prod.snd (fP_degreeOn x0 x1 σ) :=
  kQ_rm fun y1 =>
 kQ_rm fun y2 =>
 qfP_degreeOn_L15 _ _ _ h
theorem rfP_degreeOn (x0 x1 : Int) (σ : KM) : kQ wfP_degreeOn σ Prod.snd (fP_degreeOn x0 x1 σ) := qfP_degreeOn x0 x1 kFr.rf
abbrev wfP_degreeOf : List (Nat × Option Int) := []
theorem qfP_degreeOf_J72 (t0 : Int) {σ0 σ : KM} (h : kFr wfP_degreeOf σ0 σ) : kQ wfP_degreeOf σ0 Prod.snd (fP_degreeOf_J72 t0 σ) :=
  kQ_ri h
theorem qfP_degreeOf_J67 (x3 : Int) {σ0 σ : KM} (h : kFr wfP_degreeOf σ0 σ) : kQ wfP_degreeOf σ0 Prod.snd (fP_degreeOf_J67 x3 σ) :=
  qfP_degreeOf_J72 _ h
theorem qfP_degreeOf_J41 (x1 x2 x3 t0 : Int) {σ0 σ : KM} (h : kFr wfP_degreeOf σ0 σ) : kQ wfP_degreeOf σ0 Prod.snd (fP_degreeOf_J41 x1 x2 x3 t0 σ) :=
  kQ_eq
 (kQ_call (rfP_modeOf _ _) rfl h fun r2 τ1 h =>
 kQ_rs fun y3 =>
 kQ_eq
 (qfP_degreeOf_J67 _ h)
 (qfP_degreeOf_J72 _ h))
 (qfP_degreeOf_J67 _ h)
theorem qfP_degreeOf_J40 (x1 x2 x3 : Int) {σ0 σ : KM} (h : kFr wfP_degreeOf σ0 σ) : kQ wfP_degreeOf σ0 Prod.snd (fP_degreeOf_J40 x1 x2 x3 σ) :=
  qfP_degreeOf_J41 _ _ _ _ h
theorem qfP_degreeOf (x0 x1 : Int) {σ0 σ : KM} (h : kFr wfP_degreeOf σ0 σ) : kQ wfP_degreeOf σ0 Prod.snd (fP_degreeOf x0 x1 σ) :=
  kQ_rm fun y1 =>
 kQ_dv fun y2 =>
 kQ_call (rfP_degreeOn _ _ _) rfl h fun r4 τ3 h =>
 kQ_eq
 (kQ_ri h)
 (kQ_call (rfP_modeOf _ _) rfl h fun r6 τ5 h =>
 kQ_eq
 (kQ_eq
 (kQ_eq
 (qfP_degreeOf_J41 _ _ _ _ h)
 (qfP_degreeOf_J40 _ _ _ h))
 (qfP_degreeOf_J40 _ _ _ h))
 (qfP_degreeOf_J40 _ _ _ h))
theorem rfP_degreeOf (x0 x1 : Int) (σ : KM) : kQ wfP_degreeOf σ Prod.snd (fP_degreeOf x0 x1 σ) := qfP_degreeOf x0 x1 kFr.rf
abbrev wfP_romanOf : List (Nat × Option Int) := []
theorem qfP_romanOf_J32 (t0 : Int) {σ0 σ : KM} (h : kFr wfP_romanOf σ0 σ) : kQ wfP_romanOf σ0 Prod.snd (fP_romanOf_J32 t0 σ) :=
  kQ_ri h
theorem qfP_romanOf (x1 : Int) {σ0 σ : KM} (h : kFr wfP_romanOf σ0 σ) : kQ wfP_romanOf σ0 Prod.snd (fP_romanOf x1 σ) :=
  kQ_rd fun y1 =>
 kQ_eq
 (qfP_romanOf_J32 _ h)
 (kQ_rd fun y2 =>
 kQ_call (rfP_degreeOf _ _ _) rfl h fun r4 τ3 h =>
 qfP_romanOf_J32 _ h)
theorem rfP_romanOf (x1 : Int) (σ : KM) : kQ wfP_romanOf σ Prod.snd (fP_romanOf x1 σ) := qfP_romanOf x1 kFr.rf
abbrev wfWi_otherChordAhead : List (Nat × Option Int) := []
theorem qfWi_otherChordAhead_J42 {σ0 σ : KM} (h : kFr wfWi_otherChordAhead σ0 σ) : kQ wfWi_otherChordAhead σ0 Prod.snd (fWi_otherChordAhead_J42 σ) :=
  kQ_ri h
theorem qfWi_otherChordAhead_J36 (x1 x2 x3 : Int) {σ0 σ : KM} (h : kFr wfWi_otherChordAhead σ0 σ) : kQ wfWi_otherChordAhead σ0 (Sum.elim (fun s : Int × KM => s.2) Prod.snd) (fWi_otherChordAhead_J36 x1 x2 x3 σ) :=
  kQ_let fun y1 =>
 kQ_inl h
theorem qfWi_otherChordAhead_J34 (x3 : Int) {σ0 σ : KM} (h : kFr wfWi_otherChordAhead σ0 σ) : kQ wfWi_otherChordAhead σ0 Prod.snd (fWi_otherChordAhead_J34 x3 σ) :=
  kQ_ri h
theorem qfWi_otherChordAhead_B4 (x1 x2 x3 : Int) {σ0 σ : KM} (h : kFr wfWi_otherChordAhead σ0 σ) : kQ wfWi_otherChordAhead σ0 (Sum.elim (fun s : Int × KM => s.2) Prod.snd) (fWi_otherChordAhead_B4 x1 x2 x3 σ) :=
  kQ_lt
 (kQ_exit (qfWi_otherChordAhead_J42  h))
 (kQ_rd fun y1 =>
 kQ_eq
 (qfWi_otherChordAhead_J36 _ _ _ h)
 (kQ_rd fun y2 =>
 kQ_rd fun y3 =>
 kQ_eq
 (qfWi_otherChordAhead_J36 _ _ _ h)
 (kQ_exit (qfWi_otherChordAhead_J34 _ h))))
theorem qfWi_otherChordAhead_L4 (x1 x2 x3 : Int) {σ0 σ : KM} (h : kFr wfWi_otherChordAhead σ0 σ) : kQ wfWi_otherChordAhead σ0 Prod.snd (fWi_otherChordAhead_L4 x1 x2 x3 σ) :=
  kQ_iter (mf := fun s : Int × KM => s.2) (fun s h => qfWi_otherChordAhead_B4 x1 x2 s.1 h) kF (x3, σ) h
theorem qfWi_otherChordAhead (x1 x2 : Int) {σ0 σ : KM} (h : kFr wfWi_otherChordAhead σ0 σ) : kQ wfWi_otherChordAhead σ0 Prod.snd (fWi_otherChordAhead x1 x2 σ) :=
  kQ_let fun y1 =>
 qfWi_otherChordAhead_L4 _ _ _ h
theorem rfWi_otherChordAhead (x1 x2 : Int) (σ : KM) : kQ wfWi_otherChordAhead σ Prod.snd (fWi_otherChordAhead x1 x2 σ) := qfWi_otherChordAhead x1 x2 kFr.rf
abbrev wfP_close : List (Nat × Option Int) := [(5, some 2), (5, some 6), (6, some 3), (7, some 4), (8, some 1), (8, some 7), (8, some 8), (8, some 9), (8, some 12), (8, some 13), (8, some 14), (9, some 1), (9, some 4), (24, none), (25, none), (26, none), (28, none), (29, none), (30, none), (31, none), (32, none), (34, none), (35, none), (36, none), (37, none), (38, none), (39, none), (40, none)]
theorem qfP_close_J58 {σ0 σ : KM} (h : kFr wfP_close σ0 σ) : kQ wfP_close σ0 Prod.snd (fP_close_J58 σ) :=
  kQ_ri h
theorem qfP_close_J90 (t0 : Int) {σ0 σ : KM} (h : kFr wfP_close σ0 σ) : kQ wfP_close σ0 Prod.snd (fP_close_J90 t0 σ) :=
  kQ_ri h
theorem qfP_close {σ0 σ : KM} (h : kFr wfP_close σ0 σ) : kQ wfP_close σ0 Prod.snd (fP_close σ) :=
  kQ_call (rfP_noPath _) rfl h fun r2 τ1 h =>
 kQ_eq
 (kQ_call (rfWi_lastSounding _) rfl h fun r4 τ3 h =>
 kQ_eq
 (kQ_ri h)
 (kQ_call (rfP_romanOf _ _) rfl h fun r6 τ5 h =>
 kQ_eq
 (kQ_ri h)
 (kQ_call (rfWi_otherChordAhead _ _ _) rfl h fun r8 τ7 h =>
 kQ_eq
 (kQ_eq
 (qfP_close_J58  h)
 (kQ_rd fun y9 =>
 kQ_rd fun y10 =>
 kQ_call (rfP_degreeOf _ _ _) rfl h fun r12 τ11 h =>
 kQ_eq
 (qfP_close_J90 _ h)
 (qfP_close_J90 _ h)))
 (qfP_close_J58  h))))
 (kQ_ri h)
theorem rfP_close (σ : KM) : kQ wfP_close σ Prod.snd (fP_close σ) := qfP_close  kFr.rf
abbrev wfFi_lastOf : List (Nat × Option Int) := []
theorem qfFi_lastOf_J29 (t0 : Int) {σ0 σ : KM} (h : kFr wfFi_lastOf σ0 σ) : kQ wfFi_lastOf σ0 Prod.snd (fFi_lastOf_J29 t0 σ) :=
  kQ_ri h
theorem qfFi_lastOf (x1 : Int) {σ0 σ : KM} (h : kFr wfFi_lastOf σ0 σ) : kQ wfFi_lastOf σ0 Prod.snd (fFi_lastOf x1 σ) :=
  kQ_lt
 (kQ_rd fun y1 =>
 qfFi_lastOf_J29 _ h)
 (qfFi_lastOf_J29 _ h)
theorem rfFi_lastOf (x1 : Int) (σ : KM) : kQ wfFi_lastOf σ Prod.snd (fFi_lastOf x1 σ) := qfFi_lastOf x1 kFr.rf
abbrev wfP_confirmed : List (Nat × Option Int) := [(5, some 2), (5, some 6), (6, some 3), (7, some 4), (8, some 1), (8, some 7), (8, some 8), (8, some 9), (8, some 12), (8, some 13), (8, some 14), (9, some 1), (9, some 4), (24, none), (25, none), (26, none), (28, none), (29, none), (30, none), (31, none), (32, none), (34, none), (35, none), (36, none), (37, none), (38, none), (39, none), (40, none)]
theorem qfP_confirmed_J25 {σ0 σ : KM} (h : kFr wfP_confirmed σ0 σ) : kQ wfP_confirmed σ0 Prod.snd (fP_confirmed_J25 σ) :=
  kQ_ri h
theorem qfP_confirmed_J103 {σ0 σ : KM} (h : kFr wfP_confirmed σ0 σ) : kQ wfP_confirmed σ0 Prod.snd (fP_confirmed_J103 σ) :=
  kQ_ri h
theorem qfP_confirmed_J97 (x2 x3 x4 : Int) {σ0 σ : KM} (h : kFr wfP_confirmed σ0 σ) : kQ wfP_confirmed σ0 (Sum.elim (fun s : Int × KM => s.2) Prod.snd) (fP_confirmed_J97 x2 x3 x4 σ) :=
  kQ_let fun y1 =>
 kQ_inl h
theorem qfP_confirmed_J94 (x4 : Int) {σ0 σ : KM} (h : kFr wfP_confirmed σ0 σ) : kQ wfP_confirmed σ0 Prod.snd (fP_confirmed_J94 x4 σ) :=
  kQ_ri h
theorem qfP_confirmed_B50 (x2 x3 x4 : Int) {σ0 σ : KM} (h : kFr wfP_confirmed σ0 σ) : kQ wfP_confirmed σ0 (Sum.elim (fun s : Int × KM => s.2) Prod.snd) (fP_confirmed_B50 x2 x3 x4 σ) :=
  kQ_lt
 (kQ_exit (qfP_confirmed_J103  h))
 (kQ_call (rfWi_otherChordAhead _ _ _) rfl h fun r2 τ1 h =>
 kQ_call (rfP_romanOf _ _) rfl h fun r4 τ3 h =>
 kQ_eq
 (kQ_eq
 (qfP_confirmed_J97 _ _ _ h)
 (kQ_call (rfP_romanOf _ _) rfl h fun r6 τ5 h =>
 kQ_eq
 (kQ_exit (qfP_confirmed_J94 _ h))
 (qfP_confirmed_J97 _ _ _ h)))
 (qfP_confirmed_J97 _ _ _ h))
theorem qfP_confirmed_L50 (x2 x3 x4 : Int) {σ0 σ : KM} (h : kFr wfP_confirmed σ0 σ) : kQ wfP_confirmed σ0 Prod.snd (fP_confirmed_L50 x2 x3 x4 σ) :=
  kQ_iter (mf := fun s : Int × KM => s.2) (fun s h => qfP_confirmed_B50 x2 x3 s.1 h) kF (x4, σ) h
theorem qfP_confirmed (x1 : Int) {σ0 σ : KM} (h : kFr wfP_confirmed σ0 σ) : kQ wfP_confirmed σ0 Prod.snd (fP_confirmed x1 σ) :=
  kQ_call (rfP_noPath _) rfl h fun r2 τ1 h =>
 kQ_eq
 (kQ_lt
 (qfP_confirmed_J25  h)
 (kQ_lt
 (kQ_rd fun y3 =>
 kQ_call (rfFi_lastOf _ _) rfl h fun r5 τ4 h =>
 qfP_confirmed_L50 _ _ _ h)
 (qfP_confirmed_J25  h)))
 (kQ_ri h)
theorem rfP_confirmed (x1 : Int) (σ : KM) : kQ wfP_confirmed σ Prod.snd (fP_confirmed x1 σ) := qfP_confirmed x1 kFr.rf
abbrev wfP_cost : List (Nat × Option Int) := [(5, some 2), (5, some 6), (6, some 3), (7, some 4), (8, some 1), (8, some 7), (8, some 8), (8, some 9), (8, some 12), (8, some 13), (8, some 14), (9, some 1), (9, some 4), (24, none), (25, none), (26, none), (28, none), (29, none), (30, none), (31, none), (32, none), (34, none), (35, none), (36, none), (37, none), (38, none), (39, none), (40, none)]
theorem qfP_cost_J19 (t0 : Int) {σ0 σ : KM} (h : kFr wfP_cost σ0 σ) : kQ wfP_cost σ0 Prod.snd (fP_cost_J19 t0 σ) :=
  kQ_ri h
theorem qfP_cost {σ0 σ : KM} (h : kFr wfP_cost σ0 σ) : kQ wfP_cost σ0 Prod.snd (fP_cost σ) :=
  kQ_call (rfP_noPath _) rfl h fun r2 τ1 h =>
 kQ_eq
 (qfP_cost_J19 _ h)
 (qfP_cost_J19 _ h)
theorem rfP_cost (σ : KM) : kQ wfP_cost σ Prod.snd (fP_cost σ) := qfP_cost  kFr.rf
abbrev wfWi_silentOnes : List (Nat × Option Int) := []
theorem qfWi_silentOnes_J30 (x1 : Int) {σ0 σ : KM} (h : kFr wfWi_silentOnes σ0 σ) : kQ wfWi_silentOnes σ0 Prod.snd (fWi_silentOnes_J30 x1 σ) :=
  kQ_ri h
theorem qfWi_silentOnes_J24 (x1 x2 : Int) {σ0 σ : KM} (h : kFr wfWi_silentOnes σ0 σ) : kQ wfWi_silentOnes σ0 (Sum.elim (fun s : Int × Int × KM => s.2.2) Prod.snd) (fWi_silentOnes_J24 x1 x2 σ) :=
  kQ_let fun y1 =>
 kQ_inl h
theorem qfWi_silentOnes_B4 (x1 x2 : Int) {σ0 σ : KM} (h : kFr wfWi_silentOnes σ0 σ) : kQ wfWi_silentOnes σ0 (Sum.elim (fun s : Int × Int × KM => s.2.2) Prod.snd) (fWi_silentOnes_B4 x1 x2 σ) :=
  kQ_lt
 (kQ_rd fun y1 =>
 kQ_eq
 (kQ_let fun y2 =>
 qfWi_silentOnes_J24 _ _ h)
 (qfWi_silentOnes_J24 _ _ h))
 (kQ_exit (qfWi_silentOnes_J30 _ h))
theorem qfWi_silentOnes_L4 (x1 x2 : Int) {σ0 σ : KM} (h : kFr wfWi_silentOnes σ0 σ) : kQ wfWi_silentOnes σ0 Prod.snd (fWi_silentOnes_L4 x1 x2 σ) :=
  kQ_iter (mf := fun s : Int × Int × KM => s.2.2) (fun s h => qfWi_silentOnes_B4 s.1 s.2.1 h) kF (x1, x2, σ) h
theorem qfWi_silentOnes {σ0 σ : KM} (h : kFr wfWi_silentOnes σ0 σ) : kQ wfWi_silentOnes σ0 Prod.snd (fWi_silentOnes σ) :=
  qfWi_silentOnes_L4 _ _ h
theorem rfWi_silentOnes (σ : KM) : kQ wfWi_silentOnes σ Prod.snd (fWi_silentOnes σ) := qfWi_silentOnes  kFr.rf
abbrev wfP_count : List (Nat × Option Int) := [(5, some 2), (5, some 6), (24, none), (25, none), (26, none)]
theorem qfP_count (x1 : Int) {σ0 σ : KM} (h : kFr wfP_count σ0 σ) : kQ wfP_count σ0 Prod.snd (fP_count x1 σ) :=
  kQ_call (rfP_freshWindows _) rfl h fun _ τ1 h =>
 kQ_sw (kA_cons (kQ_ri h) (kA_cons (kQ_ri h) (kA_cons (kQ_call (rfNo_end _) rfl h fun r3 τ2 h =>
 kQ_ri h) (kA_cons (kQ_ri h) (kA_cons (kQ_ri h) (kA_cons (kQ_ri h) (kA_cons (kQ_ri h) (kA_cons (kQ_call (rfWi_silentOnes _) rfl h fun r5 τ4 h =>
 kQ_ri h) (kA_cons (kQ_ri h) (kA_cons (kQ_ri h) (kA_cons (kQ_ri h) (kA_cons (kQ_ri h) (kA_nil))))))))))))) (kQ_ri h)
theorem rfP_count (x1 : Int) (σ : KM) : kQ wfP_count σ Prod.snd (fP_count x1 σ) := qfP_count x1 kFr.rf
abbrev wfP_outOf : List (Nat × Option Int) := []
theorem qfP_outOf_J15 (t0 : Int) {σ0 σ : KM} (h : kFr wfP_outOf σ0 σ) : kQ wfP_outOf σ0 Prod.snd (fP_outOf_J15 t0 σ) :=
  kQ_rz h
theorem qfP_outOf_J10 {σ0 σ : KM} (h : kFr wfP_outOf σ0 σ) : kQ wfP_outOf σ0 Prod.snd (fP_outOf_J10 σ) :=
  qfP_outOf_J15 _ h
theorem qfP_outOf (x0 x1 x2 : Int) {σ0 σ : KM} (h : kFr wfP_outOf σ0 σ) : kQ wfP_outOf σ0 Prod.snd (fP_outOf x0 x1 x2 σ) :=
  kQ_lt
 (qfP_outOf_J10  h)
 (kQ_lt
 (qfP_outOf_J10  h)
 (qfP_outOf_J15 _ h))
theorem rfP_outOf (x0 x1 x2 : Int) (σ : KM) : kQ wfP_outOf σ Prod.snd (fP_outOf x0 x1 x2 σ) := qfP_outOf x0 x1 x2 kFr.rf
abbrev wfP_noKey : List (Nat × Option Int) := []
theorem qfP_noKey (x0 : Int) {σ0 σ : KM} (h : kFr wfP_noKey σ0 σ) : kQ wfP_noKey σ0 Prod.snd (fP_noKey x0 σ) :=
  kQ_call (rfP_outOf _ _ _ _) rfl h fun r2 τ1 h =>
 kQ_rz h
theorem rfP_noKey (x0 : Int) (σ : KM) : kQ wfP_noKey σ Prod.snd (fP_noKey x0 σ) := qfP_noKey x0 kFr.rf
abbrev wfP_degree : List (Nat × Option Int) := []
theorem qfP_degree_J17 {σ0 σ : KM} (h : kFr wfP_degree σ0 σ) : kQ wfP_degree σ0 Prod.snd (fP_degree_J17 σ) :=
  kQ_ri h
theorem qfP_degree (x1 x2 : Int) {σ0 σ : KM} (h : kFr wfP_degree σ0 σ) : kQ wfP_degree σ0 Prod.snd (fP_degree x1 x2 σ) :=
  kQ_call (rfP_outOf _ _ _ _) rfl h fun r2 τ1 h =>
 kQ_eq
 (kQ_call (rfP_noKey _ _) rfl h fun r4 τ3 h =>
 kQ_eq
 (kQ_call (rfP_degreeOf _ _ _) rfl h fun r6 τ5 h =>
 kQ_ri h)
 (qfP_degree_J17  h))
 (qfP_degree_J17  h)
theorem rfP_degree (x1 x2 : Int) (σ : KM) : kQ wfP_degree σ Prod.snd (fP_degree x1 x2 σ) := qfP_degree x1 x2 kFr.rf
abbrev wfP_distance : List (Nat × Option Int) := [(7, some 4), (30, none), (31, none), (32, none)]
theorem qfP_distance_J14 {σ0 σ : KM} (h : kFr wfP_distance σ0 σ) : kQ wfP_distance σ0 Prod.snd (fP_distance_J14 σ) :=
  kQ_ri h
theorem qfP_distance (x1 x2 : Int) {σ0 σ : KM} (h : kFr wfP_distance σ0 σ) : kQ wfP_distance σ0 Prod.snd (fP_distance x1 x2 σ) :=
  kQ_call (rfP_noKey _ _) rfl h fun r2 τ1 h =>
 kQ_eq
 (kQ_call (rfP_noKey _ _) rfl h fun r4 τ3 h =>
 kQ_eq
 (kQ_call (rfNe_refresh _) rfl h fun _ τ5 h =>
 kQ_rd fun y6 =>
 kQ_ri h)
 (qfP_distance_J14  h))
 (qfP_distance_J14  h)
theorem rfP_distance (x1 x2 : Int) (σ : KM) : kQ wfP_distance σ Prod.snd (fP_distance x1 x2 σ) := qfP_distance x1 x2 kFr.rf
abbrev wfHi_forgetOldest : List (Nat × Option Int) := [(4, some 5), (19, none), (20, none), (21, none), (22, none), (23, none)]
theorem qfHi_forgetOldest {σ0 σ : KM} (h : kFr wfHi_forgetOldest σ0 σ) : kQ wfHi_forgetOldest σ0 Prod.snd (fHi_forgetOldest σ) :=
  kQ_wf rfl h fun τ1 h =>
 kQ_cpy rfl h fun τ2 h =>
 kQ_cpy rfl h fun τ3 h =>
 kQ_cpy rfl h fun τ4 h =>
 kQ_cpy rfl h fun τ5 h =>
 kQ_cpy rfl h fun τ6 h =>
 kQ_ri h
theorem rfHi_forgetOldest (σ : KM) : kQ wfHi_forgetOldest σ Prod.snd (fHi_forgetOldest σ) := qfHi_forgetOldest  kFr.rf
abbrev wfHi_remember : List (Nat × Option Int) := [(4, some 5), (19, none), (20, none), (21, none), (22, none), (23, none)]
theorem qfHi_remember_J13 (x1 x2 x3 x4 x5 : Int) {σ0 σ : KM} (h : kFr wfHi_remember σ0 σ) : kQ wfHi_remember σ0 Prod.snd (fHi_remember_J13 x1 x2 x3 x4 x5 σ) :=
  kQ_wr rfl h fun τ1 h =>
 kQ_wr rfl h fun τ2 h =>
 kQ_wr rfl h fun τ3 h =>
 kQ_wr rfl h fun τ4 h =>
 kQ_wr rfl h fun τ5 h =>
 kQ_wf rfl h fun τ6 h =>
 kQ_ri h
theorem qfHi_remember (x1 x2 x3 x4 x5 : Int) {σ0 σ : KM} (h : kFr wfHi_remember σ0 σ) : kQ wfHi_remember σ0 Prod.snd (fHi_remember x1 x2 x3 x4 x5 σ) :=
  kQ_lt
 (qfHi_remember_J13 _ _ _ _ _ h)
 (kQ_call (rfHi_forgetOldest _) rfl h fun _ τ1 h =>
 qfHi_remember_J13 _ _ _ _ _ h)
theorem rfHi_remember (x1 x2 x3 x4 x5 : Int) (σ : KM) : kQ wfHi_remember σ Prod.snd (fHi_remember x1 x2 x3 x4 x5 σ) := qfHi_remember x1 x2 x3 x4 x5 kFr.rf
abbrev wfNo_remove : List (Nat × Option Int) := [(3, some 3), (16, none), (17, none), (18, none)]
theorem qfNo_remove_J12 {σ0 σ : KM} (h : kFr wfNo_remove σ0 σ) : kQ wfNo_remove σ0 Prod.snd (fNo_remove_J12 σ) :=
  kQ_ri h
theorem qfNo_remove (x1 : Int) {σ0 σ : KM} (h : kFr wfNo_remove σ0 σ) : kQ wfNo_remove σ0 Prod.snd (fNo_remove x1 σ) :=
  kQ_lt
 (qfNo_remove_J12  h)
 (kQ_lt
 (kQ_let fun y1 =>
 kQ_cpy rfl h fun τ2 h =>
 kQ_cpy rfl h fun τ3 h =>
 kQ_cpy rfl h fun τ4 h =>
 kQ_wf rfl h fun τ5 h =>
 kQ_ri h)
 (qfNo_remove_J12  h))
theorem rfNo_remove (x1 : Int) (σ : KM) : kQ wfNo_remove σ Prod.snd (fNo_remove x1 σ) := qfNo_remove x1 kFr.rf
abbrev wfP_pathChanged : List (Nat × Option Int) := [(8, some 13)]
theorem qfP_pathChanged {σ0 σ : KM} (h : kFr wfP_pathChanged σ0 σ) : kQ wfP_pathChanged σ0 Prod.snd (fP_pathChanged σ) :=
  kQ_wfz rfl h fun τ1 h =>
 kQ_ri h
theorem rfP_pathChanged (σ : KM) : kQ wfP_pathChanged σ Prod.snd (fP_pathChanged σ) := qfP_pathChanged  kFr.rf
abbrev wfP_weightsChanged : List (Nat × Option Int) := [(6, some 3), (8, some 13)]
theorem qfP_weightsChanged {σ0 σ : KM} (h : kFr wfP_weightsChanged σ0 σ) : kQ wfP_weightsChanged σ0 Prod.snd (fP_weightsChanged σ) :=
  kQ_wfz rfl h fun τ1 h =>
 kQ_call (rfP_pathChanged _) rfl h fun _ τ2 h =>
 kQ_ri h
theorem rfP_weightsChanged (σ : KM) : kQ wfP_weightsChanged σ Prod.snd (fP_weightsChanged σ) := qfP_weightsChanged  kFr.rf
abbrev wfP_notesChanged : List (Nat × Option Int) := [(5, some 6), (6, some 3), (8, some 13)]
theorem qfP_notesChanged {σ0 σ : KM} (h : kFr wfP_notesChanged σ0 σ) : kQ wfP_notesChanged σ0 Prod.snd (fP_notesChanged σ) :=
  kQ_wfz rfl h fun τ1 h =>
 kQ_call (rfP_weightsChanged _) rfl h fun _ τ2 h =>
 kQ_ri h
theorem rfP_notesChanged (σ : KM) : kQ wfP_notesChanged σ Prod.snd (fP_notesChanged σ) := qfP_notesChanged  kFr.rf
abbrev wfP_drop : List (Nat × Option Int) := [(3, some 3), (4, some 5), (5, some 6), (6, some 3), (8, some 13), (16, none), (17, none), (18, none), (19, none), (20, none), (21, none), (22, none), (23, none)]
theorem qfP_drop_J15 {σ0 σ : KM} (h : kFr wfP_drop σ0 σ) : kQ wfP_drop σ0 Prod.snd (fP_drop_J15 σ) :=
  kQ_ri h
theorem qfP_drop (x1 : Int) {σ0 σ : KM} (h : kFr wfP_drop σ0 σ) : kQ wfP_drop σ0 Prod.snd (fP_drop x1 σ) :=
  kQ_lt
 (qfP_drop_J15  h)
 (kQ_lt
 (kQ_rd fun y1 =>
 kQ_rd fun y2 =>
 kQ_rd fun y3 =>
 kQ_call (rfHi_remember _ _ _ _ _ _) rfl h fun _ τ4 h =>
 kQ_call (rfNo_remove _ _) rfl h fun _ τ5 h =>
 kQ_call (rfP_notesChanged _) rfl h fun _ τ6 h =>
 kQ_ri h)
 (qfP_drop_J15  h))
theorem rfP_drop (x1 : Int) (σ : KM) : kQ wfP_drop σ Prod.snd (fP_drop x1 σ) := qfP_drop x1 kFr.rf
abbrev wfP_fault : List (Nat × Option Int) := []
theorem qfP_fault_J28 (t0 : Int) {σ0 σ : KM} (h : kFr wfP_fault σ0 σ) : kQ wfP_fault σ0 Prod.snd (fP_fault_J28 t0 σ) :=
  kQ_ri h
theorem qfP_fault (x1 : Int) {σ0 σ : KM} (h : kFr wfP_fault σ0 σ) : kQ wfP_fault σ0 Prod.snd (fP_fault x1 σ) :=
  kQ_eq
 (kQ_ri h)
 (kQ_eq
 (qfP_fault_J28 _ h)
 (qfP_fault_J28 _ h))
theorem rfP_fault (x1 : Int) (σ : KM) : kQ wfP_fault σ Prod.snd (fP_fault x1 σ) := qfP_fault x1 kFr.rf
abbrev wfTR_append : List (Nat × Option Int) := [(1, some 1), (11, none)]
theorem qfTR_append_J49 {σ0 σ : KM} (h : kFr wfTR_append σ0 σ) : kQ wfTR_append σ0 Prod.snd (fTR_append_J49 σ) :=
  kQ_ri h
theorem qfTR_append_B3 (x1 x2 : Int) {σ0 σ : KM} (h : kFr wfTR_append σ0 σ) : kQ wfTR_append σ0 (Sum.elim (fun s : Int × KM => s.2) Prod.snd) (fTR_append_B3 x1 x2 σ) :=
  kQ_lt
 (kQ_exit (qfTR_append_J49  h))
 (kQ_lt
 (kQ_ush fun y1 =>
 kQ_and fun y2 =>
 kQ_wr rfl h fun τ3 h =>
 kQ_wf rfl h fun τ4 h =>
 kQ_let fun y5 =>
 kQ_inl h)
 (kQ_exit (qfTR_append_J49  h)))
theorem qfTR_append_L3 (x1 x2 : Int) {σ0 σ : KM} (h : kFr wfTR_append σ0 σ) : kQ wfTR_append σ0 Prod.snd (fTR_append_L3 x1 x2 σ) :=
  kQ_iter (mf := fun s : Int × KM => s.2) (fun s h => qfTR_append_B3 x1 s.1 h) kF (x2, σ) h
theorem qfTR_append (x1 : Int) {σ0 σ : KM} (h : kFr wfTR_append σ0 σ) : kQ wfTR_append σ0 Prod.snd (fTR_append x1 σ) :=
  qfTR_append_L3 _ _ h
theorem rfTR_append (x1 : Int) (σ : KM) : kQ wfTR_append σ Prod.snd (fTR_append x1 σ) := qfTR_append x1 kFr.rf
abbrev wfP_feed : List (Nat × Option Int) := [(1, some 1), (11, none)]
theorem qfP_feed (x1 x2 x3 x4 x5 : Int) {σ0 σ : KM} (h : kFr wfP_feed σ0 σ) : kQ wfP_feed σ0 Prod.snd (fP_feed x1 x2 x3 x4 x5 σ) :=
  kQ_lt
 (kQ_ri h)
 (kQ_call (rfTR_append _ _) rfl h fun _ τ1 h =>
 kQ_call (rfTR_append _ _) rfl h fun _ τ2 h =>
 kQ_call (rfTR_append _ _) rfl h fun _ τ3 h =>
 kQ_call (rfTR_append _ _) rfl h fun _ τ4 h =>
 kQ_call (rfTR_append _ _) rfl h fun _ τ5 h =>
 kQ_ri h)
theorem rfP_feed (x1 x2 x3 x4 x5 : Int) (σ : KM) : kQ wfP_feed σ Prod.snd (fP_feed x1 x2 x3 x4 x5 σ) := qfP_feed x1 x2 x3 x4 x5 kFr.rf
abbrev wfFi_isFirm : List (Nat × Option Int) := [(8, some 7), (8, some 8), (8, some 9), (8, some 12), (36, none), (37, none), (38, none), (39, none), (40, none)]
theorem qfFi_isFirm_J19 (t0 : Int) {σ0 σ : KM} (h : kFr wfFi_isFirm σ0 σ) : kQ wfFi_isFirm σ0 Prod.snd (fFi_isFirm_J19 t0 σ) :=
  kQ_rz h
theorem qfFi_isFirm (x2 : Int) {σ0 σ : KM} (h : kFr wfFi_isFirm σ0 σ) : kQ wfFi_isFirm σ0 Prod.snd (fFi_isFirm x2 σ) :=
  kQ_call (rfFi_solve _ _) rfl h fun _ τ1 h =>
 kQ_lt
 (qfFi_isFirm_J19 _ h)
 (qfFi_isFirm_J19 _ h)
theorem rfFi_isFirm (x2 : Int) (σ : KM) : kQ wfFi_isFirm σ Prod.snd (fFi_isFirm x2 σ) := qfFi_isFirm x2 kFr.rf
abbrev wfFi_searchFirm : List (Nat × Option Int) := [(8, some 7), (8, some 8), (8, some 9), (8, some 12), (36, none), (37, none), (38, none), (39, none), (40, none)]
theorem qfFi_searchFirm_J66 (x3 : Int) {σ0 σ : KM} (h : kFr wfFi_searchFirm σ0 σ) : kQ wfFi_searchFirm σ0 Prod.snd (fFi_searchFirm_J66 x3 σ) :=
  kQ_ri h
theorem qfFi_searchFirm_J60 (x2 x3 x4 : Int) {σ0 σ : KM} (h : kFr wfFi_searchFirm σ0 σ) : kQ wfFi_searchFirm σ0 (Sum.elim (fun s : Int × Int × Int × KM => s.2.2.2) Prod.snd) (fFi_searchFirm_J60 x2 x3 x4 σ) :=
  kQ_let fun y1 =>
 kQ_inl h
theorem qfFi_searchFirm_B20 (x2 x3 x4 : Int) {σ0 σ : KM} (h : kFr wfFi_searchFirm σ0 σ) : kQ wfFi_searchFirm σ0 (Sum.elim (fun s : Int × Int × Int × KM => s.2.2.2) Prod.snd) (fFi_searchFirm_B20 x2 x3 x4 σ) :=
  kQ_lt
 (kQ_lt
 (kQ_dv fun y1 =>
 kQ_call (rfFi_isFirm _ _) rfl h fun r3 τ2 h =>
 kQ_eq
 (kQ_let fun y4 =>
 qfFi_searchFirm_J60 _ _ _ h)
 (qfFi_searchFirm_J60 _ _ _ h))
 (kQ_exit (qfFi_searchFirm_J66 _ h)))
 (kQ_exit (qfFi_searchFirm_J66 _ h))
theorem qfFi_searchFirm_L20 (x2 x3 x4 : Int) {σ0 σ : KM} (h : kFr wfFi_searchFirm σ0 σ) : kQ wfFi_searchFirm σ0 Prod.snd (fFi_searchFirm_L20 x2 x3 x4 σ) :=
  kQ_iter (mf := fun s : Int × Int × Int × KM => s.2.2.2) (fun s h => qfFi_searchFirm_B20 s.1 s.2.1 s.2.2.1 h) kF (x2, x3, x4, σ) h
theorem qfFi_searchFirm {σ0 σ : KM} (h : kFr wfFi_searchFirm σ0 σ) : kQ wfFi_searchFirm σ0 Prod.snd (fFi_searchFirm σ) :=
  kQ_call (rfFi_isFirm _ _) rfl h fun r2 τ1 h =>
 kQ_eq
 (kQ_ri h)
 (qfFi_searchFirm_L20 _ _ _ h)
theorem rfFi_searchFirm (σ : KM) : kQ wfFi_searchFirm σ Prod.snd (fFi_searchFirm σ) := qfFi_searchFirm  kFr.rf
abbrev wfFi_firmFactor : List (Nat × Option Int) := [(8, some 7), (8, some 8), (8, some 9), (8, some 12), (8, some 14), (8, some 15), (36, none), (37, none), (38, none), (39, none), (40, none)]
theorem qfFi_firmFactor_J30 {σ0 σ : KM} (h : kFr wfFi_firmFactor σ0 σ) : kQ wfFi_firmFactor σ0 Prod.snd (fFi_firmFactor_J30 σ) :=
  kQ_ri h
theorem qfFi_firmFactor {σ0 σ : KM} (h : kFr wfFi_firmFactor σ0 σ) : kQ wfFi_firmFactor σ0 Prod.snd (fFi_firmFactor σ) :=
  kQ_eq
 (kQ_call (rfFi_searchFirm _) rfl h fun r2 τ1 h =>
 kQ_wf rfl h fun τ3 h =>
 kQ_wfz rfl h fun τ4 h =>
 kQ_call (rfFi_solve _ _) rfl h fun _ τ5 h =>
 qfFi_firmFactor_J30  h)
 (qfFi_firmFactor_J30  h)
theorem rfFi_firmFactor (σ : KM) : kQ wfFi_firmFactor σ Prod.snd (fFi_firmFactor σ) := qfFi_firmFactor  kFr.rf
abbrev wfP_firm : List (Nat × Option Int) := [(5, some 2), (5, some 6), (6, some 3), (7, some 4), (8, some 1), (8, some 7), (8, some 8), (8, some 9), (8, some 12), (8, some 13), (8, some 14), (8, some 15), (9, some 1), (9, some 4), (24, none), (25, none), (26, none), (28, none), (29, none), (30, none), (31, none), (32, none), (34, none), (35, none), (36, none), (37, none), (38, none), (39, none), (40, none)]
theorem qfP_firm_J23 (t0 : Int) {σ0 σ : KM} (h : kFr wfP_firm σ0 σ) : kQ wfP_firm σ0 Prod.snd (fP_firm_J23 t0 σ) :=
  kQ_ri h
theorem qfP_firm {σ0 σ : KM} (h : kFr wfP_firm σ0 σ) : kQ wfP_firm σ0 Prod.snd (fP_firm σ) :=
  kQ_call (rfP_noPath _) rfl h fun r2 τ1 h =>
 kQ_eq
 (kQ_call (rfFi_firmFactor _) rfl h fun r4 τ3 h =>
 qfP_firm_J23 _ h)
 (qfP_firm_J23 _ h)
theorem rfP_firm (σ : KM) : kQ wfP_firm σ Prod.snd (fP_firm σ) := qfP_firm  kFr.rf
abbrev wfP_fit : List (Nat × Option Int) := [(5, some 2), (5, some 6), (6, some 3), (24, none), (25, none), (26, none), (28, none), (29, none)]
theorem qfP_fit_J15 {σ0 σ : KM} (h : kFr wfP_fit σ0 σ) : kQ wfP_fit σ0 Prod.snd (fP_fit_J15 σ) :=
  kQ_ri h
theorem qfP_fit (x1 x2 : Int) {σ0 σ : KM} (h : kFr wfP_fit σ0 σ) : kQ wfP_fit σ0 Prod.snd (fP_fit x1 x2 σ) :=
  kQ_call (rfP_noWindow _ _) rfl h fun r2 τ1 h =>
 kQ_eq
 (kQ_call (rfP_noKey _ _) rfl h fun r4 τ3 h =>
 kQ_eq
 (kQ_call (rfP_freshFits _) rfl h fun _ τ5 h =>
 kQ_rd fun y6 =>
 kQ_ri h)
 (qfP_fit_J15  h))
 (qfP_fit_J15  h)
theorem rfP_fit (x1 x2 : Int) (σ : KM) : kQ wfP_fit σ Prod.snd (fP_fit x1 x2 σ) := qfP_fit x1 x2 kFr.rf
abbrev wfP_foreign : List (Nat × Option Int) := [(5, some 2), (5, some 6), (24, none), (25, none), (26, none)]
theorem qfP_foreign_J15 {σ0 σ : KM} (h : kFr wfP_foreign σ0 σ) : kQ wfP_foreign σ0 Prod.snd (fP_foreign_J15 σ) :=
  kQ_ri h
theorem qfP_foreign_J64 (x3 : Int) {σ0 σ : KM} (h : kFr wfP_foreign σ0 σ) : kQ wfP_foreign σ0 Prod.snd (fP_foreign_J64 x3 σ) :=
  kQ_ri h
theorem qfP_foreign_J58 (x1 x2 x3 x4 : Int) {σ0 σ : KM} (h : kFr wfP_foreign σ0 σ) : kQ wfP_foreign σ0 (Sum.elim (fun s : Int × Int × KM => s.2.2) Prod.snd) (fP_foreign_J58 x1 x2 x3 x4 σ) :=
  kQ_let fun y1 =>
 kQ_inl h
theorem qfP_foreign_B23 (x1 x2 x3 x4 : Int) {σ0 σ : KM} (h : kFr wfP_foreign σ0 σ) : kQ wfP_foreign σ0 (Sum.elim (fun s : Int × Int × KM => s.2.2) Prod.snd) (fP_foreign_B23 x1 x2 x3 x4 σ) :=
  kQ_lt
 (kQ_call (rfP_degreeOn _ _ _) rfl h fun r2 τ1 h =>
 kQ_eq
 (kQ_rd fun y3 =>
 kQ_let fun y4 =>
 qfP_foreign_J58 _ _ _ _ h)
 (qfP_foreign_J58 _ _ _ _ h))
 (kQ_exit (qfP_foreign_J64 _ h))
theorem qfP_foreign_L23 (x1 x2 x3 x4 : Int) {σ0 σ : KM} (h : kFr wfP_foreign σ0 σ) : kQ wfP_foreign σ0 Prod.snd (fP_foreign_L23 x1 x2 x3 x4 σ) :=
  kQ_iter (mf := fun s : Int × Int × KM => s.2.2) (fun s h => qfP_foreign_B23 x1 x2 s.1 s.2.1 h) kF (x3, x4, σ) h
theorem qfP_foreign (x1 x2 : Int) {σ0 σ : KM} (h : kFr wfP_foreign σ0 σ) : kQ wfP_foreign σ0 Prod.snd (fP_foreign x1 x2 σ) :=
  kQ_call (rfP_noWindow _ _) rfl h fun r2 τ1 h =>
 kQ_eq
 (kQ_call (rfP_noKey _ _) rfl h fun r4 τ3 h =>
 kQ_eq
 (qfP_foreign_L23 _ _ _ _ h)
 (qfP_foreign_J15  h))
 (qfP_foreign_J15  h)
theorem rfP_foreign (x1 x2 : Int) (σ : KM) : kQ wfP_foreign σ Prod.snd (fP_foreign x1 x2 σ) := qfP_foreign x1 x2 kFr.rf
abbrev wfP_key : List (Nat × Option Int) := [(5, some 2), (5, some 6), (6, some 3), (7, some 4), (8, some 1), (8, some 7), (8, some 8), (8, some 9), (8, some 12), (8, some 13), (8, some 14), (9, some 1), (9, some 4), (24, none), (25, none), (26, none), (28, none), (29, none), (30, none), (31, none), (32, none), (34, none), (35, none), (36, none), (37, none), (38, none), (39, none), (40, none)]
theorem qfP_key_J32 (t0 : Int) {σ0 σ : KM} (h : kFr wfP_key σ0 σ) : kQ wfP_key σ0 Prod.snd (fP_key_J32 t0 σ) :=
  kQ_ri h
theorem qfP_key (x1 : Int) {σ0 σ : KM} (h : kFr wfP_key σ0 σ) : kQ wfP_key σ0 Prod.snd (fP_key x1 σ) :=
  kQ_call (rfP_noWindow _ _) rfl h fun r2 τ1 h =>
 kQ_eq
 (kQ_call (rfP_noPath _) rfl h fun r4 τ3 h =>
 kQ_eq
 (kQ_rd fun y5 =>
 qfP_key_J32 _ h)
 (qfP_key_J32 _ h))
 (kQ_ri h)
theorem rfP_key (x1 : Int) (σ : KM) : kQ wfP_key σ Prod.snd (fP_key x1 σ) := qfP_key x1 kFr.rf
abbrev wfDe_leastOf_44 : List (Nat × Option Int) := []
theorem qfDe_leastOf_44_J27 (x2 : Int) {σ0 σ : KM} (h : kFr wfDe_leastOf_44 σ0 σ) : kQ wfDe_leastOf_44 σ0 Prod.snd (fDe_leastOf_44_J27 x2 σ) :=
  kQ_ri h
theorem qfDe_leastOf_44_B5 (x1 x2 x3 : Int) {σ0 σ : KM} (h : kFr wfDe_leastOf_44 σ0 σ) : kQ wfDe_leastOf_44 σ0 (Sum.elim (fun s : Int × Int × KM => s.2.2) Prod.snd) (fDe_leastOf_44_B5 x1 x2 x3 σ) :=
  kQ_lt
 (kQ_rd fun y1 =>
 kQ_mn fun y2 =>
 kQ_let fun y3 =>
 kQ_inl h)
 (kQ_exit (qfDe_leastOf_44_J27 _ h))
theorem qfDe_leastOf_44_L5 (x1 x2 x3 : Int) {σ0 σ : KM} (h : kFr wfDe_leastOf_44 σ0 σ) : kQ wfDe_leastOf_44 σ0 Prod.snd (fDe_leastOf_44_L5 x1 x2 x3 σ) :=
  kQ_iter (mf := fun s : Int × Int × KM => s.2.2) (fun s h => qfDe_leastOf_44_B5 x1 s.1 s.2.1 h) kF (x2, x3, σ) h
theorem qfDe_leastOf_44 (x1 : Int) {σ0 σ : KM} (h : kFr wfDe_leastOf_44 σ0 σ) : kQ wfDe_leastOf_44 σ0 Prod.snd (fDe_leastOf_44 x1 σ) :=
  qfDe_leastOf_44_L5 _ _ _ h
theorem rfDe_leastOf_44 (x1 : Int) (σ : KM) : kQ wfDe_leastOf_44 σ Prod.snd (fDe_leastOf_44 x1 σ) := qfDe_leastOf_44 x1 kFr.rf
abbrev wfDe_cheapestMove_44 : List (Nat × Option Int) := []
theorem qfDe_cheapestMove_44_J46 (x4 : Int) {σ0 σ : KM} (h : kFr wfDe_cheapestMove_44 σ0 σ) : kQ wfDe_cheapestMove_44 σ0 Prod.snd (fDe_cheapestMove_44_J46 x4 σ) :=
  kQ_ri h
theorem qfDe_cheapestMove_44_B7 (x2 x3 x4 x5 : Int) {σ0 σ : KM} (h : kFr wfDe_cheapestMove_44 σ0 σ) : kQ wfDe_cheapestMove_44 σ0 (Sum.elim (fun s : Int × Int × KM => s.2.2) Prod.snd) (fDe_cheapestMove_44_B7 x2 x3 x4 x5 σ) :=
  kQ_lt
 (kQ_rd fun y1 =>
 kQ_rd fun y2 =>
 kQ_mn fun y3 =>
 kQ_let fun y4 =>
 kQ_inl h)
 (kQ_exit (qfDe_cheapestMove_44_J46 _ h))
theorem qfDe_cheapestMove_44_L7 (x2 x3 x4 x5 : Int) {σ0 σ : KM} (h : kFr wfDe_cheapestMove_44 σ0 σ) : kQ wfDe_cheapestMove_44 σ0 Prod.snd (fDe_cheapestMove_44_L7 x2 x3 x4 x5 σ) :=
  kQ_iter (mf := fun s : Int × Int × KM => s.2.2) (fun s h => qfDe_cheapestMove_44_B7 x2 x3 s.1 s.2.1 h) kF (x4, x5, σ) h
theorem qfDe_cheapestMove_44 (x2 x3 : Int) {σ0 σ : KM} (h : kFr wfDe_cheapestMove_44 σ0 σ) : kQ wfDe_cheapestMove_44 σ0 Prod.snd (fDe_cheapestMove_44 x2 x3 σ) :=
  qfDe_cheapestMove_44_L7 _ _ _ _ h
theorem rfDe_cheapestMove_44 (x2 x3 : Int) (σ : KM) : kQ wfDe_cheapestMove_44 σ Prod.snd (fDe_cheapestMove_44 x2 x3 σ) := qfDe_cheapestMove_44 x2 x3 kFr.rf
abbrev wfDe_settle : List (Nat × Option Int) := []
theorem qfDe_settle_J132 (x6 x8 : Int) {σ0 σ : KM} (h : kFr wfDe_settle σ0 σ) : kQ wfDe_settle σ0 Prod.snd (fDe_settle_J132 x6 x8 σ) :=
  kQ_mn fun y1 =>
 kQ_ri h
theorem qfDe_settle_B100 (x3 x4 x6 x8 x9 : Int) {σ0 σ : KM} (h : kFr wfDe_settle σ0 σ) : kQ wfDe_settle σ0 (Sum.elim (fun s : Int × Int × KM => s.2.2) Prod.snd) (fDe_settle_B100 x3 x4 x6 x8 x9 σ) :=
  kQ_lt
 (kQ_exit (qfDe_settle_J132 _ _ h))
 (kQ_rd fun y1 =>
 kQ_call (rfP_plus _ _ _) rfl h fun r3 τ2 h =>
 kQ_let fun y4 =>
 kQ_inl h)
theorem qfDe_settle_L100 (x3 x4 x6 x8 x9 : Int) {σ0 σ : KM} (h : kFr wfDe_settle σ0 σ) : kQ wfDe_settle σ0 Prod.snd (fDe_settle_L100 x3 x4 x6 x8 x9 σ) :=
  kQ_iter (mf := fun s : Int × Int × KM => s.2.2) (fun s h => qfDe_settle_B100 x3 x4 x6 s.1 s.2.1 h) kF (x8, x9, σ) h
theorem qfDe_settle_J96 (x3 x4 x6 x7 x8 : Int) {σ0 σ : KM} (h : kFr wfDe_settle σ0 σ) : kQ wfDe_settle σ0 Prod.snd (fDe_settle_J96 x3 x4 x6 x7 x8 σ) :=
  qfDe_settle_L100 _ _ _ _ _ h
theorem qfDe_settle_J94 (x3 x4 x6 x7 t0 : Int) {σ0 σ : KM} (h : kFr wfDe_settle σ0 σ) : kQ wfDe_settle σ0 Prod.snd (fDe_settle_J94 x3 x4 x6 x7 t0 σ) :=
  qfDe_settle_J96 _ _ _ _ _ h
theorem qfDe_settle_J39 (x2 x3 x4 x6 : Int) {σ0 σ : KM} (h : kFr wfDe_settle σ0 σ) : kQ wfDe_settle σ0 Prod.snd (fDe_settle_J39 x2 x3 x4 x6 σ) :=
  kQ_let fun y1 =>
 kQ_lt
 (kQ_ri h)
 (kQ_lt
 (kQ_rd fun y2 =>
 kQ_eq
 (kQ_call (rfDe_cheapestMove_44 _ _ _) rfl h fun r4 τ3 h =>
 qfDe_settle_J94 _ _ _ _ _ h)
 (qfDe_settle_J94 _ _ _ _ _ h))
 (qfDe_settle_J96 _ _ _ _ _ h))
theorem qfDe_settle (x2 x3 x4 : Int) {σ0 σ : KM} (h : kFr wfDe_settle σ0 σ) : kQ wfDe_settle σ0 Prod.snd (fDe_settle x2 x3 x4 σ) :=
  kQ_let fun y1 =>
 kQ_lt
 (kQ_rd fun y2 =>
 kQ_rd fun y3 =>
 kQ_call (rfP_plus _ _ _) rfl h fun r5 τ4 h =>
 qfDe_settle_J39 _ _ _ _ h)
 (qfDe_settle_J39 _ _ _ _ h)
theorem rfDe_settle (x2 x3 x4 : Int) (σ : KM) : kQ wfDe_settle σ Prod.snd (fDe_settle x2 x3 x4 σ) := qfDe_settle x2 x3 x4 kFr.rf
abbrev wfDe_leastLasting : List (Nat × Option Int) := [(44, none)]
theorem qfDe_leastLasting_J62 {σ0 σ : KM} (h : kFr wfDe_leastLasting σ0 σ) : kQ wfDe_leastLasting σ0 Prod.snd (fDe_leastLasting_J62 σ) :=
  kQ_call (rfDe_leastOf_44 _ _) rfl h fun r2 τ1 h =>
 kQ_ri h
theorem qfDe_leastLasting_J56 (x2 x3 : Int) {σ0 σ : KM} (h : kFr wfDe_leastLasting σ0 σ) : kQ wfDe_leastLasting σ0 (Sum.elim (fun s : Int × KM => s.2) Prod.snd) (fDe_leastLasting_J56 x2 x3 σ) :=
  kQ_let fun y1 =>
 kQ_inl h
theorem qfDe_leastLasting_B22 (x2 x3 x4 : Int) {σ0 σ : KM} (h : kFr wfDe_leastLasting σ0 σ) : kQ wfDe_leastLasting σ0 (Sum.elim (fun s : Int × KM => s.2) (Sum.elim (fun s : Int × KM => s.2) Prod.snd)) (fDe_leastLasting_B22 x2 x3 x4 σ) :=
  kQ_lt
 (kQ_call (rfDe_settle _ _ _ _) rfl h fun r2 τ1 h =>
 kQ_wr rfl h fun τ3 h =>
 kQ_let fun y4 =>
 kQ_inl h)
 (kQ_exit (qfDe_leastLasting_J56 _ _ h))
theorem qfDe_leastLasting_L22 (x2 x3 x4 : Int) {σ0 σ : KM} (h : kFr wfDe_leastLasting σ0 σ) : kQ wfDe_leastLasting σ0 (Sum.elim (fun s : Int × KM => s.2) Prod.snd) (fDe_leastLasting_L22 x2 x3 x4 σ) :=
  kQ_iter (mf := fun s : Int × KM => s.2) (fun s h => qfDe_leastLasting_B22 x2 x3 s.1 h) kF (x4, σ) h
theorem qfDe_leastLasting_B11 (x2 x3 : Int) {σ0 σ : KM} (h : kFr wfDe_leastLasting σ0 σ) : kQ wfDe_leastLasting σ0 (Sum.elim (fun s : Int × KM => s.2) Prod.snd) (fDe_leastLasting_B11 x2 x3 σ) :=
  kQ_lt
 (qfDe_leastLasting_L22 _ _ _ h)
 (kQ_exit (qfDe_leastLasting_J62  h))
theorem qfDe_leastLasting_L11 (x2 x3 : Int) {σ0 σ : KM} (h : kFr wfDe_leastLasting σ0 σ) : kQ wfDe_leastLasting σ0 Prod.snd (fDe_leastLasting_L11 x2 x3 σ) :=
  kQ_iter (mf := fun s : Int × KM => s.2) (fun s h => qfDe_leastLasting_B11 x2 s.1 h) kF (x3, σ) h
theorem qfDe_leastLasting (x2 : Int) {σ0 σ : KM} (h : kFr wfDe_leastLasting σ0 σ) : kQ wfDe_leastLasting σ0 Prod.snd (fDe_leastLasting x2 σ) :=
  kQ_eq
 (kQ_ri h)
 (qfDe_leastLasting_L11 _ _ h)
theorem rfDe_leastLasting (x2 : Int) (σ : KM) : kQ wfDe_leastLasting σ Prod.snd (fDe_leastLasting x2 σ) := qfDe_leastLasting x2 kFr.rf
abbrev wfP_toldCost : List (Nat × Option Int) := []
theorem qfP_toldCost_J12 (t0 : Int) {σ0 σ : KM} (h : kFr wfP_toldCost σ0 σ) : kQ wfP_toldCost σ0 Prod.snd (fP_toldCost_J12 t0 σ) :=
  kQ_ri h
theorem qfP_toldCost (x0 : Int) {σ0 σ : KM} (h : kFr wfP_toldCost σ0 σ) : kQ wfP_toldCost σ0 Prod.snd (fP_toldCost x0 σ) :=
  kQ_lt
 (qfP_toldCost_J12 _ h)
 (qfP_toldCost_J12 _ h)
theorem rfP_toldCost (x0 : Int) (σ : KM) : kQ wfP_toldCost σ Prod.snd (fP_toldCost x0 σ) := qfP_toldCost x0 kFr.rf
abbrev wfP_lasting : List (Nat × Option Int) := [(5, some 2), (5, some 6), (6, some 3), (7, some 4), (8, some 1), (8, some 7), (8, some 8), (8, some 9), (8, some 12), (8, some 13), (8, some 14), (9, some 1), (9, some 4), (24, none), (25, none), (26, none), (28, none), (29, none), (30, none), (31, none), (32, none), (34, none), (35, none), (36, none), (37, none), (38, none), (39, none), (40, none), (44, none)]
theorem qfP_lasting_J40 (t0 : Int) {σ0 σ : KM} (h : kFr wfP_lasting σ0 σ) : kQ wfP_lasting σ0 Prod.snd (fP_lasting_J40 t0 σ) :=
  kQ_ri h
theorem qfP_lasting (x1 : Int) {σ0 σ : KM} (h : kFr wfP_lasting σ0 σ) : kQ wfP_lasting σ0 Prod.snd (fP_lasting x1 σ) :=
  kQ_call (rfP_outOf _ _ _ _) rfl h fun r2 τ1 h =>
 kQ_eq
 (kQ_call (rfP_noPath _) rfl h fun r4 τ3 h =>
 kQ_eq
 (kQ_call (rfDe_leastLasting _ _) rfl h fun r6 τ5 h =>
 kQ_call (rfP_toldCost _ _) rfl h fun r8 τ7 h =>
 qfP_lasting_J40 _ h)
 (qfP_lasting_J40 _ h))
 (kQ_ri h)
theorem rfP_lasting (x1 : Int) (σ : KM) : kQ wfP_lasting σ Prod.snd (fP_lasting x1 σ) := qfP_lasting x1 kFr.rf
abbrev wfP_noMode : List (Nat × Option Int) := []
theorem qfP_noMode (x0 : Int) {σ0 σ : KM} (h : kFr wfP_noMode σ0 σ) : kQ wfP_noMode σ0 Prod.snd (fP_noMode x0 σ) :=
  kQ_call (rfP_outOf _ _ _ _) rfl h fun r2 τ1 h =>
 kQ_rz h
theorem rfP_noMode (x0 : Int) (σ : KM) : kQ wfP_noMode σ Prod.snd (fP_noMode x0 σ) := qfP_noMode x0 kFr.rf
abbrev wfP_noTone : List (Nat × Option Int) := []
theorem qfP_noTone (x0 : Int) {σ0 σ : KM} (h : kFr wfP_noTone σ0 σ) : kQ wfP_noTone σ0 Prod.snd (fP_noTone x0 σ) :=
  kQ_call (rfP_outOf _ _ _ _) rfl h fun r2 τ1 h =>
 kQ_rz h
theorem rfP_noTone (x0 : Int) (σ : KM) : kQ wfP_noTone σ Prod.snd (fP_noTone x0 σ) := qfP_noTone x0 kFr.rf
abbrev wfP_learnt : List (Nat × Option Int) := [(5, some 2), (5, some 6), (6, some 3), (7, some 4), (8, some 1), (8, some 7), (8, some 8), (8, some 9), (8, some 12), (8, some 13), (8, some 14), (9, some 1), (9, some 4), (24, none), (25, none), (26, none), (28, none), (29, none), (30, none), (31, none), (32, none), (34, none), (35, none), (36, none), (37, none), (38, none), (39, none), (40, none)]
theorem qfP_learnt_J14 {σ0 σ : KM} (h : kFr wfP_learnt σ0 σ) : kQ wfP_learnt σ0 Prod.snd (fP_learnt_J14 σ) :=
  kQ_ri h
theorem qfP_learnt_J129 (t0 : Int) {σ0 σ : KM} (h : kFr wfP_learnt σ0 σ) : kQ wfP_learnt σ0 Prod.snd (fP_learnt_J129 t0 σ) :=
  kQ_ri h
theorem qfP_learnt_J113 (x3 x4 : Int) {σ0 σ : KM} (h : kFr wfP_learnt σ0 σ) : kQ wfP_learnt σ0 Prod.snd (fP_learnt_J113 x3 x4 σ) :=
  kQ_eq
 (qfP_learnt_J129 _ h)
 (kQ_dv fun y1 =>
 qfP_learnt_J129 _ h)
theorem qfP_learnt_J107 (x1 x2 x3 x4 x5 : Int) {σ0 σ : KM} (h : kFr wfP_learnt σ0 σ) : kQ wfP_learnt σ0 (Sum.elim (fun s : Int × Int × Int × KM => s.2.2.2) Prod.snd) (fP_learnt_J107 x1 x2 x3 x4 x5 σ) :=
  kQ_let fun y1 =>
 kQ_inl h
theorem qfP_learnt_B35 (x1 x2 x3 x4 x5 : Int) {σ0 σ : KM} (h : kFr wfP_learnt σ0 σ) : kQ wfP_learnt σ0 (Sum.elim (fun s : Int × Int × Int × KM => s.2.2.2) Prod.snd) (fP_learnt_B35 x1 x2 x3 x4 x5 σ) :=
  kQ_lt
 (kQ_rd fun y1 =>
 kQ_call (rfP_modeOf _ _) rfl h fun r3 τ2 h =>
 kQ_eq
 (kQ_rm fun y4 =>
 kQ_rd fun y5 =>
 kQ_let fun y6 =>
 kQ_rd fun y7 =>
 kQ_let fun y8 =>
 qfP_learnt_J107 _ _ _ _ _ h)
 (qfP_learnt_J107 _ _ _ _ _ h))
 (kQ_exit (qfP_learnt_J113 _ _ h))
theorem qfP_learnt_L35 (x1 x2 x3 x4 x5 : Int) {σ0 σ : KM} (h : kFr wfP_learnt σ0 σ) : kQ wfP_learnt σ0 Prod.snd (fP_learnt_L35 x1 x2 x3 x4 x5 σ) :=
  kQ_iter (mf := fun s : Int × Int × Int × KM => s.2.2.2) (fun s h => qfP_learnt_B35 x1 x2 s.1 s.2.1 s.2.2.1 h) kF (x3, x4, x5, σ) h
theorem qfP_learnt (x1 x2 : Int) {σ0 σ : KM} (h : kFr wfP_learnt σ0 σ) : kQ wfP_learnt σ0 Prod.snd (fP_learnt x1 x2 σ) :=
  kQ_call (rfP_noMode _ _) rfl h fun r2 τ1 h =>
 kQ_eq
 (kQ_call (rfP_noTone _ _) rfl h fun r4 τ3 h =>
 kQ_eq
 (kQ_call (rfP_noPath _) rfl h fun r6 τ5 h =>
 kQ_eq
 (qfP_learnt_L35 _ _ _ _ _ h)
 (kQ_ri h))
 (qfP_learnt_J14  h))
 (qfP_learnt_J14  h)
theorem rfP_learnt (x1 x2 : Int) (σ : KM) : kQ wfP_learnt σ Prod.snd (fP_learnt x1 x2 σ) := qfP_learnt x1 x2 kFr.rf
abbrev wfTR_next : List (Nat × Option Int) := [(1, some 6)]
theorem qfTR_next_J62 (t0 : Int) {σ0 σ : KM} (h : kFr wfTR_next σ0 σ) : kQ wfTR_next σ0 Prod.snd (fTR_next_J62 t0 σ) :=
  kQ_ri h
theorem qfTR_next_J38 {σ0 σ : KM} (h : kFr wfTR_next σ0 σ) : kQ wfTR_next σ0 Prod.snd (fTR_next_J38 σ) :=
  kQ_lt
 (kQ_rd fun y1 =>
 qfTR_next_J62 _ h)
 (qfTR_next_J62 _ h)
theorem qfTR_next_B0 {σ0 σ : KM} (h : kFr wfTR_next σ0 σ) : kQ wfTR_next σ0 (Sum.elim (fun s : KM => s) Prod.snd) (fTR_next_B0 σ) :=
  kQ_lt
 (kQ_rd fun y1 =>
 kQ_eq
 (kQ_wf rfl h fun τ2 h =>
 kQ_inl h)
 (kQ_exit (qfTR_next_J38  h)))
 (kQ_exit (qfTR_next_J38  h))
theorem qfTR_next_L0 {σ0 σ : KM} (h : kFr wfTR_next σ0 σ) : kQ wfTR_next σ0 Prod.snd (fTR_next_L0 σ) :=
  kQ_iter (mf := fun s : KM => s) (fun s h => qfTR_next_B0  h) kF (σ) h
theorem qfTR_next {σ0 σ : KM} (h : kFr wfTR_next σ0 σ) : kQ wfTR_next σ0 Prod.snd (fTR_next σ) :=
  qfTR_next_L0  h
theorem rfTR_next (σ : KM) : kQ wfTR_next σ Prod.snd (fTR_next σ) := qfTR_next  kFr.rf
abbrev wfTR_isLetter : List (Nat × Option Int) := []
theorem qfTR_isLetter_J17 (t0 : Int) {σ0 σ : KM} (h : kFr wfTR_isLetter σ0 σ) : kQ wfTR_isLetter σ0 Prod.snd (fTR_isLetter_J17 t0 σ) :=
  kQ_rz h
theorem qfTR_isLetter_J16 {σ0 σ : KM} (h : kFr wfTR_isLetter σ0 σ) : kQ wfTR_isLetter σ0 Prod.snd (fTR_isLetter_J16 σ) :=
  qfTR_isLetter_J17 _ h
theorem qfTR_isLetter (x0 : Int) {σ0 σ : KM} (h : kFr wfTR_isLetter σ0 σ) : kQ wfTR_isLetter σ0 Prod.snd (fTR_isLetter x0 σ) :=
  kQ_lt
 (qfTR_isLetter_J16  h)
 (kQ_lt
 (qfTR_isLetter_J16  h)
 (qfTR_isLetter_J17 _ h))
theorem rfTR_isLetter (x0 : Int) (σ : KM) : kQ wfTR_isLetter σ Prod.snd (fTR_isLetter x0 σ) := qfTR_isLetter x0 kFr.rf
abbrev wfTR_fail : List (Nat × Option Int) := [(1, some 3), (1, some 4)]
theorem qfTR_fail_J17 {σ0 σ : KM} (h : kFr wfTR_fail σ0 σ) : kQ wfTR_fail σ0 Prod.snd (fTR_fail_J17 σ) :=
  kQ_ri h
theorem qfTR_fail (x1 x2 : Int) {σ0 σ : KM} (h : kFr wfTR_fail σ0 σ) : kQ wfTR_fail σ0 Prod.snd (fTR_fail x1 x2 σ) :=
  kQ_eq
 (kQ_wf rfl h fun τ1 h =>
 kQ_wf rfl h fun τ2 h =>
 qfTR_fail_J17  h)
 (qfTR_fail_J17  h)
theorem rfTR_fail (x1 x2 : Int) (σ : KM) : kQ wfTR_fail σ Prod.snd (fTR_fail x1 x2 σ) := qfTR_fail x1 x2 kFr.rf
abbrev wfTR_readAccidental : List (Nat × Option Int) := [(1, some 6)]
theorem qfTR_readAccidental_J40 (t0 : Int) {σ0 σ : KM} (h : kFr wfTR_readAccidental σ0 σ) : kQ wfTR_readAccidental σ0 Prod.snd (fTR_readAccidental_J40 t0 σ) :=
  kQ_ri h
theorem qfTR_readAccidental_J19 (x1 : Int) {σ0 σ : KM} (h : kFr wfTR_readAccidental σ0 σ) : kQ wfTR_readAccidental σ0 Prod.snd (fTR_readAccidental_J19 x1 σ) :=
  kQ_wf rfl h fun τ1 h =>
 kQ_eq
 (qfTR_readAccidental_J40 _ h)
 (qfTR_readAccidental_J40 _ h)
theorem qfTR_readAccidental {σ0 σ : KM} (h : kFr wfTR_readAccidental σ0 σ) : kQ wfTR_readAccidental σ0 Prod.snd (fTR_readAccidental σ) :=
  kQ_call (rfTR_next _) rfl h fun r2 τ1 h =>
 kQ_eq
 (qfTR_readAccidental_J19 _ h)
 (kQ_eq
 (qfTR_readAccidental_J19 _ h)
 (kQ_ri h))
theorem rfTR_readAccidental (σ : KM) : kQ wfTR_readAccidental σ Prod.snd (fTR_readAccidental σ) := qfTR_readAccidental  kFr.rf
abbrev wfTR_isDigit : List (Nat × Option Int) := []
theorem qfTR_isDigit_J17 (t0 : Int) {σ0 σ : KM} (h : kFr wfTR_isDigit σ0 σ) : kQ wfTR_isDigit σ0 Prod.snd (fTR_isDigit_J17 t0 σ) :=
  kQ_rz h
theorem qfTR_isDigit_J16 {σ0 σ : KM} (h : kFr wfTR_isDigit σ0 σ) : kQ wfTR_isDigit σ0 Prod.snd (fTR_isDigit_J16 σ) :=
  qfTR_isDigit_J17 _ h
theorem qfTR_isDigit (x0 : Int) {σ0 σ : KM} (h : kFr wfTR_isDigit σ0 σ) : kQ wfTR_isDigit σ0 Prod.snd (fTR_isDigit x0 σ) :=
  kQ_lt
 (qfTR_isDigit_J16  h)
 (kQ_lt
 (qfTR_isDigit_J16  h)
 (qfTR_isDigit_J17 _ h))
theorem rfTR_isDigit (x0 : Int) (σ : KM) : kQ wfTR_isDigit σ Prod.snd (fTR_isDigit x0 σ) := qfTR_isDigit x0 kFr.rf
abbrev wfTR_isNamed : List (Nat × Option Int) := []
theorem qfTR_isNamed_J28 {σ0 σ : KM} (h : kFr wfTR_isNamed σ0 σ) : kQ wfTR_isNamed σ0 Prod.snd (fTR_isNamed_J28 σ) :=
  kQ_rz h
theorem qfTR_isNamed_J20 {σ0 σ : KM} (h : kFr wfTR_isNamed σ0 σ) : kQ wfTR_isNamed σ0 Prod.snd (fTR_isNamed_J20 σ) :=
  kQ_rz h
theorem qfTR_isNamed_B2 (x1 x2 : Int) {σ0 σ : KM} (h : kFr wfTR_isNamed σ0 σ) : kQ wfTR_isNamed σ0 (Sum.elim (fun s : Int × KM => s.2) Prod.snd) (fTR_isNamed_B2 x1 x2 σ) :=
  kQ_lt
 (kQ_rd fun y1 =>
 kQ_eq
 (kQ_exit (qfTR_isNamed_J20  h))
 (kQ_let fun y2 =>
 kQ_inl h))
 (kQ_exit (qfTR_isNamed_J28  h))
theorem qfTR_isNamed_L2 (x1 x2 : Int) {σ0 σ : KM} (h : kFr wfTR_isNamed σ0 σ) : kQ wfTR_isNamed σ0 Prod.snd (fTR_isNamed_L2 x1 x2 σ) :=
  kQ_iter (mf := fun s : Int × KM => s.2) (fun s h => qfTR_isNamed_B2 x1 s.1 h) kF (x2, σ) h
theorem qfTR_isNamed (x1 : Int) {σ0 σ : KM} (h : kFr wfTR_isNamed σ0 σ) : kQ wfTR_isNamed σ0 Prod.snd (fTR_isNamed x1 σ) :=
  qfTR_isNamed_L2 _ _ h
theorem rfTR_isNamed (x1 : Int) (σ : KM) : kQ wfTR_isNamed σ Prod.snd (fTR_isNamed x1 σ) := qfTR_isNamed x1 kFr.rf
abbrev wfTR_readName : List (Nat × Option Int) := [(1, some 3), (1, some 4), (1, some 6), (1, some 9), (12, none)]
theorem qfTR_readName_J50 (x2 : Int) {σ0 σ : KM} (h : kFr wfTR_readName σ0 σ) : kQ wfTR_readName σ0 Prod.snd (fTR_readName_J50 x2 σ) :=
  kQ_call (rfTR_fail _ _ _) rfl h fun _ τ1 h =>
 kQ_ri h
theorem qfTR_readName_J146 (x2 : Int) {σ0 σ : KM} (h : kFr wfTR_readName σ0 σ) : kQ wfTR_readName σ0 Prod.snd (fTR_readName_J146 x2 σ) :=
  kQ_call (rfTR_fail _ _ _) rfl h fun _ τ1 h =>
 kQ_ri h
theorem qfTR_readName {σ0 σ : KM} (h : kFr wfTR_readName σ0 σ) : kQ wfTR_readName σ0 Prod.snd (fTR_readName σ) :=
  kQ_call (rfTR_next _) rfl h fun r2 τ1 h =>
 kQ_let fun y3 =>
 kQ_call (rfTR_isLetter _ _) rfl h fun r5 τ4 h =>
 kQ_eq
 (kQ_call (rfTR_fail _ _ _) rfl h fun _ τ24 h =>
 kQ_ri h)
 (kQ_lt
 (kQ_lt
 (kQ_wf rfl h fun τ6 h =>
 kQ_rs fun y7 =>
 kQ_call (rfTR_readAccidental _) rfl h fun r9 τ8 h =>
 kQ_let fun y10 =>
 kQ_call (rfTR_next _) rfl h fun r12 τ11 h =>
 kQ_call (rfTR_isDigit _ _) rfl h fun r14 τ13 h =>
 kQ_eq
 (kQ_call (rfTR_fail _ _ _) rfl h fun _ τ23 h =>
 kQ_ri h)
 (kQ_wf rfl h fun τ15 h =>
 kQ_let fun y16 =>
 kQ_call (rfP_outOf _ _ _ _) rfl h fun r18 τ17 h =>
 kQ_eq
 (kQ_call (rfTR_isNamed _ _) rfl h fun r20 τ19 h =>
 kQ_eq
 (kQ_wr rfl h fun τ21 h =>
 kQ_wf rfl h fun τ22 h =>
 kQ_ri h)
 (qfTR_readName_J146 _ h))
 (qfTR_readName_J146 _ h)))
 (qfTR_readName_J50 _ h))
 (qfTR_readName_J50 _ h))
theorem rfTR_readName (σ : KM) : kQ wfTR_readName σ Prod.snd (fTR_readName σ) := qfTR_readName  kFr.rf
abbrev wfTR_readNumber : List (Nat × Option Int) := [(1, some 6)]
theorem qfTR_readNumber_J65 (x1 : Int) {σ0 σ : KM} (h : kFr wfTR_readNumber σ0 σ) : kQ wfTR_readNumber σ0 Prod.snd (fTR_readNumber_J65 x1 σ) :=
  kQ_ri h
theorem qfTR_readNumber_B2 (x1 : Int) {σ0 σ : KM} (h : kFr wfTR_readNumber σ0 σ) : kQ wfTR_readNumber σ0 (Sum.elim (fun s : Int × KM => s.2) Prod.snd) (fTR_readNumber_B2 x1 σ) :=
  kQ_lt
 (kQ_rd fun y1 =>
 kQ_call (rfTR_isDigit _ _) rfl h fun r3 τ2 h =>
 kQ_eq
 (kQ_exit (qfTR_readNumber_J65 _ h))
 (kQ_rd fun y4 =>
 kQ_mn fun y5 =>
 kQ_wf rfl h fun τ6 h =>
 kQ_inl h))
 (kQ_exit (qfTR_readNumber_J65 _ h))
theorem qfTR_readNumber_L2 (x1 : Int) {σ0 σ : KM} (h : kFr wfTR_readNumber σ0 σ) : kQ wfTR_readNumber σ0 Prod.snd (fTR_readNumber_L2 x1 σ) :=
  kQ_iter (mf := fun s : Int × KM => s.2) (fun s h => qfTR_readNumber_B2 s.1 h) kF (x1, σ) h
theorem qfTR_readNumber {σ0 σ : KM} (h : kFr wfTR_readNumber σ0 σ) : kQ wfTR_readNumber σ0 Prod.snd (fTR_readNumber σ) :=
  qfTR_readNumber_L2 _ h
theorem rfTR_readNumber (σ : KM) : kQ wfTR_readNumber σ Prod.snd (fTR_readNumber σ) := qfTR_readNumber  kFr.rf
abbrev wfNo_isBehindF : List (Nat × Option Int) := []
theorem qfNo_isBehindF_J69 (t0 : Int) {σ0 σ : KM} (h : kFr wfNo_isBehindF σ0 σ) : kQ wfNo_isBehindF σ0 Prod.snd (fNo_isBehindF_J69 t0 σ) :=
  kQ_rz h
theorem qfNo_isBehindF_J53 (t0 : Int) {σ0 σ : KM} (h : kFr wfNo_isBehindF σ0 σ) : kQ wfNo_isBehindF σ0 Prod.snd (fNo_isBehindF_J53 t0 σ) :=
  kQ_rz h
theorem qfNo_isBehindF_J25 (t0 : Int) {σ0 σ : KM} (h : kFr wfNo_isBehindF σ0 σ) : kQ wfNo_isBehindF σ0 Prod.snd (fNo_isBehindF_J25 t0 σ) :=
  kQ_rz h
theorem qfNo_isBehindF (x1 x2 x3 x4 : Int) {σ0 σ : KM} (h : kFr wfNo_isBehindF σ0 σ) : kQ wfNo_isBehindF σ0 Prod.snd (fNo_isBehindF x1 x2 x3 x4 σ) :=
  kQ_rd fun y1 =>
 kQ_eq
 (kQ_rd fun y2 =>
 kQ_eq
 (kQ_rd fun y3 =>
 kQ_lt
 (qfNo_isBehindF_J69 _ h)
 (qfNo_isBehindF_J69 _ h))
 (kQ_rd fun y4 =>
 kQ_lt
 (qfNo_isBehindF_J53 _ h)
 (qfNo_isBehindF_J53 _ h)))
 (kQ_rd fun y5 =>
 kQ_lt
 (qfNo_isBehindF_J25 _ h)
 (qfNo_isBehindF_J25 _ h))
theorem rfNo_isBehindF (x1 x2 x3 x4 : Int) (σ : KM) : kQ wfNo_isBehindF σ Prod.snd (fNo_isBehindF x1 x2 x3 x4 σ) := qfNo_isBehindF x1 x2 x3 x4 kFr.rf
abbrev wfNo_placeForF : List (Nat × Option Int) := []
theorem qfNo_placeForF_J31 (x4 : Int) {σ0 σ : KM} (h : kFr wfNo_placeForF σ0 σ) : kQ wfNo_placeForF σ0 Prod.snd (fNo_placeForF_J31 x4 σ) :=
  kQ_ri h
theorem qfNo_placeForF_B6 (x1 x2 x3 x4 : Int) {σ0 σ : KM} (h : kFr wfNo_placeForF σ0 σ) : kQ wfNo_placeForF σ0 (Sum.elim (fun s : Int × KM => s.2) Prod.snd) (fNo_placeForF_B6 x1 x2 x3 x4 σ) :=
  kQ_lt
 (kQ_call (rfNo_isBehindF _ _ _ _ _) rfl h fun r2 τ1 h =>
 kQ_eq
 (kQ_exit (qfNo_placeForF_J31 _ h))
 (kQ_let fun y3 =>
 kQ_inl h))
 (kQ_exit (qfNo_placeForF_J31 _ h))
theorem qfNo_placeForF_L6 (x1 x2 x3 x4 : Int) {σ0 σ : KM} (h : kFr wfNo_placeForF σ0 σ) : kQ wfNo_placeForF σ0 Prod.snd (fNo_placeForF_L6 x1 x2 x3 x4 σ) :=
  kQ_iter (mf := fun s : Int × KM => s.2) (fun s h => qfNo_placeForF_B6 x1 x2 x3 s.1 h) kF (x4, σ) h
theorem qfNo_placeForF (x1 x2 x3 : Int) {σ0 σ : KM} (h : kFr wfNo_placeForF σ0 σ) : kQ wfNo_placeForF σ0 Prod.snd (fNo_placeForF x1 x2 x3 σ) :=
  kQ_let fun y1 =>
 qfNo_placeForF_L6 _ _ _ _ h
theorem rfNo_placeForF (x1 x2 x3 : Int) (σ : KM) : kQ wfNo_placeForF σ Prod.snd (fNo_placeForF x1 x2 x3 σ) := qfNo_placeForF x1 x2 x3 kFr.rf
abbrev wfNo_insertF : List (Nat × Option Int) := [(2, some 3), (13, none), (14, none), (15, none)]
theorem qfNo_insertF_J21 {σ0 σ : KM} (h : kFr wfNo_insertF σ0 σ) : kQ wfNo_insertF σ0 Prod.snd (fNo_insertF_J21 σ) :=
  kQ_ri h
theorem qfNo_insertF (x1 x2 x3 x4 : Int) {σ0 σ : KM} (h : kFr wfNo_insertF σ0 σ) : kQ wfNo_insertF σ0 Prod.snd (fNo_insertF x1 x2 x3 x4 σ) :=
  kQ_lt
 (kQ_lt
 (qfNo_insertF_J21  h)
 (kQ_lt
 (qfNo_insertF_J21  h)
 (kQ_let fun y1 =>
 kQ_cpy rfl h fun τ2 h =>
 kQ_cpy rfl h fun τ3 h =>
 kQ_cpy rfl h fun τ4 h =>
 kQ_wr rfl h fun τ5 h =>
 kQ_wr rfl h fun τ6 h =>
 kQ_wr rfl h fun τ7 h =>
 kQ_wf rfl h fun τ8 h =>
 kQ_ri h)))
 (qfNo_insertF_J21  h)
theorem rfNo_insertF (x1 x2 x3 x4 : Int) (σ : KM) : kQ wfNo_insertF σ Prod.snd (fNo_insertF x1 x2 x3 x4 σ) := qfNo_insertF x1 x2 x3 x4 kFr.rf
abbrev wfTR_soundNamed : List (Nat × Option Int) := [(2, some 3), (13, none), (14, none), (15, none)]
theorem qfTR_soundNamed_J52 {σ0 σ : KM} (h : kFr wfTR_soundNamed σ0 σ) : kQ wfTR_soundNamed σ0 Prod.snd (fTR_soundNamed_J52 σ) :=
  kQ_ri h
theorem qfTR_soundNamed_B2 (x1 x2 : Int) {σ0 σ : KM} (h : kFr wfTR_soundNamed σ0 σ) : kQ wfTR_soundNamed σ0 (Sum.elim (fun s : Int × KM => s.2) Prod.snd) (fTR_soundNamed_B2 x1 x2 σ) :=
  kQ_lt
 (kQ_rd fun y1 =>
 kQ_call (rfNo_placeForF _ _ _ _) rfl h fun r3 τ2 h =>
 kQ_rd fun y4 =>
 kQ_call (rfNo_insertF _ _ _ _ _) rfl h fun _ τ5 h =>
 kQ_let fun y6 =>
 kQ_inl h)
 (kQ_exit (qfTR_soundNamed_J52  h))
theorem qfTR_soundNamed_L2 (x1 x2 : Int) {σ0 σ : KM} (h : kFr wfTR_soundNamed σ0 σ) : kQ wfTR_soundNamed σ0 Prod.snd (fTR_soundNamed_L2 x1 x2 σ) :=
  kQ_iter (mf := fun s : Int × KM => s.2) (fun s h => qfTR_soundNamed_B2 x1 s.1 h) kF (x2, σ) h
theorem qfTR_soundNamed (x1 : Int) {σ0 σ : KM} (h : kFr wfTR_soundNamed σ0 σ) : kQ wfTR_soundNamed σ0 Prod.snd (fTR_soundNamed x1 σ) :=
  qfTR_soundNamed_L2 _ _ h
theorem rfTR_soundNamed (x1 : Int) (σ : KM) : kQ wfTR_soundNamed σ Prod.snd (fTR_soundNamed x1 σ) := qfTR_soundNamed x1 kFr.rf
abbrev wfTR_readLength : List (Nat × Option Int) := [(1, some 3), (1, some 4), (1, some 6), (1, some 7), (2, some 3), (13, none), (14, none), (15, none)]
theorem qfTR_readLength_J132 {σ0 σ : KM} (h : kFr wfTR_readLength σ0 σ) : kQ wfTR_readLength σ0 Prod.snd (fTR_readLength_J132 σ) :=
  kQ_ri h
theorem qfTR_readLength_J87 (x1 : Int) {σ0 σ : KM} (h : kFr wfTR_readLength σ0 σ) : kQ wfTR_readLength σ0 Prod.snd (fTR_readLength_J87 x1 σ) :=
  kQ_call (rfTR_fail _ _ _) rfl h fun _ τ1 h =>
 qfTR_readLength_J132  h
theorem qfTR_readLength {σ0 σ : KM} (h : kFr wfTR_readLength σ0 σ) : kQ wfTR_readLength σ0 Prod.snd (fTR_readLength σ) :=
  kQ_eq
 (kQ_call (rfTR_next _) rfl h fun r2 τ1 h =>
 kQ_eq
 (kQ_wf rfl h fun τ3 h =>
 kQ_call (rfTR_next _) rfl h fun r5 τ4 h =>
 kQ_call (rfTR_isDigit _ _) rfl h fun r7 τ6 h =>
 kQ_eq
 (kQ_call (rfTR_fail _ _ _) rfl h fun _ τ16 h =>
 kQ_ri h)
 (kQ_let fun y8 =>
 kQ_call (rfTR_readNumber _) rfl h fun r10 τ9 h =>
 kQ_lt
 (qfTR_readLength_J87 _ h)
 (kQ_call (rfP_outOf _ _ _ _) rfl h fun r12 τ11 h =>
 kQ_eq
 (kQ_lt
 (kQ_call (rfTR_fail _ _ _) rfl h fun _ τ15 h =>
 qfTR_readLength_J132  h)
 (kQ_call (rfTR_soundNamed _ _) rfl h fun _ τ13 h =>
 kQ_wf rfl h fun τ14 h =>
 qfTR_readLength_J132  h))
 (qfTR_readLength_J87 _ h))))
 (kQ_call (rfTR_fail _ _ _) rfl h fun _ τ17 h =>
 kQ_ri h))
 (kQ_ri h)
theorem rfTR_readLength (σ : KM) : kQ wfTR_readLength σ Prod.snd (fTR_readLength σ) := qfTR_readLength  kFr.rf
abbrev wfTR_readNames : List (Nat × Option Int) := [(1, some 3), (1, some 4), (1, some 6), (1, some 9), (12, none)]
theorem qfTR_readNames_J54 {σ0 σ : KM} (h : kFr wfTR_readNames σ0 σ) : kQ wfTR_readNames σ0 Prod.snd (fTR_readNames_J54 σ) :=
  kQ_ri h
theorem qfTR_readNames_J44 (x1 : Int) {σ0 σ : KM} (h : kFr wfTR_readNames σ0 σ) : kQ wfTR_readNames σ0 (Sum.elim (fun s : Int × KM => s.2) Prod.snd) (fTR_readNames_J44 x1 σ) :=
  kQ_call (rfTR_readName _) rfl h fun _ τ1 h =>
 kQ_let fun y2 =>
 kQ_inl h
theorem qfTR_readNames_J33 {σ0 σ : KM} (h : kFr wfTR_readNames σ0 σ) : kQ wfTR_readNames σ0 Prod.snd (fTR_readNames_J33 σ) :=
  kQ_wf rfl h fun τ1 h =>
 kQ_ri h
theorem qfTR_readNames_B2 (x1 : Int) {σ0 σ : KM} (h : kFr wfTR_readNames σ0 σ) : kQ wfTR_readNames σ0 (Sum.elim (fun s : Int × KM => s.2) Prod.snd) (fTR_readNames_B2 x1 σ) :=
  kQ_lt
 (kQ_exit (qfTR_readNames_J54  h))
 (kQ_eq
 (kQ_call (rfTR_next _) rfl h fun r2 τ1 h =>
 kQ_eq
 (kQ_lt
 (kQ_exit (qfTR_readNames_J33  h))
 (qfTR_readNames_J44 _ h))
 (qfTR_readNames_J44 _ h))
 (kQ_exit (qfTR_readNames_J54  h)))
theorem qfTR_readNames_L2 (x1 : Int) {σ0 σ : KM} (h : kFr wfTR_readNames σ0 σ) : kQ wfTR_readNames σ0 Prod.snd (fTR_readNames_L2 x1 σ) :=
  kQ_iter (mf := fun s : Int × KM => s.2) (fun s h => qfTR_readNames_B2 s.1 h) kF (x1, σ) h
theorem qfTR_readNames {σ0 σ : KM} (h : kFr wfTR_readNames σ0 σ) : kQ wfTR_readNames σ0 Prod.snd (fTR_readNames σ) :=
  qfTR_readNames_L2 _ h
theorem rfTR_readNames (σ : KM) : kQ wfTR_readNames σ Prod.snd (fTR_readNames σ) := qfTR_readNames  kFr.rf
abbrev wfTR_readPart : List (Nat × Option Int) := [(1, some 3), (1, some 4), (1, some 6), (1, some 7), (1, some 9), (2, some 3), (12, none), (13, none), (14, none), (15, none)]
theorem qfTR_readPart_J106 {σ0 σ : KM} (h : kFr wfTR_readPart σ0 σ) : kQ wfTR_readPart σ0 Prod.snd (fTR_readPart_J106 σ) :=
  kQ_ri h
theorem qfTR_readPart {σ0 σ : KM} (h : kFr wfTR_readPart σ0 σ) : kQ wfTR_readPart σ0 Prod.snd (fTR_readPart σ) :=
  kQ_call (rfTR_next _) rfl h fun r2 τ1 h =>
 kQ_wf rfl h fun τ3 h =>
 kQ_eq
 (kQ_wf rfl h fun τ14 h =>
 qfTR_readPart_J106  h)
 (kQ_eq
 (kQ_wf rfl h fun τ12 h =>
 kQ_call (rfTR_readLength _) rfl h fun _ τ13 h =>
 qfTR_readPart_J106  h)
 (kQ_eq
 (kQ_wf rfl h fun τ9 h =>
 kQ_call (rfTR_readNames _) rfl h fun _ τ10 h =>
 kQ_call (rfTR_readLength _) rfl h fun _ τ11 h =>
 qfTR_readPart_J106  h)
 (kQ_call (rfTR_isLetter _ _) rfl h fun r5 τ4 h =>
 kQ_eq
 (kQ_call (rfTR_fail _ _ _) rfl h fun _ τ6 h =>
 qfTR_readPart_J106  h)
 (kQ_call (rfTR_readName _) rfl h fun _ τ7 h =>
 kQ_call (rfTR_readLength _) rfl h fun _ τ8 h =>
 qfTR_readPart_J106  h))))
theorem rfTR_readPart (σ : KM) : kQ wfTR_readPart σ Prod.snd (fTR_readPart σ) := qfTR_readPart  kFr.rf
abbrev wfTR_read : List (Nat × Option Int) := [(1, some 1), (1, some 3), (1, some 4), (1, some 5), (1, some 6), (1, some 7), (1, some 9), (2, some 3), (12, none), (13, none), (14, none), (15, none)]
theorem qfTR_read_J78 {σ0 σ : KM} (h : kFr wfTR_read σ0 σ) : kQ wfTR_read σ0 Prod.snd (fTR_read_J78 σ) :=
  kQ_wf rfl h fun τ1 h =>
 kQ_ri h
theorem qfTR_read_J65 {σ0 σ : KM} (h : kFr wfTR_read σ0 σ) : kQ wfTR_read σ0 Prod.snd (fTR_read_J65 σ) :=
  qfTR_read_J78  h
theorem qfTR_read_B42 (x2 : Int) {σ0 σ : KM} (h : kFr wfTR_read σ0 σ) : kQ wfTR_read σ0 (Sum.elim (fun s : Int × KM => s.2) Prod.snd) (fTR_read_B42 x2 σ) :=
  kQ_lt
 (kQ_exit (qfTR_read_J78  h))
 (kQ_eq
 (kQ_call (rfTR_next _) rfl h fun r2 τ1 h =>
 kQ_eq
 (kQ_exit (qfTR_read_J65  h))
 (kQ_call (rfTR_readPart _) rfl h fun _ τ3 h =>
 kQ_let fun y4 =>
 kQ_inl h))
 (kQ_exit (qfTR_read_J78  h)))
theorem qfTR_read_L42 (x2 : Int) {σ0 σ : KM} (h : kFr wfTR_read σ0 σ) : kQ wfTR_read σ0 Prod.snd (fTR_read_L42 x2 σ) :=
  kQ_iter (mf := fun s : Int × KM => s.2) (fun s h => qfTR_read_B42 s.1 h) kF (x2, σ) h
theorem qfTR_read (x1 : Int) {σ0 σ : KM} (h : kFr wfTR_read σ0 σ) : kQ wfTR_read σ0 Prod.snd (fTR_read x1 σ) :=
  kQ_mn fun y1 =>
 kQ_wf rfl h fun τ2 h =>
 kQ_wf rfl h fun τ3 h =>
 kQ_wf rfl h fun τ4 h =>
 kQ_wf rfl h fun τ5 h =>
 kQ_wf rfl h fun τ6 h =>
 kQ_wf rfl h fun τ7 h =>
 qfTR_read_L42 _ h
theorem rfTR_read (x1 : Int) (σ : KM) : kQ wfTR_read σ Prod.snd (fTR_read x1 σ) := qfTR_read x1 kFr.rf
abbrev wfNo_become : List (Nat × Option Int) := [(3, some 3), (16, none), (17, none), (18, none)]
theorem qfNo_become {σ0 σ : KM} (h : kFr wfNo_become σ0 σ) : kQ wfNo_become σ0 Prod.snd (fNo_become σ) :=
  kQ_cpy rfl h fun τ1 h =>
 kQ_cpy rfl h fun τ2 h =>
 kQ_cpy rfl h fun τ3 h =>
 kQ_wf rfl h fun τ4 h =>
 kQ_ri h
theorem rfNo_become (σ : KM) : kQ wfNo_become σ Prod.snd (fNo_become σ) := qfNo_become  kFr.rf
abbrev wfHi_forget : List (Nat × Option Int) := [(4, some 5)]
theorem qfHi_forget {σ0 σ : KM} (h : kFr wfHi_forget σ0 σ) : kQ wfHi_forget σ0 Prod.snd (fHi_forget σ) :=
  kQ_wf rfl h fun τ1 h =>
 kQ_ri h
theorem rfHi_forget (σ : KM) : kQ wfHi_forget σ Prod.snd (fHi_forget σ) := qfHi_forget  kFr.rf
abbrev wfP_load : List (Nat × Option Int) := [(1, some 1), (1, some 3), (1, some 4), (1, some 5), (1, some 6), (1, some 7), (1, some 9), (2, some 3), (3, some 3), (4, some 5), (5, some 6), (6, some 3), (8, some 13), (12, none), (13, none), (14, none), (15, none), (16, none), (17, none), (18, none)]
theorem qfP_load_J15 {σ0 σ : KM} (h : kFr wfP_load σ0 σ) : kQ wfP_load σ0 Prod.snd (fP_load_J15 σ) :=
  kQ_ri h
theorem qfP_load (x1 : Int) {σ0 σ : KM} (h : kFr wfP_load σ0 σ) : kQ wfP_load σ0 Prod.snd (fP_load x1 σ) :=
  kQ_lt
 (qfP_load_J15  h)
 (kQ_lt
 (qfP_load_J15  h)
 (kQ_call (rfTR_read _ _) rfl h fun _ τ1 h =>
 kQ_eq
 (kQ_call (rfNo_become _) rfl h fun _ τ2 h =>
 kQ_call (rfHi_forget _) rfl h fun _ τ3 h =>
 kQ_call (rfP_notesChanged _) rfl h fun _ τ4 h =>
 kQ_ri h)
 (kQ_ri h)))
theorem rfP_load (x1 : Int) (σ : KM) : kQ wfP_load σ Prod.snd (fP_load x1 σ) := qfP_load x1 kFr.rf
abbrev wfP_commonDivisor : List (Nat × Option Int) := []
theorem qfP_commonDivisor_J34 (x2 : Int) {σ0 σ : KM} (h : kFr wfP_commonDivisor σ0 σ) : kQ wfP_commonDivisor σ0 Prod.snd (fP_commonDivisor_J34 x2 σ) :=
  kQ_ri h
theorem qfP_commonDivisor_B7 (x2 x3 x4 : Int) {σ0 σ : KM} (h : kFr wfP_commonDivisor σ0 σ) : kQ wfP_commonDivisor σ0 (Sum.elim (fun s : Int × Int × Int × KM => s.2.2.2) Prod.snd) (fP_commonDivisor_B7 x2 x3 x4 σ) :=
  kQ_lt
 (kQ_eq
 (kQ_exit (qfP_commonDivisor_J34 _ h))
 (kQ_rm fun y1 =>
 kQ_let fun y2 =>
 kQ_inl h))
 (kQ_exit (qfP_commonDivisor_J34 _ h))
theorem qfP_commonDivisor_L7 (x2 x3 x4 : Int) {σ0 σ : KM} (h : kFr wfP_commonDivisor σ0 σ) : kQ wfP_commonDivisor σ0 Prod.snd (fP_commonDivisor_L7 x2 x3 x4 σ) :=
  kQ_iter (mf := fun s : Int × Int × Int × KM => s.2.2.2) (fun s h => qfP_commonDivisor_B7 s.1 s.2.1 s.2.2.1 h) kF (x2, x3, x4, σ) h
theorem qfP_commonDivisor (x0 x1 : Int) {σ0 σ : KM} (h : kFr wfP_commonDivisor σ0 σ) : kQ wfP_commonDivisor σ0 Prod.snd (fP_commonDivisor x0 x1 σ) :=
  qfP_commonDivisor_L7 _ _ _ h
theorem rfP_commonDivisor (x0 x1 : Int) (σ : KM) : kQ wfP_commonDivisor σ Prod.snd (fP_commonDivisor x0 x1 σ) := qfP_commonDivisor x0 x1 kFr.rf
abbrev wfP_match : List (Nat × Option Int) := [(5, some 2), (5, some 6), (24, none), (25, none), (26, none)]
theorem qfP_match_J24 {σ0 σ : KM} (h : kFr wfP_match σ0 σ) : kQ wfP_match σ0 Prod.snd (fP_match_J24 σ) :=
  kQ_ri h
theorem qfP_match_J94 (t0 : Int) {σ0 σ : KM} (h : kFr wfP_match σ0 σ) : kQ wfP_match σ0 Prod.snd (fP_match_J94 t0 σ) :=
  kQ_ri h
theorem qfP_match (x1 x2 x3 : Int) {σ0 σ : KM} (h : kFr wfP_match σ0 σ) : kQ wfP_match σ0 Prod.snd (fP_match x1 x2 x3 σ) :=
  kQ_call (rfP_noWindow _ _) rfl h fun r2 τ1 h =>
 kQ_eq
 (kQ_call (rfP_noKey _ _) rfl h fun r4 τ3 h =>
 kQ_eq
 (kQ_call (rfP_outOf _ _ _ _) rfl h fun r6 τ5 h =>
 kQ_eq
 (kQ_rd fun y7 =>
 kQ_eq
 (kQ_ri h)
 (kQ_call (rfPr_weigh _ _ _) rfl h fun r9 τ8 h =>
 kQ_call (rfP_commonDivisor _ _ _) rfl h fun r11 τ10 h =>
 kQ_lt
 (kQ_ri h)
 (kQ_eq
 (kQ_dv fun y13 =>
 qfP_match_J94 _ h)
 (kQ_dv fun y12 =>
 qfP_match_J94 _ h))))
 (qfP_match_J24  h))
 (qfP_match_J24  h))
 (qfP_match_J24  h)
theorem rfP_match (x1 x2 x3 : Int) (σ : KM) : kQ wfP_match σ Prod.snd (fP_match x1 x2 x3 σ) := qfP_match x1 x2 x3 kFr.rf
abbrev wfP_name : List (Nat × Option Int) := []
theorem qfP_name_J78 (t0 : Int) {σ0 σ : KM} (h : kFr wfP_name σ0 σ) : kQ wfP_name σ0 Prod.snd (fP_name_J78 t0 σ) :=
  kQ_ri h
theorem qfP_name_J77 {σ0 σ : KM} (h : kFr wfP_name σ0 σ) : kQ wfP_name σ0 Prod.snd (fP_name_J77 σ) :=
  qfP_name_J78 _ h
theorem qfP_name_J51 (x1 x2 x3 : Int) {σ0 σ : KM} (h : kFr wfP_name σ0 σ) : kQ wfP_name σ0 Prod.snd (fP_name_J51 x1 x2 x3 σ) :=
  kQ_lt
 (kQ_ri h)
 (kQ_eq
 (kQ_call (rfP_modeOf _ _) rfl h fun r2 τ1 h =>
 kQ_eq
 (qfP_name_J78 _ h)
 (qfP_name_J77  h))
 (qfP_name_J77  h))
theorem qfP_name (x1 x2 : Int) {σ0 σ : KM} (h : kFr wfP_name σ0 σ) : kQ wfP_name σ0 Prod.snd (fP_name x1 x2 σ) :=
  kQ_call (rfP_noKey _ _) rfl h fun r2 τ1 h =>
 kQ_eq
 (kQ_lt
 (kQ_ri h)
 (kQ_eq
 (kQ_rm fun y5 =>
 kQ_chr fun y6 =>
 kQ_ri h)
 (kQ_rm fun y3 =>
 kQ_chr fun y4 =>
 kQ_eq
 (qfP_name_J51 _ _ _ h)
 (qfP_name_J51 _ _ _ h))))
 (kQ_ri h)
theorem rfP_name (x1 x2 : Int) (σ : KM) : kQ wfP_name σ Prod.snd (fP_name x1 x2 σ) := qfP_name x1 x2 kFr.rf
abbrev wfP_net : List (Nat × Option Int) := [(7, some 0), (7, some 1), (7, some 2), (7, some 3), (7, some 4), (8, some 13)]
theorem qfP_net_J44 {σ0 σ : KM} (h : kFr wfP_net σ0 σ) : kQ wfP_net σ0 Prod.snd (fP_net_J44 σ) :=
  kQ_ri h
theorem qfP_net (x1 x2 x3 x4 : Int) {σ0 σ : KM} (h : kFr wfP_net σ0 σ) : kQ wfP_net σ0 Prod.snd (fP_net x1 x2 x3 x4 σ) :=
  kQ_call (rfP_outOf _ _ _ _) rfl h fun r2 τ1 h =>
 kQ_eq
 (kQ_call (rfP_outOf _ _ _ _) rfl h fun r4 τ3 h =>
 kQ_eq
 (kQ_call (rfP_outOf _ _ _ _) rfl h fun r6 τ5 h =>
 kQ_eq
 (kQ_call (rfP_outOf _ _ _ _) rfl h fun r8 τ7 h =>
 kQ_eq
 (kQ_let fun y9 =>
 kQ_wf rfl h fun τ10 h =>
 kQ_wf rfl h fun τ11 h =>
 kQ_wf rfl h fun τ12 h =>
 kQ_wf rfl h fun τ13 h =>
 kQ_wfz rfl h fun τ14 h =>
 kQ_call (rfP_pathChanged _) rfl h fun _ τ15 h =>
 kQ_ri h)
 (qfP_net_J44  h))
 (qfP_net_J44  h))
 (qfP_net_J44  h))
 (qfP_net_J44  h)
theorem rfP_net (x1 x2 x3 x4 : Int) (σ : KM) : kQ wfP_net σ Prod.snd (fP_net x1 x2 x3 x4 σ) := qfP_net x1 x2 x3 x4 kFr.rf
abbrev wfP_note : List (Nat × Option Int) := []
theorem qfP_note_J15 {σ0 σ : KM} (h : kFr wfP_note σ0 σ) : kQ wfP_note σ0 Prod.snd (fP_note_J15 σ) :=
  kQ_ri h
theorem qfP_note (x1 x2 : Int) {σ0 σ : KM} (h : kFr wfP_note σ0 σ) : kQ wfP_note σ0 Prod.snd (fP_note x1 x2 σ) :=
  kQ_lt
 (qfP_note_J15  h)
 (kQ_lt
 (kQ_sw (kA_cons (kQ_rd fun y1 =>
 kQ_ri h) (kA_cons (kQ_rd fun y2 =>
 kQ_ri h) (kA_cons (kQ_rd fun y3 =>
 kQ_ri h) (kA_cons (kQ_rd fun y4 =>
 kQ_rm fun y5 =>
 kQ_ri h) (kA_nil))))) (kQ_ri h))
 (qfP_note_J15  h))
theorem rfP_note (x1 x2 : Int) (σ : KM) : kQ wfP_note σ Prod.snd (fP_note x1 x2 σ) := qfP_note x1 x2 kFr.rf
abbrev wfP_outside : List (Nat × Option Int) := [(5, some 2), (5, some 6), (6, some 3), (7, some 4), (8, some 1), (8, some 7), (8, some 8), (8, some 9), (8, some 12), (8, some 13), (8, some 14), (9, some 1), (9, some 4), (24, none), (25, none), (26, none), (28, none), (29, none), (30, none), (31, none), (32, none), (34, none), (35, none), (36, none), (37, none), (38, none), (39, none), (40, none)]
theorem qfP_outside_J56 (x1 : Int) {σ0 σ : KM} (h : kFr wfP_outside σ0 σ) : kQ wfP_outside σ0 Prod.snd (fP_outside_J56 x1 σ) :=
  kQ_ri h
theorem qfP_outside_J50 (x1 x2 : Int) {σ0 σ : KM} (h : kFr wfP_outside σ0 σ) : kQ wfP_outside σ0 (Sum.elim (fun s : Int × Int × KM => s.2.2) Prod.snd) (fP_outside_J50 x1 x2 σ) :=
  kQ_let fun y1 =>
 kQ_inl h
theorem qfP_outside_B14 (x1 x2 : Int) {σ0 σ : KM} (h : kFr wfP_outside σ0 σ) : kQ wfP_outside σ0 (Sum.elim (fun s : Int × Int × KM => s.2.2) Prod.snd) (fP_outside_B14 x1 x2 σ) :=
  kQ_lt
 (kQ_rd fun y1 =>
 kQ_eq
 (qfP_outside_J50 _ _ h)
 (kQ_call (rfP_romanOf _ _) rfl h fun r3 τ2 h =>
 kQ_eq
 (kQ_let fun y4 =>
 qfP_outside_J50 _ _ h)
 (qfP_outside_J50 _ _ h)))
 (kQ_exit (qfP_outside_J56 _ h))
theorem qfP_outside_L14 (x1 x2 : Int) {σ0 σ : KM} (h : kFr wfP_outside σ0 σ) : kQ wfP_outside σ0 Prod.snd (fP_outside_L14 x1 x2 σ) :=
  kQ_iter (mf := fun s : Int × Int × KM => s.2.2) (fun s h => qfP_outside_B14 s.1 s.2.1 h) kF (x1, x2, σ) h
theorem qfP_outside {σ0 σ : KM} (h : kFr wfP_outside σ0 σ) : kQ wfP_outside σ0 Prod.snd (fP_outside σ) :=
  kQ_call (rfP_noPath _) rfl h fun r2 τ1 h =>
 kQ_eq
 (qfP_outside_L14 _ _ h)
 (kQ_ri h)
theorem rfP_outside (σ : KM) : kQ wfP_outside σ Prod.snd (fP_outside σ) := qfP_outside  kFr.rf
abbrev wfPr_betterThan : List (Nat × Option Int) := []
theorem qfPr_betterThan_J66 (x4 : Int) {σ0 σ : KM} (h : kFr wfPr_betterThan σ0 σ) : kQ wfPr_betterThan σ0 Prod.snd (fPr_betterThan_J66 x4 σ) :=
  kQ_ri h
theorem qfPr_betterThan_J60 (x1 x2 x3 x4 x5 : Int) {σ0 σ : KM} (h : kFr wfPr_betterThan σ0 σ) : kQ wfPr_betterThan σ0 (Sum.elim (fun s : Int × Int × KM => s.2.2) Prod.snd) (fPr_betterThan_J60 x1 x2 x3 x4 x5 σ) :=
  kQ_let fun y1 =>
 kQ_inl h
theorem qfPr_betterThan_J57 (x1 x2 x3 x4 x5 : Int) {σ0 σ : KM} (h : kFr wfPr_betterThan σ0 σ) : kQ wfPr_betterThan σ0 (Sum.elim (fun s : Int × Int × KM => s.2.2) Prod.snd) (fPr_betterThan_J57 x1 x2 x3 x4 x5 σ) :=
  kQ_let fun y1 =>
 qfPr_betterThan_J60 _ _ _ _ _ h
theorem qfPr_betterThan_B18 (x1 x2 x3 x4 x5 : Int) {σ0 σ : KM} (h : kFr wfPr_betterThan σ0 σ) : kQ wfPr_betterThan σ0 (Sum.elim (fun s : Int × Int × KM => s.2.2) Prod.snd) (fPr_betterThan_B18 x1 x2 x3 x4 x5 σ) :=
  kQ_lt
 (kQ_rd fun y1 =>
 kQ_lt
 (qfPr_betterThan_J57 _ _ _ _ _ h)
 (kQ_eq
 (kQ_lt
 (qfPr_betterThan_J57 _ _ _ _ _ h)
 (qfPr_betterThan_J60 _ _ _ _ _ h))
 (qfPr_betterThan_J60 _ _ _ _ _ h)))
 (kQ_exit (qfPr_betterThan_J66 _ h))
theorem qfPr_betterThan_L18 (x1 x2 x3 x4 x5 : Int) {σ0 σ : KM} (h : kFr wfPr_betterThan σ0 σ) : kQ wfPr_betterThan σ0 Prod.snd (fPr_betterThan_L18 x1 x2 x3 x4 x5 σ) :=
  kQ_iter (mf := fun s : Int × Int × KM => s.2.2) (fun s h => qfPr_betterThan_B18 x1 x2 x3 s.1 s.2.1 h) kF (x4, x5, σ) h
theorem qfPr_betterThan (x1 x2 : Int) {σ0 σ : KM} (h : kFr wfPr_betterThan σ0 σ) : kQ wfPr_betterThan σ0 Prod.snd (fPr_betterThan x1 x2 σ) :=
  kQ_rd fun y1 =>
 qfPr_betterThan_L18 _ _ _ _ _ h
theorem rfPr_betterThan (x1 x2 : Int) (σ : KM) : kQ wfPr_betterThan σ Prod.snd (fPr_betterThan x1 x2 σ) := qfPr_betterThan x1 x2 kFr.rf
abbrev wfPr_keyOfRank : List (Nat × Option Int) := []
theorem qfPr_keyOfRank_J26 {σ0 σ : KM} (h : kFr wfPr_keyOfRank σ0 σ) : kQ wfPr_keyOfRank σ0 Prod.snd (fPr_keyOfRank_J26 σ) :=
  kQ_ri h
theorem qfPr_keyOfRank_J18 (x3 : Int) {σ0 σ : KM} (h : kFr wfPr_keyOfRank σ0 σ) : kQ wfPr_keyOfRank σ0 Prod.snd (fPr_keyOfRank_J18 x3 σ) :=
  kQ_ri h
theorem qfPr_keyOfRank_B2 (x1 x2 x3 : Int) {σ0 σ : KM} (h : kFr wfPr_keyOfRank σ0 σ) : kQ wfPr_keyOfRank σ0 (Sum.elim (fun s : Int × KM => s.2) Prod.snd) (fPr_keyOfRank_B2 x1 x2 x3 σ) :=
  kQ_lt
 (kQ_call (rfPr_betterThan _ _ _) rfl h fun r2 τ1 h =>
 kQ_eq
 (kQ_exit (qfPr_keyOfRank_J18 _ h))
 (kQ_let fun y3 =>
 kQ_inl h))
 (kQ_exit (qfPr_keyOfRank_J26  h))
theorem qfPr_keyOfRank_L2 (x1 x2 x3 : Int) {σ0 σ : KM} (h : kFr wfPr_keyOfRank σ0 σ) : kQ wfPr_keyOfRank σ0 Prod.snd (fPr_keyOfRank_L2 x1 x2 x3 σ) :=
  kQ_iter (mf := fun s : Int × KM => s.2) (fun s h => qfPr_keyOfRank_B2 x1 x2 s.1 h) kF (x3, σ) h
theorem qfPr_keyOfRank (x1 x2 : Int) {σ0 σ : KM} (h : kFr wfPr_keyOfRank σ0 σ) : kQ wfPr_keyOfRank σ0 Prod.snd (fPr_keyOfRank x1 x2 σ) :=
  qfPr_keyOfRank_L2 _ _ _ h
theorem rfPr_keyOfRank (x1 x2 : Int) (σ : KM) : kQ wfPr_keyOfRank σ Prod.snd (fPr_keyOfRank x1 x2 σ) := qfPr_keyOfRank x1 x2 kFr.rf
abbrev wfP_overall : List (Nat × Option Int) := [(5, some 2), (5, some 6), (6, some 3), (24, none), (25, none), (26, none), (28, none), (29, none)]
theorem qfP_overall (x1 : Int) {σ0 σ : KM} (h : kFr wfP_overall σ0 σ) : kQ wfP_overall σ0 Prod.snd (fP_overall x1 σ) :=
  kQ_call (rfP_noKey _ _) rfl h fun r2 τ1 h =>
 kQ_eq
 (kQ_call (rfP_freshFits _) rfl h fun _ τ3 h =>
 kQ_call (rfPr_keyOfRank _ _ _) rfl h fun r5 τ4 h =>
 kQ_ri h)
 (kQ_ri h)
theorem rfP_overall (x1 : Int) (σ : KM) : kQ wfP_overall σ Prod.snd (fP_overall x1 σ) := qfP_overall x1 kFr.rf
abbrev wfP_pin : List (Nat × Option Int) := [(8, some 13), (33, none)]
theorem qfP_pin_J22 {σ0 σ : KM} (h : kFr wfP_pin σ0 σ) : kQ wfP_pin σ0 Prod.snd (fP_pin_J22 σ) :=
  kQ_ri h
theorem qfP_pin_J25 (x1 x2 : Int) {σ0 σ : KM} (h : kFr wfP_pin σ0 σ) : kQ wfP_pin σ0 Prod.snd (fP_pin_J25 x1 x2 σ) :=
  kQ_rd fun y1 =>
 kQ_wr rfl h fun τ2 h =>
 kQ_call (rfP_pathChanged _) rfl h fun _ τ3 h =>
 kQ_ri h
theorem qfP_pin (x1 x2 : Int) {σ0 σ : KM} (h : kFr wfP_pin σ0 σ) : kQ wfP_pin σ0 Prod.snd (fP_pin x1 x2 σ) :=
  kQ_call (rfP_outOf _ _ _ _) rfl h fun r2 τ1 h =>
 kQ_eq
 (kQ_eq
 (qfP_pin_J25 _ _ h)
 (kQ_call (rfP_noKey _ _) rfl h fun r4 τ3 h =>
 kQ_eq
 (qfP_pin_J25 _ _ h)
 (qfP_pin_J22  h)))
 (qfP_pin_J22  h)
theorem rfP_pin (x1 x2 : Int) (σ : KM) : kQ wfP_pin σ Prod.snd (fP_pin x1 x2 σ) := qfP_pin x1 x2 kFr.rf
abbrev wfWi_sound : List (Nat × Option Int) := []
theorem qfWi_sound_J62 (x3 : Int) {σ0 σ : KM} (h : kFr wfWi_sound σ0 σ) : kQ wfWi_sound σ0 Prod.snd (fWi_sound_J62 x3 σ) :=
  kQ_ri h
theorem qfWi_sound_B6 (x1 x2 x3 x4 : Int) {σ0 σ : KM} (h : kFr wfWi_sound σ0 σ) : kQ wfWi_sound σ0 (Sum.elim (fun s : Int × Int × KM => s.2.2) Prod.snd) (fWi_sound_B6 x1 x2 x3 x4 σ) :=
  kQ_lt
 (kQ_call (rfP_toneOf _ _ _) rfl h fun r2 τ1 h =>
 kQ_rd fun y3 =>
 kQ_rd fun y4 =>
 kQ_let fun y5 =>
 kQ_mn fun y6 =>
 kQ_let fun y7 =>
 kQ_inl h)
 (kQ_exit (qfWi_sound_J62 _ h))
theorem qfWi_sound_L6 (x1 x2 x3 x4 : Int) {σ0 σ : KM} (h : kFr wfWi_sound σ0 σ) : kQ wfWi_sound σ0 Prod.snd (fWi_sound_L6 x1 x2 x3 x4 σ) :=
  kQ_iter (mf := fun s : Int × Int × KM => s.2.2) (fun s h => qfWi_sound_B6 x1 x2 s.1 s.2.1 h) kF (x3, x4, σ) h
theorem qfWi_sound (x1 x2 : Int) {σ0 σ : KM} (h : kFr wfWi_sound σ0 σ) : kQ wfWi_sound σ0 Prod.snd (fWi_sound x1 x2 σ) :=
  qfWi_sound_L6 _ _ _ _ h
theorem rfWi_sound (x1 x2 : Int) (σ : KM) : kQ wfWi_sound σ Prod.snd (fWi_sound x1 x2 σ) := qfWi_sound x1 x2 kFr.rf
abbrev wfWi_pivotTriad : List (Nat × Option Int) := []
theorem qfWi_pivotTriad_J69 (x4 : Int) {σ0 σ : KM} (h : kFr wfWi_pivotTriad σ0 σ) : kQ wfWi_pivotTriad σ0 Prod.snd (fWi_pivotTriad_J69 x4 σ) :=
  kQ_ri h
theorem qfWi_pivotTriad_J63 (x1 x2 x3 x4 x5 x6 : Int) {σ0 σ : KM} (h : kFr wfWi_pivotTriad σ0 σ) : kQ wfWi_pivotTriad σ0 (Sum.elim (fun s : Int × Int × Int × KM => s.2.2.2) Prod.snd) (fWi_pivotTriad_J63 x1 x2 x3 x4 x5 x6 σ) :=
  kQ_let fun y1 =>
 kQ_inl h
theorem qfWi_pivotTriad_B9 (x1 x2 x3 x4 x5 x6 : Int) {σ0 σ : KM} (h : kFr wfWi_pivotTriad σ0 σ) : kQ wfWi_pivotTriad σ0 (Sum.elim (fun s : Int × Int × Int × KM => s.2.2.2) Prod.snd) (fWi_pivotTriad_B9 x1 x2 x3 x4 x5 x6 σ) :=
  kQ_lt
 (kQ_call (rfP_degreeOf _ _ _) rfl h fun r2 τ1 h =>
 kQ_eq
 (qfWi_pivotTriad_J63 _ _ _ _ _ _ h)
 (kQ_call (rfP_degreeOf _ _ _) rfl h fun r4 τ3 h =>
 kQ_eq
 (qfWi_pivotTriad_J63 _ _ _ _ _ _ h)
 (kQ_call (rfWi_sound _ _ _) rfl h fun r6 τ5 h =>
 kQ_lt
 (qfWi_pivotTriad_J63 _ _ _ _ _ _ h)
 (qfWi_pivotTriad_J63 _ _ _ _ _ _ h))))
 (kQ_exit (qfWi_pivotTriad_J69 _ h))
theorem qfWi_pivotTriad_L9 (x1 x2 x3 x4 x5 x6 : Int) {σ0 σ : KM} (h : kFr wfWi_pivotTriad σ0 σ) : kQ wfWi_pivotTriad σ0 Prod.snd (fWi_pivotTriad_L9 x1 x2 x3 x4 x5 x6 σ) :=
  kQ_iter (mf := fun s : Int × Int × Int × KM => s.2.2.2) (fun s h => qfWi_pivotTriad_B9 x1 x2 x3 s.1 s.2.1 s.2.2.1 h) kF (x4, x5, x6, σ) h
theorem qfWi_pivotTriad (x1 x2 x3 : Int) {σ0 σ : KM} (h : kFr wfWi_pivotTriad σ0 σ) : kQ wfWi_pivotTriad σ0 Prod.snd (fWi_pivotTriad x1 x2 x3 σ) :=
  qfWi_pivotTriad_L9 _ _ _ _ _ _ h
theorem rfWi_pivotTriad (x1 x2 x3 : Int) (σ : KM) : kQ wfWi_pivotTriad σ Prod.snd (fWi_pivotTriad x1 x2 x3 σ) := qfWi_pivotTriad x1 x2 x3 kFr.rf
abbrev wfP_pivot : List (Nat × Option Int) := [(5, some 2), (5, some 6), (6, some 3), (7, some 4), (8, some 1), (8, some 7), (8, some 8), (8, some 9), (8, some 12), (8, some 13), (8, some 14), (9, some 1), (9, some 4), (24, none), (25, none), (26, none), (28, none), (29, none), (30, none), (31, none), (32, none), (34, none), (35, none), (36, none), (37, none), (38, none), (39, none), (40, none)]
theorem qfP_pivot_J36 {σ0 σ : KM} (h : kFr wfP_pivot σ0 σ) : kQ wfP_pivot σ0 Prod.snd (fP_pivot_J36 σ) :=
  kQ_ri h
theorem qfP_pivot (x1 x2 : Int) {σ0 σ : KM} (h : kFr wfP_pivot σ0 σ) : kQ wfP_pivot σ0 Prod.snd (fP_pivot x1 x2 σ) :=
  kQ_call (rfP_noPath _) rfl h fun r2 τ1 h =>
 kQ_eq
 (kQ_lt
 (qfP_pivot_J36  h)
 (kQ_lt
 (kQ_call (rfP_outOf _ _ _ _) rfl h fun r4 τ3 h =>
 kQ_eq
 (kQ_call (rfFi_lastOf _ _) rfl h fun r6 τ5 h =>
 kQ_rd fun y7 =>
 kQ_rd fun y8 =>
 kQ_call (rfWi_pivotTriad _ _ _ _) rfl h fun r10 τ9 h =>
 kQ_eq
 (kQ_ri h)
 (kQ_sw (kA_cons (kQ_ri h) (kA_cons (kQ_call (rfP_degreeOf _ _ _) rfl h fun r12 τ11 h =>
 kQ_ri h) (kA_cons (kQ_call (rfP_degreeOf _ _ _) rfl h fun r14 τ13 h =>
 kQ_ri h) (kA_nil)))) (kQ_call (rfWi_sound _ _ _) rfl h fun r16 τ15 h =>
 kQ_ri h)))
 (qfP_pivot_J36  h))
 (qfP_pivot_J36  h)))
 (kQ_ri h)
theorem rfP_pivot (x1 x2 : Int) (σ : KM) : kQ wfP_pivot σ Prod.snd (fP_pivot x1 x2 σ) := qfP_pivot x1 x2 kFr.rf
abbrev wfP_progression : List (Nat × Option Int) := [(5, some 2), (5, some 6), (24, none), (25, none), (26, none)]
theorem qfP_progression_J88 (t0 : Int) {σ0 σ : KM} (h : kFr wfP_progression σ0 σ) : kQ wfP_progression σ0 Prod.snd (fP_progression_J88 t0 σ) :=
  kQ_ri h
theorem qfP_progression_J78 (x1 x2 : Int) {σ0 σ : KM} (h : kFr wfP_progression σ0 σ) : kQ wfP_progression σ0 Prod.snd (fP_progression_J78 x1 x2 σ) :=
  kQ_eq
 (qfP_progression_J88 _ h)
 (qfP_progression_J88 _ h)
theorem qfP_progression_J72 (x1 x2 x3 x4 : Int) {σ0 σ : KM} (h : kFr wfP_progression σ0 σ) : kQ wfP_progression σ0 (Sum.elim (fun s : Int × Int × Int × KM => s.2.2.2) Prod.snd) (fP_progression_J72 x1 x2 x3 x4 σ) :=
  kQ_let fun y1 =>
 kQ_inl h
theorem qfP_progression_J63 (x5 : Int) {σ0 σ : KM} (h : kFr wfP_progression σ0 σ) : kQ wfP_progression σ0 Prod.snd (fP_progression_J63 x5 σ) :=
  kQ_ri h
theorem qfP_progression_B19 (x1 x2 x3 x4 : Int) {σ0 σ : KM} (h : kFr wfP_progression σ0 σ) : kQ wfP_progression σ0 (Sum.elim (fun s : Int × Int × Int × KM => s.2.2.2) Prod.snd) (fP_progression_B19 x1 x2 x3 x4 σ) :=
  kQ_lt
 (kQ_rd fun y1 =>
 kQ_eq
 (qfP_progression_J72 _ _ _ _ h)
 (kQ_eq
 (qfP_progression_J72 _ _ _ _ h)
 (kQ_eq
 (kQ_exit (qfP_progression_J63 _ h))
 (kQ_let fun y2 =>
 qfP_progression_J72 _ _ _ _ h))))
 (kQ_exit (qfP_progression_J78 _ _ h))
theorem qfP_progression_L19 (x1 x2 x3 x4 : Int) {σ0 σ : KM} (h : kFr wfP_progression σ0 σ) : kQ wfP_progression σ0 Prod.snd (fP_progression_L19 x1 x2 x3 x4 σ) :=
  kQ_iter (mf := fun s : Int × Int × Int × KM => s.2.2.2) (fun s h => qfP_progression_B19 x1 s.1 s.2.1 s.2.2.1 h) kF (x2, x3, x4, σ) h
theorem qfP_progression (x1 : Int) {σ0 σ : KM} (h : kFr wfP_progression σ0 σ) : kQ wfP_progression σ0 Prod.snd (fP_progression x1 σ) :=
  kQ_lt
 (kQ_ri h)
 (kQ_call (rfP_freshWindows _) rfl h fun _ τ1 h =>
 qfP_progression_L19 _ _ _ _ h)
theorem rfP_progression (x1 : Int) (σ : KM) : kQ wfP_progression σ Prod.snd (fP_progression x1 σ) := qfP_progression x1 kFr.rf
abbrev wfNo_canBe : List (Nat × Option Int) := []
theorem qfNo_canBe_J46 (t0 : Int) {σ0 σ : KM} (h : kFr wfNo_canBe σ0 σ) : kQ wfNo_canBe σ0 Prod.snd (fNo_canBe_J46 t0 σ) :=
  kQ_rz h
theorem qfNo_canBe_J45 {σ0 σ : KM} (h : kFr wfNo_canBe σ0 σ) : kQ wfNo_canBe σ0 Prod.snd (fNo_canBe_J45 σ) :=
  qfNo_canBe_J46 _ h
theorem qfNo_canBe (x0 x1 x2 : Int) {σ0 σ : KM} (h : kFr wfNo_canBe σ0 σ) : kQ wfNo_canBe σ0 Prod.snd (fNo_canBe x0 x1 x2 σ) :=
  kQ_lt
 (qfNo_canBe_J45  h)
 (kQ_lt
 (kQ_lt
 (qfNo_canBe_J45  h)
 (kQ_lt
 (qfNo_canBe_J45  h)
 (kQ_lt
 (qfNo_canBe_J45  h)
 (kQ_lt
 (qfNo_canBe_J45  h)
 (kQ_lt
 (qfNo_canBe_J45  h)
 (qfNo_canBe_J46 _ h))))))
 (qfNo_canBe_J45  h))
theorem rfNo_canBe (x0 x1 x2 : Int) (σ : KM) : kQ wfNo_canBe σ Prod.snd (fNo_canBe x0 x1 x2 σ) := qfNo_canBe x0 x1 x2 kFr.rf
abbrev wfNo_isBehind : List (Nat × Option Int) := []
theorem qfNo_isBehind_J69 (t0 : Int) {σ0 σ : KM} (h : kFr wfNo_isBehind σ0 σ) : kQ wfNo_isBehind σ0 Prod.snd (fNo_isBehind_J69 t0 σ) :=
  kQ_rz h
theorem qfNo_isBehind_J53 (t0 : Int) {σ0 σ : KM} (h : kFr wfNo_isBehind σ0 σ) : kQ wfNo_isBehind σ0 Prod.snd (fNo_isBehind_J53 t0 σ) :=
  kQ_rz h
theorem qfNo_isBehind_J25 (t0 : Int) {σ0 σ : KM} (h : kFr wfNo_isBehind σ0 σ) : kQ wfNo_isBehind σ0 Prod.snd (fNo_isBehind_J25 t0 σ) :=
  kQ_rz h
theorem qfNo_isBehind (x1 x2 x3 x4 : Int) {σ0 σ : KM} (h : kFr wfNo_isBehind σ0 σ) : kQ wfNo_isBehind σ0 Prod.snd (fNo_isBehind x1 x2 x3 x4 σ) :=
  kQ_rd fun y1 =>
 kQ_eq
 (kQ_rd fun y2 =>
 kQ_eq
 (kQ_rd fun y3 =>
 kQ_lt
 (qfNo_isBehind_J69 _ h)
 (qfNo_isBehind_J69 _ h))
 (kQ_rd fun y4 =>
 kQ_lt
 (qfNo_isBehind_J53 _ h)
 (qfNo_isBehind_J53 _ h)))
 (kQ_rd fun y5 =>
 kQ_lt
 (qfNo_isBehind_J25 _ h)
 (qfNo_isBehind_J25 _ h))
theorem rfNo_isBehind (x1 x2 x3 x4 : Int) (σ : KM) : kQ wfNo_isBehind σ Prod.snd (fNo_isBehind x1 x2 x3 x4 σ) := qfNo_isBehind x1 x2 x3 x4 kFr.rf
abbrev wfNo_placeFor : List (Nat × Option Int) := []
theorem qfNo_placeFor_J31 (x4 : Int) {σ0 σ : KM} (h : kFr wfNo_placeFor σ0 σ) : kQ wfNo_placeFor σ0 Prod.snd (fNo_placeFor_J31 x4 σ) :=
  kQ_ri h
theorem qfNo_placeFor_B6 (x1 x2 x3 x4 : Int) {σ0 σ : KM} (h : kFr wfNo_placeFor σ0 σ) : kQ wfNo_placeFor σ0 (Sum.elim (fun s : Int × KM => s.2) Prod.snd) (fNo_placeFor_B6 x1 x2 x3 x4 σ) :=
  kQ_lt
 (kQ_call (rfNo_isBehind _ _ _ _ _) rfl h fun r2 τ1 h =>
 kQ_eq
 (kQ_exit (qfNo_placeFor_J31 _ h))
 (kQ_let fun y3 =>
 kQ_inl h))
 (kQ_exit (qfNo_placeFor_J31 _ h))
theorem qfNo_placeFor_L6 (x1 x2 x3 x4 : Int) {σ0 σ : KM} (h : kFr wfNo_placeFor σ0 σ) : kQ wfNo_placeFor σ0 Prod.snd (fNo_placeFor_L6 x1 x2 x3 x4 σ) :=
  kQ_iter (mf := fun s : Int × KM => s.2) (fun s h => qfNo_placeFor_B6 x1 x2 x3 s.1 h) kF (x4, σ) h
theorem qfNo_placeFor (x1 x2 x3 : Int) {σ0 σ : KM} (h : kFr wfNo_placeFor σ0 σ) : kQ wfNo_placeFor σ0 Prod.snd (fNo_placeFor x1 x2 x3 σ) :=
  kQ_let fun y1 =>
 qfNo_placeFor_L6 _ _ _ _ h
theorem rfNo_placeFor (x1 x2 x3 : Int) (σ : KM) : kQ wfNo_placeFor σ Prod.snd (fNo_placeFor x1 x2 x3 σ) := qfNo_placeFor x1 x2 x3 kFr.rf
abbrev wfNo_insert : List (Nat × Option Int) := [(3, some 3), (16, none), (17, none), (18, none)]
theorem qfNo_insert_J21 {σ0 σ : KM} (h : kFr wfNo_insert σ0 σ) : kQ wfNo_insert σ0 Prod.snd (fNo_insert_J21 σ) :=
  kQ_ri h
theorem qfNo_insert (x1 x2 x3 x4 : Int) {σ0 σ : KM} (h : kFr wfNo_insert σ0 σ) : kQ wfNo_insert σ0 Prod.snd (fNo_insert x1 x2 x3 x4 σ) :=
  kQ_lt
 (kQ_lt
 (qfNo_insert_J21  h)
 (kQ_lt
 (qfNo_insert_J21  h)
 (kQ_let fun y1 =>
 kQ_cpy rfl h fun τ2 h =>
 kQ_cpy rfl h fun τ3 h =>
 kQ_cpy rfl h fun τ4 h =>
 kQ_wr rfl h fun τ5 h =>
 kQ_wr rfl h fun τ6 h =>
 kQ_wr rfl h fun τ7 h =>
 kQ_wf rfl h fun τ8 h =>
 kQ_ri h)))
 (qfNo_insert_J21  h)
theorem rfNo_insert (x1 x2 x3 x4 : Int) (σ : KM) : kQ wfNo_insert σ Prod.snd (fNo_insert x1 x2 x3 x4 σ) := qfNo_insert x1 x2 x3 x4 kFr.rf
abbrev wfP_put : List (Nat × Option Int) := [(3, some 3), (4, some 5), (5, some 6), (6, some 3), (8, some 13), (16, none), (17, none), (18, none), (19, none), (20, none), (21, none), (22, none), (23, none)]
theorem qfP_put (x1 x2 x3 : Int) {σ0 σ : KM} (h : kFr wfP_put σ0 σ) : kQ wfP_put σ0 Prod.snd (fP_put x1 x2 x3 σ) :=
  kQ_call (rfNo_canBe _ _ _ _) rfl h fun r2 τ1 h =>
 kQ_eq
 (kQ_ri h)
 (kQ_lt
 (kQ_call (rfNo_placeFor _ _ _ _) rfl h fun r4 τ3 h =>
 kQ_call (rfNo_insert _ _ _ _ _) rfl h fun _ τ5 h =>
 kQ_call (rfHi_remember _ _ _ _ _ _) rfl h fun _ τ6 h =>
 kQ_call (rfP_notesChanged _) rfl h fun _ τ7 h =>
 kQ_ri h)
 (kQ_ri h))
theorem rfP_put (x1 x2 x3 : Int) (σ : KM) : kQ wfP_put σ Prod.snd (fP_put x1 x2 x3 σ) := qfP_put x1 x2 x3 kFr.rf
abbrev wfP_ranked : List (Nat × Option Int) := [(5, some 2), (5, some 6), (6, some 3), (24, none), (25, none), (26, none), (28, none), (29, none)]
theorem qfP_ranked (x1 x2 : Int) {σ0 σ : KM} (h : kFr wfP_ranked σ0 σ) : kQ wfP_ranked σ0 Prod.snd (fP_ranked x1 x2 σ) :=
  kQ_call (rfP_noWindow _ _) rfl h fun r2 τ1 h =>
 kQ_eq
 (kQ_call (rfP_noKey _ _) rfl h fun r4 τ3 h =>
 kQ_eq
 (kQ_call (rfP_freshFits _) rfl h fun _ τ5 h =>
 kQ_call (rfPr_keyOfRank _ _ _) rfl h fun r7 τ6 h =>
 kQ_ri h)
 (kQ_ri h))
 (kQ_ri h)
theorem rfP_ranked (x1 x2 : Int) (σ : KM) : kQ wfP_ranked σ Prod.snd (fP_ranked x1 x2 σ) := qfP_ranked x1 x2 kFr.rf
abbrev wfP_roman : List (Nat × Option Int) := [(5, some 2), (5, some 6), (6, some 3), (7, some 4), (8, some 1), (8, some 7), (8, some 8), (8, some 9), (8, some 12), (8, some 13), (8, some 14), (9, some 1), (9, some 4), (24, none), (25, none), (26, none), (28, none), (29, none), (30, none), (31, none), (32, none), (34, none), (35, none), (36, none), (37, none), (38, none), (39, none), (40, none)]
theorem qfP_roman_J28 (t0 : Int) {σ0 σ : KM} (h : kFr wfP_roman σ0 σ) : kQ wfP_roman σ0 Prod.snd (fP_roman_J28 t0 σ) :=
  kQ_ri h
theorem qfP_roman (x1 : Int) {σ0 σ : KM} (h : kFr wfP_roman σ0 σ) : kQ wfP_roman σ0 Prod.snd (fP_roman x1 σ) :=
  kQ_call (rfP_noWindow _ _) rfl h fun r2 τ1 h =>
 kQ_eq
 (kQ_call (rfP_noPath _) rfl h fun r4 τ3 h =>
 kQ_eq
 (kQ_call (rfP_romanOf _ _) rfl h fun r6 τ5 h =>
 qfP_roman_J28 _ h)
 (qfP_roman_J28 _ h))
 (kQ_ri h)
theorem rfP_roman (x1 : Int) (σ : KM) : kQ wfP_roman σ Prod.snd (fP_roman x1 σ) := qfP_roman x1 kFr.rf
abbrev wfDe_cheapestMove_41 : List (Nat × Option Int) := []
theorem qfDe_cheapestMove_41_J46 (x4 : Int) {σ0 σ : KM} (h : kFr wfDe_cheapestMove_41 σ0 σ) : kQ wfDe_cheapestMove_41 σ0 Prod.snd (fDe_cheapestMove_41_J46 x4 σ) :=
  kQ_ri h
theorem qfDe_cheapestMove_41_B7 (x2 x3 x4 x5 : Int) {σ0 σ : KM} (h : kFr wfDe_cheapestMove_41 σ0 σ) : kQ wfDe_cheapestMove_41 σ0 (Sum.elim (fun s : Int × Int × KM => s.2.2) Prod.snd) (fDe_cheapestMove_41_B7 x2 x3 x4 x5 σ) :=
  kQ_lt
 (kQ_rd fun y1 =>
 kQ_rd fun y2 =>
 kQ_mn fun y3 =>
 kQ_let fun y4 =>
 kQ_inl h)
 (kQ_exit (qfDe_cheapestMove_41_J46 _ h))
theorem qfDe_cheapestMove_41_L7 (x2 x3 x4 x5 : Int) {σ0 σ : KM} (h : kFr wfDe_cheapestMove_41 σ0 σ) : kQ wfDe_cheapestMove_41 σ0 Prod.snd (fDe_cheapestMove_41_L7 x2 x3 x4 x5 σ) :=
  kQ_iter (mf := fun s : Int × Int × KM => s.2.2) (fun s h => qfDe_cheapestMove_41_B7 x2 x3 s.1 s.2.1 h) kF (x4, x5, σ) h
theorem qfDe_cheapestMove_41 (x2 x3 : Int) {σ0 σ : KM} (h : kFr wfDe_cheapestMove_41 σ0 σ) : kQ wfDe_cheapestMove_41 σ0 Prod.snd (fDe_cheapestMove_41 x2 x3 σ) :=
  qfDe_cheapestMove_41_L7 _ _ _ _ h
theorem rfDe_cheapestMove_41 (x2 x3 : Int) (σ : KM) : kQ wfDe_cheapestMove_41 σ Prod.snd (fDe_cheapestMove_41 x2 x3 σ) := qfDe_cheapestMove_41 x2 x3 kFr.rf
abbrev wfDe_lookAhead : List (Nat × Option Int) := [(9, some 1), (41, none)]
theorem qfDe_lookAhead_J113 {σ0 σ : KM} (h : kFr wfDe_lookAhead σ0 σ) : kQ wfDe_lookAhead σ0 Prod.snd (fDe_lookAhead_J113 σ) :=
  kQ_wfz rfl h fun τ1 h =>
 kQ_ri h
theorem qfDe_lookAhead_J107 (x2 : Int) {σ0 σ : KM} (h : kFr wfDe_lookAhead σ0 σ) : kQ wfDe_lookAhead σ0 (Sum.elim (fun s : Int × KM => s.2) Prod.snd) (fDe_lookAhead_J107 x2 σ) :=
  kQ_let fun y1 =>
 kQ_inl h
theorem qfDe_lookAhead_J82 (x2 x3 x4 x5 : Int) {σ0 σ : KM} (h : kFr wfDe_lookAhead σ0 σ) : kQ wfDe_lookAhead σ0 (Sum.elim (fun s : Int × KM => s.2) (Sum.elim (fun s : Int × KM => s.2) Prod.snd)) (fDe_lookAhead_J82 x2 x3 x4 x5 σ) :=
  kQ_rd fun y1 =>
 kQ_call (rfP_plus _ _ _) rfl h fun r3 τ2 h =>
 kQ_wr rfl h fun τ4 h =>
 kQ_let fun y5 =>
 kQ_inl h
theorem qfDe_lookAhead_B20 (x2 x3 : Int) {σ0 σ : KM} (h : kFr wfDe_lookAhead σ0 σ) : kQ wfDe_lookAhead σ0 (Sum.elim (fun s : Int × KM => s.2) (Sum.elim (fun s : Int × KM => s.2) Prod.snd)) (fDe_lookAhead_B20 x2 x3 σ) :=
  kQ_lt
 (kQ_let fun y1 =>
 kQ_rd fun y2 =>
 kQ_eq
 (kQ_lt
 (kQ_call (rfDe_cheapestMove_41 _ _ _) rfl h fun r4 τ3 h =>
 qfDe_lookAhead_J82 _ _ _ _ h)
 (qfDe_lookAhead_J82 _ _ _ _ h))
 (kQ_rd fun y5 =>
 qfDe_lookAhead_J82 _ _ _ _ h))
 (kQ_exit (qfDe_lookAhead_J107 _ h))
theorem qfDe_lookAhead_L20 (x2 x3 : Int) {σ0 σ : KM} (h : kFr wfDe_lookAhead σ0 σ) : kQ wfDe_lookAhead σ0 (Sum.elim (fun s : Int × KM => s.2) Prod.snd) (fDe_lookAhead_L20 x2 x3 σ) :=
  kQ_iter (mf := fun s : Int × KM => s.2) (fun s h => qfDe_lookAhead_B20 x2 s.1 h) kF (x3, σ) h
theorem qfDe_lookAhead_B10 (x2 : Int) {σ0 σ : KM} (h : kFr wfDe_lookAhead σ0 σ) : kQ wfDe_lookAhead σ0 (Sum.elim (fun s : Int × KM => s.2) Prod.snd) (fDe_lookAhead_B10 x2 σ) :=
  kQ_lt
 (qfDe_lookAhead_L20 _ _ h)
 (kQ_exit (qfDe_lookAhead_J113  h))
theorem qfDe_lookAhead_L10 (x2 : Int) {σ0 σ : KM} (h : kFr wfDe_lookAhead σ0 σ) : kQ wfDe_lookAhead σ0 Prod.snd (fDe_lookAhead_L10 x2 σ) :=
  kQ_iter (mf := fun s : Int × KM => s.2) (fun s h => qfDe_lookAhead_B10 s.1 h) kF (x2, σ) h
theorem qfDe_lookAhead {σ0 σ : KM} (h : kFr wfDe_lookAhead σ0 σ) : kQ wfDe_lookAhead σ0 Prod.snd (fDe_lookAhead σ) :=
  kQ_eq
 (qfDe_lookAhead_L10 _ h)
 (kQ_ri h)
theorem rfDe_lookAhead (σ : KM) : kQ wfDe_lookAhead σ Prod.snd (fDe_lookAhead σ) := qfDe_lookAhead  kFr.rf
abbrev wfDe_costThrough : List (Nat × Option Int) := []
theorem qfDe_costThrough_J32 {σ0 σ : KM} (h : kFr wfDe_costThrough σ0 σ) : kQ wfDe_costThrough σ0 Prod.snd (fDe_costThrough_J32 σ) :=
  kQ_ri h
theorem qfDe_costThrough (x2 x3 : Int) {σ0 σ : KM} (h : kFr wfDe_costThrough σ0 σ) : kQ wfDe_costThrough σ0 Prod.snd (fDe_costThrough x2 x3 σ) :=
  kQ_let fun y1 =>
 kQ_rd fun y2 =>
 kQ_lt
 (kQ_rd fun y3 =>
 kQ_lt
 (kQ_rd fun y4 =>
 kQ_rd fun y5 =>
 kQ_rd fun y6 =>
 kQ_ri h)
 (qfDe_costThrough_J32  h))
 (qfDe_costThrough_J32  h)
theorem rfDe_costThrough (x2 x3 : Int) (σ : KM) : kQ wfDe_costThrough σ Prod.snd (fDe_costThrough x2 x3 σ) := qfDe_costThrough x2 x3 kFr.rf
abbrev wfDe_leastAside : List (Nat × Option Int) := []
theorem qfDe_leastAside_J43 (x3 : Int) {σ0 σ : KM} (h : kFr wfDe_leastAside σ0 σ) : kQ wfDe_leastAside σ0 Prod.snd (fDe_leastAside_J43 x3 σ) :=
  kQ_ri h
theorem qfDe_leastAside_J37 (x2 x3 x4 : Int) {σ0 σ : KM} (h : kFr wfDe_leastAside σ0 σ) : kQ wfDe_leastAside σ0 (Sum.elim (fun s : Int × Int × KM => s.2.2) Prod.snd) (fDe_leastAside_J37 x2 x3 x4 σ) :=
  kQ_let fun y1 =>
 kQ_inl h
theorem qfDe_leastAside_B6 (x2 x3 x4 : Int) {σ0 σ : KM} (h : kFr wfDe_leastAside σ0 σ) : kQ wfDe_leastAside σ0 (Sum.elim (fun s : Int × Int × KM => s.2.2) Prod.snd) (fDe_leastAside_B6 x2 x3 x4 σ) :=
  kQ_lt
 (kQ_rd fun y1 =>
 kQ_eq
 (qfDe_leastAside_J37 _ _ _ h)
 (kQ_call (rfDe_costThrough _ _ _) rfl h fun r3 τ2 h =>
 kQ_mn fun y4 =>
 qfDe_leastAside_J37 _ _ _ h))
 (kQ_exit (qfDe_leastAside_J43 _ h))
theorem qfDe_leastAside_L6 (x2 x3 x4 : Int) {σ0 σ : KM} (h : kFr wfDe_leastAside σ0 σ) : kQ wfDe_leastAside σ0 Prod.snd (fDe_leastAside_L6 x2 x3 x4 σ) :=
  kQ_iter (mf := fun s : Int × Int × KM => s.2.2) (fun s h => qfDe_leastAside_B6 x2 s.1 s.2.1 h) kF (x3, x4, σ) h
theorem qfDe_leastAside (x2 : Int) {σ0 σ : KM} (h : kFr wfDe_leastAside σ0 σ) : kQ wfDe_leastAside σ0 Prod.snd (fDe_leastAside x2 σ) :=
  qfDe_leastAside_L6 _ _ _ h
theorem rfDe_leastAside (x2 : Int) (σ : KM) : kQ wfDe_leastAside σ Prod.snd (fDe_leastAside x2 σ) := qfDe_leastAside x2 kFr.rf
abbrev wfP_second : List (Nat × Option Int) := [(5, some 2), (5, some 6), (6, some 3), (7, some 4), (8, some 1), (8, some 7), (8, some 8), (8, some 9), (8, some 12), (8, some 13), (8, some 14), (9, some 1), (9, some 4), (24, none), (25, none), (26, none), (28, none), (29, none), (30, none), (31, none), (32, none), (34, none), (35, none), (36, none), (37, none), (38, none), (39, none), (40, none), (41, none)]
theorem qfP_second_J99 (t0 : Int) {σ0 σ : KM} (h : kFr wfP_second σ0 σ) : kQ wfP_second σ0 Prod.snd (fP_second_J99 t0 σ) :=
  kQ_ri h
theorem qfP_second_J87 (x1 x2 x3 : Int) {σ0 σ : KM} (h : kFr wfP_second σ0 σ) : kQ wfP_second σ0 Prod.snd (fP_second_J87 x1 x2 x3 σ) :=
  kQ_eq
 (kQ_call (rfP_toldCost _ _) rfl h fun r2 τ1 h =>
 qfP_second_J99 _ h)
 (qfP_second_J99 _ h)
theorem qfP_second_J81 (x1 x2 x3 x4 : Int) {σ0 σ : KM} (h : kFr wfP_second σ0 σ) : kQ wfP_second σ0 (Sum.elim (fun s : Int × Int × Int × KM => s.2.2.2) Prod.snd) (fP_second_J81 x1 x2 x3 x4 σ) :=
  kQ_let fun y1 =>
 kQ_inl h
theorem qfP_second_B42 (x1 x2 x3 x4 : Int) {σ0 σ : KM} (h : kFr wfP_second σ0 σ) : kQ wfP_second σ0 (Sum.elim (fun s : Int × Int × Int × KM => s.2.2.2) Prod.snd) (fP_second_B42 x1 x2 x3 x4 σ) :=
  kQ_lt
 (kQ_call (rfDe_leastAside _ _) rfl h fun r2 τ1 h =>
 kQ_lt
 (qfP_second_J81 _ _ _ _ h)
 (qfP_second_J81 _ _ _ _ h))
 (kQ_exit (qfP_second_J87 _ _ _ h))
theorem qfP_second_L42 (x1 x2 x3 x4 : Int) {σ0 σ : KM} (h : kFr wfP_second σ0 σ) : kQ wfP_second σ0 Prod.snd (fP_second_L42 x1 x2 x3 x4 σ) :=
  kQ_iter (mf := fun s : Int × Int × Int × KM => s.2.2.2) (fun s h => qfP_second_B42 x1 s.1 s.2.1 s.2.2.1 h) kF (x2, x3, x4, σ) h
theorem qfP_second (x1 : Int) {σ0 σ : KM} (h : kFr wfP_second σ0 σ) : kQ wfP_second σ0 Prod.snd (fP_second x1 σ) :=
  kQ_call (rfP_outOf _ _ _ _) rfl h fun r2 τ1 h =>
 kQ_eq
 (kQ_call (rfP_noPath _) rfl h fun r4 τ3 h =>
 kQ_eq
 (kQ_call (rfDe_lookAhead _) rfl h fun _ τ5 h =>
 qfP_second_L42 _ _ _ _ h)
 (kQ_ri h))
 (kQ_ri h)
theorem rfP_second (x1 : Int) (σ : KM) : kQ wfP_second σ Prod.snd (fP_second x1 σ) := qfP_second x1 kFr.rf
abbrev wfP_segment : List (Nat × Option Int) := [(5, some 2), (5, some 6), (6, some 3), (7, some 4), (8, some 1), (8, some 7), (8, some 8), (8, some 9), (8, some 12), (8, some 13), (8, some 14), (9, some 1), (9, some 4), (24, none), (25, none), (26, none), (28, none), (29, none), (30, none), (31, none), (32, none), (34, none), (35, none), (36, none), (37, none), (38, none), (39, none), (40, none)]
theorem qfP_segment_J25 {σ0 σ : KM} (h : kFr wfP_segment σ0 σ) : kQ wfP_segment σ0 Prod.snd (fP_segment_J25 σ) :=
  kQ_ri h
theorem qfP_segment (x1 x2 : Int) {σ0 σ : KM} (h : kFr wfP_segment σ0 σ) : kQ wfP_segment σ0 Prod.snd (fP_segment x1 x2 σ) :=
  kQ_call (rfP_noPath _) rfl h fun r2 τ1 h =>
 kQ_eq
 (kQ_lt
 (qfP_segment_J25  h)
 (kQ_lt
 (kQ_rd fun y3 =>
 kQ_sw (kA_cons (kQ_ri h) (kA_cons (kQ_call (rfFi_lastOf _ _) rfl h fun r5 τ4 h =>
 kQ_ri h) (kA_cons (kQ_rd fun y6 =>
 kQ_ri h) (kA_cons (kQ_ri h) (kA_nil))))) (kQ_ri h))
 (qfP_segment_J25  h)))
 (kQ_ri h)
theorem rfP_segment (x1 x2 : Int) (σ : KM) : kQ wfP_segment σ Prod.snd (fP_segment x1 x2 σ) := qfP_segment x1 x2 kFr.rf
abbrev wfP_segments : List (Nat × Option Int) := [(5, some 2), (5, some 6), (6, some 3), (7, some 4), (8, some 1), (8, some 7), (8, some 8), (8, some 9), (8, some 12), (8, some 13), (8, some 14), (9, some 1), (9, some 4), (24, none), (25, none), (26, none), (28, none), (29, none), (30, none), (31, none), (32, none), (34, none), (35, none), (36, none), (37, none), (38, none), (39, none), (40, none)]
theorem qfP_segments_J19 (t0 : Int) {σ0 σ : KM} (h : kFr wfP_segments σ0 σ) : kQ wfP_segments σ0 Prod.snd (fP_segments_J19 t0 σ) :=
  kQ_ri h
theorem qfP_segments {σ0 σ : KM} (h : kFr wfP_segments σ0 σ) : kQ wfP_segments σ0 Prod.snd (fP_segments σ) :=
  kQ_call (rfP_noPath _) rfl h fun r2 τ1 h =>
 kQ_eq
 (qfP_segments_J19 _ h)
 (qfP_segments_J19 _ h)
theorem rfP_segments (σ : KM) : kQ wfP_segments σ Prod.snd (fP_segments σ) := qfP_segments  kFr.rf
abbrev wfNo_canMove : List (Nat × Option Int) := []
theorem qfNo_canMove_J35 {σ0 σ : KM} (h : kFr wfNo_canMove σ0 σ) : kQ wfNo_canMove σ0 Prod.snd (fNo_canMove_J35 σ) :=
  kQ_rz h
theorem qfNo_canMove_J27 {σ0 σ : KM} (h : kFr wfNo_canMove σ0 σ) : kQ wfNo_canMove σ0 Prod.snd (fNo_canMove_J27 σ) :=
  kQ_rz h
theorem qfNo_canMove_B2 (x1 x2 : Int) {σ0 σ : KM} (h : kFr wfNo_canMove σ0 σ) : kQ wfNo_canMove σ0 (Sum.elim (fun s : Int × KM => s.2) Prod.snd) (fNo_canMove_B2 x1 x2 σ) :=
  kQ_lt
 (kQ_rd fun y1 =>
 kQ_call (rfP_outOf _ _ _ _) rfl h fun r3 τ2 h =>
 kQ_eq
 (kQ_let fun y4 =>
 kQ_inl h)
 (kQ_exit (qfNo_canMove_J27  h)))
 (kQ_exit (qfNo_canMove_J35  h))
theorem qfNo_canMove_L2 (x1 x2 : Int) {σ0 σ : KM} (h : kFr wfNo_canMove σ0 σ) : kQ wfNo_canMove σ0 Prod.snd (fNo_canMove_L2 x1 x2 σ) :=
  kQ_iter (mf := fun s : Int × KM => s.2) (fun s h => qfNo_canMove_B2 x1 s.1 h) kF (x2, σ) h
theorem qfNo_canMove (x1 : Int) {σ0 σ : KM} (h : kFr wfNo_canMove σ0 σ) : kQ wfNo_canMove σ0 Prod.snd (fNo_canMove x1 σ) :=
  qfNo_canMove_L2 _ _ h
theorem rfNo_canMove (x1 : Int) (σ : KM) : kQ wfNo_canMove σ Prod.snd (fNo_canMove x1 σ) := qfNo_canMove x1 kFr.rf
abbrev wfNo_move : List (Nat × Option Int) := [(18, none)]
theorem qfNo_move_J26 {σ0 σ : KM} (h : kFr wfNo_move σ0 σ) : kQ wfNo_move σ0 Prod.snd (fNo_move_J26 σ) :=
  kQ_ri h
theorem qfNo_move_B2 (x1 x2 : Int) {σ0 σ : KM} (h : kFr wfNo_move σ0 σ) : kQ wfNo_move σ0 (Sum.elim (fun s : Int × KM => s.2) Prod.snd) (fNo_move_B2 x1 x2 σ) :=
  kQ_lt
 (kQ_rd fun y1 =>
 kQ_wr rfl h fun τ2 h =>
 kQ_let fun y3 =>
 kQ_inl h)
 (kQ_exit (qfNo_move_J26  h))
theorem qfNo_move_L2 (x1 x2 : Int) {σ0 σ : KM} (h : kFr wfNo_move σ0 σ) : kQ wfNo_move σ0 Prod.snd (fNo_move_L2 x1 x2 σ) :=
  kQ_iter (mf := fun s : Int × KM => s.2) (fun s h => qfNo_move_B2 x1 s.1 h) kF (x2, σ) h
theorem qfNo_move (x1 : Int) {σ0 σ : KM} (h : kFr wfNo_move σ0 σ) : kQ wfNo_move σ0 Prod.snd (fNo_move x1 σ) :=
  qfNo_move_L2 _ _ h
theorem rfNo_move (x1 : Int) (σ : KM) : kQ wfNo_move σ Prod.snd (fNo_move x1 σ) := qfNo_move x1 kFr.rf
abbrev wfP_shift : List (Nat × Option Int) := [(4, some 5), (5, some 6), (6, some 3), (8, some 13), (18, none), (19, none), (20, none), (21, none), (22, none), (23, none)]
theorem qfP_shift_J23 {σ0 σ : KM} (h : kFr wfP_shift σ0 σ) : kQ wfP_shift σ0 Prod.snd (fP_shift_J23 σ) :=
  kQ_ri h
theorem qfP_shift (x1 : Int) {σ0 σ : KM} (h : kFr wfP_shift σ0 σ) : kQ wfP_shift σ0 Prod.snd (fP_shift x1 σ) :=
  kQ_lt
 (qfP_shift_J23  h)
 (kQ_lt
 (qfP_shift_J23  h)
 (kQ_call (rfNo_canMove _ _) rfl h fun r2 τ1 h =>
 kQ_eq
 (qfP_shift_J23  h)
 (kQ_call (rfNo_move _ _) rfl h fun _ τ3 h =>
 kQ_call (rfHi_remember _ _ _ _ _ _) rfl h fun _ τ4 h =>
 kQ_call (rfP_notesChanged _) rfl h fun _ τ5 h =>
 kQ_ri h)))
theorem rfP_shift (x1 : Int) (σ : KM) : kQ wfP_shift σ Prod.snd (fP_shift x1 σ) := qfP_shift x1 kFr.rf
abbrev wfP_through : List (Nat × Option Int) := [(5, some 2), (5, some 6), (6, some 3), (7, some 4), (8, some 1), (8, some 7), (8, some 8), (8, some 9), (8, some 12), (8, some 13), (8, some 14), (9, some 1), (9, some 4), (24, none), (25, none), (26, none), (28, none), (29, none), (30, none), (31, none), (32, none), (34, none), (35, none), (36, none), (37, none), (38, none), (39, none), (40, none), (41, none)]
theorem qfP_through_J15 {σ0 σ : KM} (h : kFr wfP_through σ0 σ) : kQ wfP_through σ0 Prod.snd (fP_through_J15 σ) :=
  kQ_ri h
theorem qfP_through (x1 x2 : Int) {σ0 σ : KM} (h : kFr wfP_through σ0 σ) : kQ wfP_through σ0 Prod.snd (fP_through x1 x2 σ) :=
  kQ_call (rfP_noWindow _ _) rfl h fun r2 τ1 h =>
 kQ_eq
 (kQ_call (rfP_noKey _ _) rfl h fun r4 τ3 h =>
 kQ_eq
 (kQ_call (rfP_noPath _) rfl h fun r6 τ5 h =>
 kQ_eq
 (kQ_call (rfDe_lookAhead _) rfl h fun _ τ7 h =>
 kQ_call (rfDe_costThrough _ _ _) rfl h fun r9 τ8 h =>
 kQ_call (rfP_toldCost _ _) rfl h fun r11 τ10 h =>
 kQ_ri h)
 (kQ_ri h))
 (qfP_through_J15  h))
 (qfP_through_J15  h)
theorem rfP_through (x1 x2 : Int) (σ : KM) : kQ wfP_through σ Prod.snd (fP_through x1 x2 σ) := qfP_through x1 x2 kFr.rf
abbrev wfP_ties : List (Nat × Option Int) := [(5, some 2), (5, some 6), (6, some 3), (7, some 4), (8, some 1), (8, some 7), (8, some 8), (8, some 9), (8, some 12), (8, some 13), (8, some 14), (9, some 1), (9, some 4), (24, none), (25, none), (26, none), (28, none), (29, none), (30, none), (31, none), (32, none), (34, none), (35, none), (36, none), (37, none), (38, none), (39, none), (40, none)]
theorem qfP_ties_J19 (t0 : Int) {σ0 σ : KM} (h : kFr wfP_ties σ0 σ) : kQ wfP_ties σ0 Prod.snd (fP_ties_J19 t0 σ) :=
  kQ_ri h
theorem qfP_ties {σ0 σ : KM} (h : kFr wfP_ties σ0 σ) : kQ wfP_ties σ0 Prod.snd (fP_ties σ) :=
  kQ_call (rfP_noPath _) rfl h fun r2 τ1 h =>
 kQ_eq
 (qfP_ties_J19 _ h)
 (qfP_ties_J19 _ h)
theorem rfP_ties (σ : KM) : kQ wfP_ties σ Prod.snd (fP_ties σ) := qfP_ties  kFr.rf
abbrev wfP_tones : List (Nat × Option Int) := [(5, some 2), (5, some 6), (24, none), (25, none), (26, none)]
theorem qfP_tones_J52 (t0 : Int) {σ0 σ : KM} (h : kFr wfP_tones σ0 σ) : kQ wfP_tones σ0 Prod.snd (fP_tones_J52 t0 σ) :=
  kQ_ri h
theorem qfP_tones (x1 x2 : Int) {σ0 σ : KM} (h : kFr wfP_tones σ0 σ) : kQ wfP_tones σ0 Prod.snd (fP_tones x1 x2 σ) :=
  kQ_call (rfP_noWindow _ _) rfl h fun r2 τ1 h =>
 kQ_eq
 (kQ_eq
 (kQ_rd fun y6 =>
 kQ_ri h)
 (kQ_call (rfP_noTone _ _) rfl h fun r4 τ3 h =>
 kQ_eq
 (kQ_rd fun y5 =>
 qfP_tones_J52 _ h)
 (qfP_tones_J52 _ h)))
 (kQ_ri h)
theorem rfP_tones (x1 x2 : Int) (σ : KM) : kQ wfP_tones σ Prod.snd (fP_tones x1 x2 σ) := qfP_tones x1 x2 kFr.rf
abbrev wfHi_takeBack : List (Nat × Option Int) := [(3, some 3), (4, some 5), (16, none), (17, none), (18, none)]
theorem qfHi_takeBack_J117 {σ0 σ : KM} (h : kFr wfHi_takeBack σ0 σ) : kQ wfHi_takeBack σ0 Prod.snd (fHi_takeBack_J117 σ) :=
  kQ_ri h
theorem qfHi_takeBack {σ0 σ : KM} (h : kFr wfHi_takeBack σ0 σ) : kQ wfHi_takeBack σ0 Prod.snd (fHi_takeBack σ) :=
  kQ_lt
 (kQ_ri h)
 (kQ_wf rfl h fun τ1 h =>
 kQ_rd fun y2 =>
 kQ_eq
 (kQ_rd fun y11 =>
 kQ_call (rfNo_remove _ _) rfl h fun _ τ12 h =>
 qfHi_takeBack_J117  h)
 (kQ_rd fun y3 =>
 kQ_eq
 (kQ_rd fun y6 =>
 kQ_rd fun y7 =>
 kQ_rd fun y8 =>
 kQ_rd fun y9 =>
 kQ_call (rfNo_insert _ _ _ _ _) rfl h fun _ τ10 h =>
 qfHi_takeBack_J117  h)
 (kQ_rd fun y4 =>
 kQ_call (rfNo_move _ _) rfl h fun _ τ5 h =>
 qfHi_takeBack_J117  h)))
theorem rfHi_takeBack (σ : KM) : kQ wfHi_takeBack σ Prod.snd (fHi_takeBack σ) := qfHi_takeBack  kFr.rf
abbrev wfP_undo : List (Nat × Option Int) := [(3, some 3), (4, some 5), (5, some 6), (6, some 3), (8, some 13), (16, none), (17, none), (18, none)]
theorem qfP_undo {σ0 σ : KM} (h : kFr wfP_undo σ0 σ) : kQ wfP_undo σ0 Prod.snd (fP_undo σ) :=
  kQ_eq
 (kQ_ri h)
 (kQ_call (rfHi_takeBack _) rfl h fun _ τ1 h =>
 kQ_call (rfP_notesChanged _) rfl h fun _ τ2 h =>
 kQ_ri h)
theorem rfP_undo (σ : KM) : kQ wfP_undo σ Prod.snd (fP_undo σ) := qfP_undo  kFr.rf
abbrev wfDe_keysUpTo : List (Nat × Option Int) := []
theorem qfDe_keysUpTo_J34 (x4 : Int) {σ0 σ : KM} (h : kFr wfDe_keysUpTo σ0 σ) : kQ wfDe_keysUpTo σ0 Prod.snd (fDe_keysUpTo_J34 x4 σ) :=
  kQ_ri h
theorem qfDe_keysUpTo_J28 (x2 x3 x4 x5 : Int) {σ0 σ : KM} (h : kFr wfDe_keysUpTo σ0 σ) : kQ wfDe_keysUpTo σ0 (Sum.elim (fun s : Int × Int × KM => s.2.2) Prod.snd) (fDe_keysUpTo_J28 x2 x3 x4 x5 σ) :=
  kQ_let fun y1 =>
 kQ_inl h
theorem qfDe_keysUpTo_B6 (x2 x3 x4 x5 : Int) {σ0 σ : KM} (h : kFr wfDe_keysUpTo σ0 σ) : kQ wfDe_keysUpTo σ0 (Sum.elim (fun s : Int × Int × KM => s.2.2) Prod.snd) (fDe_keysUpTo_B6 x2 x3 x4 x5 σ) :=
  kQ_lt
 (kQ_call (rfDe_costThrough _ _ _) rfl h fun r2 τ1 h =>
 kQ_lt
 (qfDe_keysUpTo_J28 _ _ _ _ h)
 (kQ_let fun y3 =>
 qfDe_keysUpTo_J28 _ _ _ _ h))
 (kQ_exit (qfDe_keysUpTo_J34 _ h))
theorem qfDe_keysUpTo_L6 (x2 x3 x4 x5 : Int) {σ0 σ : KM} (h : kFr wfDe_keysUpTo σ0 σ) : kQ wfDe_keysUpTo σ0 Prod.snd (fDe_keysUpTo_L6 x2 x3 x4 x5 σ) :=
  kQ_iter (mf := fun s : Int × Int × KM => s.2.2) (fun s h => qfDe_keysUpTo_B6 x2 x3 s.1 s.2.1 h) kF (x4, x5, σ) h
theorem qfDe_keysUpTo (x2 x3 : Int) {σ0 σ : KM} (h : kFr wfDe_keysUpTo σ0 σ) : kQ wfDe_keysUpTo σ0 Prod.snd (fDe_keysUpTo x2 x3 σ) :=
  qfDe_keysUpTo_L6 _ _ _ _ h
theorem rfDe_keysUpTo (x2 x3 : Int) (σ : KM) : kQ wfDe_keysUpTo σ Prod.snd (fDe_keysUpTo x2 x3 σ) := qfDe_keysUpTo x2 x3 kFr.rf
abbrev wfP_unsure : List (Nat × Option Int) := [(5, some 2), (5, some 6), (6, some 3), (7, some 4), (8, some 1), (8, some 7), (8, some 8), (8, some 9), (8, some 12), (8, some 13), (8, some 14), (9, some 1), (9, some 4), (24, none), (25, none), (26, none), (28, none), (29, none), (30, none), (31, none), (32, none), (34, none), (35, none), (36, none), (37, none), (38, none), (39, none), (40, none), (41, none)]
theorem qfP_unsure (x1 x2 : Int) {σ0 σ : KM} (h : kFr wfP_unsure σ0 σ) : kQ wfP_unsure σ0 Prod.snd (fP_unsure x1 x2 σ) :=
  kQ_call (rfP_noWindow _ _) rfl h fun r2 τ1 h =>
 kQ_eq
 (kQ_call (rfP_outOf _ _ _ _) rfl h fun r4 τ3 h =>
 kQ_eq
 (kQ_call (rfP_noPath _) rfl h fun r6 τ5 h =>
 kQ_eq
 (kQ_call (rfDe_lookAhead _) rfl h fun _ τ7 h =>
 kQ_call (rfDe_keysUpTo _ _ _) rfl h fun r9 τ8 h =>
 kQ_ri h)
 (kQ_ri h))
 (kQ_ri h))
 (kQ_ri h)
theorem rfP_unsure (x1 x2 : Int) (σ : KM) : kQ wfP_unsure σ Prod.snd (fP_unsure x1 x2 σ) := qfP_unsure x1 x2 kFr.rf
abbrev wfNe_nextOnWay : List (Nat × Option Int) := []
theorem qfNe_nextOnWay_J77 (t0 : Int) {σ0 σ : KM} (h : kFr wfNe_nextOnWay σ0 σ) : kQ wfNe_nextOnWay σ0 Prod.snd (fNe_nextOnWay_J77 t0 σ) :=
  kQ_ri h
theorem qfNe_nextOnWay_J66 (x2 x3 : Int) {σ0 σ : KM} (h : kFr wfNe_nextOnWay σ0 σ) : kQ wfNe_nextOnWay σ0 Prod.snd (fNe_nextOnWay_J66 x2 x3 σ) :=
  kQ_lt
 (qfNe_nextOnWay_J77 _ h)
 (qfNe_nextOnWay_J77 _ h)
theorem qfNe_nextOnWay_J60 (x1 x2 x3 x4 : Int) {σ0 σ : KM} (h : kFr wfNe_nextOnWay σ0 σ) : kQ wfNe_nextOnWay σ0 (Sum.elim (fun s : Int × Int × KM => s.2.2) Prod.snd) (fNe_nextOnWay_J60 x1 x2 x3 x4 σ) :=
  kQ_let fun y1 =>
 kQ_inl h
theorem qfNe_nextOnWay_B6 (x1 x2 x3 x4 : Int) {σ0 σ : KM} (h : kFr wfNe_nextOnWay σ0 σ) : kQ wfNe_nextOnWay σ0 (Sum.elim (fun s : Int × Int × KM => s.2.2) Prod.snd) (fNe_nextOnWay_B6 x1 x2 x3 x4 σ) :=
  kQ_lt
 (kQ_call (rfNe_neighbour _ _ _) rfl h fun r2 τ1 h =>
 kQ_rd fun y3 =>
 kQ_call (rfNe_rankOfStep _ _) rfl h fun r5 τ4 h =>
 kQ_rd fun y6 =>
 kQ_eq
 (kQ_mn fun y7 =>
 qfNe_nextOnWay_J60 _ _ _ _ h)
 (qfNe_nextOnWay_J60 _ _ _ _ h))
 (kQ_exit (qfNe_nextOnWay_J66 _ _ h))
theorem qfNe_nextOnWay_L6 (x1 x2 x3 x4 : Int) {σ0 σ : KM} (h : kFr wfNe_nextOnWay σ0 σ) : kQ wfNe_nextOnWay σ0 Prod.snd (fNe_nextOnWay_L6 x1 x2 x3 x4 σ) :=
  kQ_iter (mf := fun s : Int × Int × KM => s.2.2) (fun s h => qfNe_nextOnWay_B6 x1 x2 s.1 s.2.1 h) kF (x3, x4, σ) h
theorem qfNe_nextOnWay (x1 x2 : Int) {σ0 σ : KM} (h : kFr wfNe_nextOnWay σ0 σ) : kQ wfNe_nextOnWay σ0 Prod.snd (fNe_nextOnWay x1 x2 σ) :=
  qfNe_nextOnWay_L6 _ _ _ _ h
theorem rfNe_nextOnWay (x1 x2 : Int) (σ : KM) : kQ wfNe_nextOnWay σ Prod.snd (fNe_nextOnWay x1 x2 σ) := qfNe_nextOnWay x1 x2 kFr.rf
abbrev wfNe_keyOnWay : List (Nat × Option Int) := []
theorem qfNe_keyOnWay_J43 (x4 : Int) {σ0 σ : KM} (h : kFr wfNe_keyOnWay σ0 σ) : kQ wfNe_keyOnWay σ0 Prod.snd (fNe_keyOnWay_J43 x4 σ) :=
  kQ_ri h
theorem qfNe_keyOnWay_J26 {σ0 σ : KM} (h : kFr wfNe_keyOnWay σ0 σ) : kQ wfNe_keyOnWay σ0 Prod.snd (fNe_keyOnWay_J26 σ) :=
  kQ_ri h
theorem qfNe_keyOnWay_B14 (x2 x3 x4 x5 : Int) {σ0 σ : KM} (h : kFr wfNe_keyOnWay σ0 σ) : kQ wfNe_keyOnWay σ0 (Sum.elim (fun s : Int × Int × KM => s.2.2) Prod.snd) (fNe_keyOnWay_B14 x2 x3 x4 x5 σ) :=
  kQ_lt
 (kQ_eq
 (kQ_exit (qfNe_keyOnWay_J26  h))
 (kQ_call (rfNe_nextOnWay _ _ _) rfl h fun r2 τ1 h =>
 kQ_let fun y3 =>
 kQ_inl h))
 (kQ_exit (qfNe_keyOnWay_J43 _ h))
theorem qfNe_keyOnWay_L14 (x2 x3 x4 x5 : Int) {σ0 σ : KM} (h : kFr wfNe_keyOnWay σ0 σ) : kQ wfNe_keyOnWay σ0 Prod.snd (fNe_keyOnWay_L14 x2 x3 x4 x5 σ) :=
  kQ_iter (mf := fun s : Int × Int × KM => s.2.2) (fun s h => qfNe_keyOnWay_B14 x2 x3 s.1 s.2.1 h) kF (x4, x5, σ) h
theorem qfNe_keyOnWay (x1 x2 x3 : Int) {σ0 σ : KM} (h : kFr wfNe_keyOnWay σ0 σ) : kQ wfNe_keyOnWay σ0 Prod.snd (fNe_keyOnWay x1 x2 x3 σ) :=
  kQ_lt
 (qfNe_keyOnWay_L14 _ _ _ _ h)
 (kQ_ri h)
theorem rfNe_keyOnWay (x1 x2 x3 : Int) (σ : KM) : kQ wfNe_keyOnWay σ Prod.snd (fNe_keyOnWay x1 x2 x3 σ) := qfNe_keyOnWay x1 x2 x3 kFr.rf
abbrev wfP_way : List (Nat × Option Int) := [(7, some 4), (30, none), (31, none), (32, none)]
theorem qfP_way_J14 {σ0 σ : KM} (h : kFr wfP_way σ0 σ) : kQ wfP_way σ0 Prod.snd (fP_way_J14 σ) :=
  kQ_ri h
theorem qfP_way (x1 x2 x3 : Int) {σ0 σ : KM} (h : kFr wfP_way σ0 σ) : kQ wfP_way σ0 Prod.snd (fP_way x1 x2 x3 σ) :=
  kQ_call (rfP_noKey _ _) rfl h fun r2 τ1 h =>
 kQ_eq
 (kQ_call (rfP_noKey _ _) rfl h fun r4 τ3 h =>
 kQ_eq
 (kQ_lt
 (kQ_ri h)
 (kQ_call (rfNe_refresh _) rfl h fun _ τ5 h =>
 kQ_call (rfNe_keyOnWay _ _ _ _) rfl h fun r7 τ6 h =>
 kQ_ri h))
 (qfP_way_J14  h))
 (qfP_way_J14  h)
theorem rfP_way (x1 x2 x3 : Int) (σ : KM) : kQ wfP_way σ Prod.snd (fP_way x1 x2 x3 σ) := qfP_way x1 x2 x3 kFr.rf
abbrev wfP_weight : List (Nat × Option Int) := [(6, some 3), (8, some 13), (27, none)]
theorem qfP_weight_J14 {σ0 σ : KM} (h : kFr wfP_weight σ0 σ) : kQ wfP_weight σ0 Prod.snd (fP_weight_J14 σ) :=
  kQ_ri h
theorem qfP_weight (x1 x2 x3 : Int) {σ0 σ : KM} (h : kFr wfP_weight σ0 σ) : kQ wfP_weight σ0 Prod.snd (fP_weight x1 x2 x3 σ) :=
  kQ_call (rfP_noMode _ _) rfl h fun r2 τ1 h =>
 kQ_eq
 (kQ_call (rfP_noTone _ _) rfl h fun r4 τ3 h =>
 kQ_eq
 (kQ_call (rfP_outOf _ _ _ _) rfl h fun r6 τ5 h =>
 kQ_eq
 (kQ_rd fun y7 =>
 kQ_wr rfl h fun τ8 h =>
 kQ_call (rfP_weightsChanged _) rfl h fun _ τ9 h =>
 kQ_ri h)
 (kQ_ri h))
 (qfP_weight_J14  h))
 (qfP_weight_J14  h)
theorem rfP_weight (x1 x2 x3 : Int) (σ : KM) : kQ wfP_weight σ Prod.snd (fP_weight x1 x2 x3 σ) := qfP_weight x1 x2 x3 kFr.rf
abbrev wfP_windows : List (Nat × Option Int) := [(5, some 0), (5, some 1), (5, some 2), (5, some 6), (6, some 3), (8, some 13), (24, none), (25, none), (26, none)]
theorem qfP_windows_J22 {σ0 σ : KM} (h : kFr wfP_windows σ0 σ) : kQ wfP_windows σ0 Prod.snd (fP_windows_J22 σ) :=
  kQ_ri h
theorem qfP_windows (x1 x2 : Int) {σ0 σ : KM} (h : kFr wfP_windows σ0 σ) : kQ wfP_windows σ0 Prod.snd (fP_windows x1 x2 σ) :=
  kQ_call (rfP_outOf _ _ _ _) rfl h fun r2 τ1 h =>
 kQ_eq
 (kQ_call (rfP_outOf _ _ _ _) rfl h fun r4 τ3 h =>
 kQ_eq
 (kQ_call (rfNo_end _) rfl h fun r6 τ5 h =>
 kQ_call (rfWi_beginsAhead _ _ _) rfl h fun r8 τ7 h =>
 kQ_lt
 (kQ_ri h)
 (kQ_wf rfl h fun τ9 h =>
 kQ_wf rfl h fun τ10 h =>
 kQ_call (rfP_notesChanged _) rfl h fun _ τ11 h =>
 kQ_call (rfP_freshWindows _) rfl h fun _ τ12 h =>
 kQ_ri h))
 (qfP_windows_J22  h))
 (qfP_windows_J22  h)
theorem rfP_windows (x1 x2 : Int) (σ : KM) : kQ wfP_windows σ Prod.snd (fP_windows x1 x2 σ) := qfP_windows x1 x2 kFr.rf
abbrev wfFi_moves : List (Nat × Option Int) := []
theorem qfFi_moves {σ0 σ : KM} (h : kFr wfFi_moves σ0 σ) : kQ wfFi_moves σ0 Prod.snd (fFi_moves σ) :=
  kQ_mx fun y1 =>
 kQ_ri h
theorem rfFi_moves (σ : KM) : kQ wfFi_moves σ Prod.snd (fFi_moves σ) := qfFi_moves  kFr.rf
abbrev wfDe_leastOf_42 : List (Nat × Option Int) := []
theorem qfDe_leastOf_42_J27 (x2 : Int) {σ0 σ : KM} (h : kFr wfDe_leastOf_42 σ0 σ) : kQ wfDe_leastOf_42 σ0 Prod.snd (fDe_leastOf_42_J27 x2 σ) :=
  kQ_ri h
theorem qfDe_leastOf_42_B5 (x1 x2 x3 : Int) {σ0 σ : KM} (h : kFr wfDe_leastOf_42 σ0 σ) : kQ wfDe_leastOf_42 σ0 (Sum.elim (fun s : Int × Int × KM => s.2.2) Prod.snd) (fDe_leastOf_42_B5 x1 x2 x3 σ) :=
  kQ_lt
 (kQ_rd fun y1 =>
 kQ_mn fun y2 =>
 kQ_let fun y3 =>
 kQ_inl h)
 (kQ_exit (qfDe_leastOf_42_J27 _ h))
theorem qfDe_leastOf_42_L5 (x1 x2 x3 : Int) {σ0 σ : KM} (h : kFr wfDe_leastOf_42 σ0 σ) : kQ wfDe_leastOf_42 σ0 Prod.snd (fDe_leastOf_42_L5 x1 x2 x3 σ) :=
  kQ_iter (mf := fun s : Int × Int × KM => s.2.2) (fun s h => qfDe_leastOf_42_B5 x1 s.1 s.2.1 h) kF (x2, x3, σ) h
theorem qfDe_leastOf_42 (x1 : Int) {σ0 σ : KM} (h : kFr wfDe_leastOf_42 σ0 σ) : kQ wfDe_leastOf_42 σ0 Prod.snd (fDe_leastOf_42 x1 σ) :=
  qfDe_leastOf_42_L5 _ _ _ h
theorem rfDe_leastOf_42 (x1 : Int) (σ : KM) : kQ wfDe_leastOf_42 σ Prod.snd (fDe_leastOf_42 x1 σ) := qfDe_leastOf_42 x1 kFr.rf
abbrev wfDe_cheapestMove_42 : List (Nat × Option Int) := []
theorem qfDe_cheapestMove_42_J46 (x4 : Int) {σ0 σ : KM} (h : kFr wfDe_cheapestMove_42 σ0 σ) : kQ wfDe_cheapestMove_42 σ0 Prod.snd (fDe_cheapestMove_42_J46 x4 σ) :=
  kQ_ri h
theorem qfDe_cheapestMove_42_B7 (x2 x3 x4 x5 : Int) {σ0 σ : KM} (h : kFr wfDe_cheapestMove_42 σ0 σ) : kQ wfDe_cheapestMove_42 σ0 (Sum.elim (fun s : Int × Int × KM => s.2.2) Prod.snd) (fDe_cheapestMove_42_B7 x2 x3 x4 x5 σ) :=
  kQ_lt
 (kQ_rd fun y1 =>
 kQ_rd fun y2 =>
 kQ_mn fun y3 =>
 kQ_let fun y4 =>
 kQ_inl h)
 (kQ_exit (qfDe_cheapestMove_42_J46 _ h))
theorem qfDe_cheapestMove_42_L7 (x2 x3 x4 x5 : Int) {σ0 σ : KM} (h : kFr wfDe_cheapestMove_42 σ0 σ) : kQ wfDe_cheapestMove_42 σ0 Prod.snd (fDe_cheapestMove_42_L7 x2 x3 x4 x5 σ) :=
  kQ_iter (mf := fun s : Int × Int × KM => s.2.2) (fun s h => qfDe_cheapestMove_42_B7 x2 x3 s.1 s.2.1 h) kF (x4, x5, σ) h
theorem qfDe_cheapestMove_42 (x2 x3 : Int) {σ0 σ : KM} (h : kFr wfDe_cheapestMove_42 σ0 σ) : kQ wfDe_cheapestMove_42 σ0 Prod.snd (fDe_cheapestMove_42 x2 x3 σ) :=
  qfDe_cheapestMove_42_L7 _ _ _ _ h
theorem rfDe_cheapestMove_42 (x2 x3 : Int) (σ : KM) : kQ wfDe_cheapestMove_42 σ Prod.snd (fDe_cheapestMove_42 x2 x3 σ) := qfDe_cheapestMove_42 x2 x3 kFr.rf
abbrev wfDe_goOn : List (Nat × Option Int) := [(42, none)]
theorem qfDe_goOn_J96 {σ0 σ : KM} (h : kFr wfDe_goOn σ0 σ) : kQ wfDe_goOn σ0 Prod.snd (fDe_goOn_J96 σ) :=
  kQ_ri h
theorem qfDe_goOn_J66 (x2 x3 x4 x5 x6 : Int) {σ0 σ : KM} (h : kFr wfDe_goOn σ0 σ) : kQ wfDe_goOn σ0 (Sum.elim (fun s : Int × KM => s.2) Prod.snd) (fDe_goOn_J66 x2 x3 x4 x5 x6 σ) :=
  kQ_rd fun y1 =>
 kQ_call (rfP_plus _ _ _) rfl h fun r3 τ2 h =>
 kQ_wr rfl h fun τ4 h =>
 kQ_let fun y5 =>
 kQ_inl h
theorem qfDe_goOn_B3 (x2 x3 x4 : Int) {σ0 σ : KM} (h : kFr wfDe_goOn σ0 σ) : kQ wfDe_goOn σ0 (Sum.elim (fun s : Int × KM => s.2) Prod.snd) (fDe_goOn_B3 x2 x3 x4 σ) :=
  kQ_lt
 (kQ_let fun y1 =>
 kQ_rd fun y2 =>
 kQ_lt
 (kQ_rd fun y3 =>
 kQ_eq
 (kQ_call (rfDe_cheapestMove_42 _ _ _) rfl h fun r5 τ4 h =>
 kQ_mn fun y6 =>
 qfDe_goOn_J66 _ _ _ _ _ h)
 (qfDe_goOn_J66 _ _ _ _ _ h))
 (qfDe_goOn_J66 _ _ _ _ _ h))
 (kQ_exit (qfDe_goOn_J96  h))
theorem qfDe_goOn_L3 (x2 x3 x4 : Int) {σ0 σ : KM} (h : kFr wfDe_goOn σ0 σ) : kQ wfDe_goOn σ0 Prod.snd (fDe_goOn_L3 x2 x3 x4 σ) :=
  kQ_iter (mf := fun s : Int × KM => s.2) (fun s h => qfDe_goOn_B3 x2 x3 s.1 h) kF (x4, σ) h
theorem qfDe_goOn (x2 x3 : Int) {σ0 σ : KM} (h : kFr wfDe_goOn σ0 σ) : kQ wfDe_goOn σ0 Prod.snd (fDe_goOn x2 x3 σ) :=
  qfDe_goOn_L3 _ _ _ h
theorem rfDe_goOn (x2 x3 : Int) (σ : KM) : kQ wfDe_goOn σ Prod.snd (fDe_goOn x2 x3 σ) := qfDe_goOn x2 x3 kFr.rf
abbrev wfDe_countMoves : List (Nat × Option Int) := [(9, some 4), (42, none), (43, none)]
theorem qfDe_countMoves_J119 {σ0 σ : KM} (h : kFr wfDe_countMoves σ0 σ) : kQ wfDe_countMoves σ0 Prod.snd (fDe_countMoves_J119 σ) :=
  kQ_wfz rfl h fun τ1 h =>
 kQ_ri h
theorem qfDe_countMoves_B91 (x2 x3 : Int) {σ0 σ : KM} (h : kFr wfDe_countMoves σ0 σ) : kQ wfDe_countMoves σ0 (Sum.elim (fun s : Int × KM => s.2) Prod.snd) (fDe_countMoves_B91 x2 x3 σ) :=
  kQ_lt
 (kQ_call (rfDe_leastOf_42 _ _) rfl h fun r2 τ1 h =>
 kQ_wr rfl h fun τ3 h =>
 kQ_let fun y4 =>
 kQ_inl h)
 (kQ_exit (qfDe_countMoves_J119  h))
theorem qfDe_countMoves_L91 (x2 x3 : Int) {σ0 σ : KM} (h : kFr wfDe_countMoves σ0 σ) : kQ wfDe_countMoves σ0 Prod.snd (fDe_countMoves_L91 x2 x3 σ) :=
  kQ_iter (mf := fun s : Int × KM => s.2) (fun s h => qfDe_countMoves_B91 x2 s.1 h) kF (x3, σ) h
theorem qfDe_countMoves_J89 (x2 : Int) {σ0 σ : KM} (h : kFr wfDe_countMoves σ0 σ) : kQ wfDe_countMoves σ0 Prod.snd (fDe_countMoves_J89 x2 σ) :=
  qfDe_countMoves_L91 _ _ h
theorem qfDe_countMoves_J83 (x2 x3 : Int) {σ0 σ : KM} (h : kFr wfDe_countMoves σ0 σ) : kQ wfDe_countMoves σ0 (Sum.elim (fun s : Int × KM => s.2) Prod.snd) (fDe_countMoves_J83 x2 x3 σ) :=
  kQ_let fun y1 =>
 kQ_inl h
theorem qfDe_countMoves_B64 (x2 x3 x4 : Int) {σ0 σ : KM} (h : kFr wfDe_countMoves σ0 σ) : kQ wfDe_countMoves σ0 (Sum.elim (fun s : Int × KM => s.2) (Sum.elim (fun s : Int × KM => s.2) Prod.snd)) (fDe_countMoves_B64 x2 x3 x4 σ) :=
  kQ_lt
 (kQ_exit (qfDe_countMoves_J83 _ _ h))
 (kQ_call (rfDe_goOn _ _ _) rfl h fun _ τ1 h =>
 kQ_let fun y2 =>
 kQ_inl h)
theorem qfDe_countMoves_L64 (x2 x3 x4 : Int) {σ0 σ : KM} (h : kFr wfDe_countMoves σ0 σ) : kQ wfDe_countMoves σ0 (Sum.elim (fun s : Int × KM => s.2) Prod.snd) (fDe_countMoves_L64 x2 x3 x4 σ) :=
  kQ_iter (mf := fun s : Int × KM => s.2) (fun s h => qfDe_countMoves_B64 x2 x3 s.1 h) kF (x4, σ) h
theorem qfDe_countMoves_B51 (x2 x3 : Int) {σ0 σ : KM} (h : kFr wfDe_countMoves σ0 σ) : kQ wfDe_countMoves σ0 (Sum.elim (fun s : Int × KM => s.2) Prod.snd) (fDe_countMoves_B51 x2 x3 σ) :=
  kQ_lt
 (kQ_let fun y1 =>
 qfDe_countMoves_L64 _ _ _ h)
 (kQ_exit (qfDe_countMoves_J89 _ h))
theorem qfDe_countMoves_L51 (x2 x3 : Int) {σ0 σ : KM} (h : kFr wfDe_countMoves σ0 σ) : kQ wfDe_countMoves σ0 Prod.snd (fDe_countMoves_L51 x2 x3 σ) :=
  kQ_iter (mf := fun s : Int × KM => s.2) (fun s h => qfDe_countMoves_B51 x2 s.1 h) kF (x3, σ) h
theorem qfDe_countMoves_J49 (x2 : Int) {σ0 σ : KM} (h : kFr wfDe_countMoves σ0 σ) : kQ wfDe_countMoves σ0 Prod.snd (fDe_countMoves_J49 x2 σ) :=
  qfDe_countMoves_L51 _ _ h
theorem qfDe_countMoves_B20 (x2 x3 : Int) {σ0 σ : KM} (h : kFr wfDe_countMoves σ0 σ) : kQ wfDe_countMoves σ0 (Sum.elim (fun s : Int × KM => s.2) Prod.snd) (fDe_countMoves_B20 x2 x3 σ) :=
  kQ_lt
 (kQ_rm fun y1 =>
 kQ_rd fun y2 =>
 kQ_wr rfl h fun τ3 h =>
 kQ_let fun y4 =>
 kQ_inl h)
 (kQ_exit (qfDe_countMoves_J49 _ h))
theorem qfDe_countMoves_L20 (x2 x3 : Int) {σ0 σ : KM} (h : kFr wfDe_countMoves σ0 σ) : kQ wfDe_countMoves σ0 Prod.snd (fDe_countMoves_L20 x2 x3 σ) :=
  kQ_iter (mf := fun s : Int × KM => s.2) (fun s h => qfDe_countMoves_B20 x2 s.1 h) kF (x3, σ) h
theorem qfDe_countMoves {σ0 σ : KM} (h : kFr wfDe_countMoves σ0 σ) : kQ wfDe_countMoves σ0 Prod.snd (fDe_countMoves σ) :=
  kQ_eq
 (kQ_call (rfFi_moves _) rfl h fun r2 τ1 h =>
 kQ_mn fun y3 =>
 qfDe_countMoves_L20 _ _ h)
 (kQ_ri h)
theorem rfDe_countMoves (σ : KM) : kQ wfDe_countMoves σ Prod.snd (fDe_countMoves σ) := qfDe_countMoves  kFr.rf
abbrev wfP_within : List (Nat × Option Int) := [(5, some 2), (5, some 6), (6, some 3), (7, some 4), (8, some 1), (8, some 7), (8, some 8), (8, some 9), (8, some 12), (8, some 13), (8, some 14), (9, some 1), (9, some 4), (24, none), (25, none), (26, none), (28, none), (29, none), (30, none), (31, none), (32, none), (34, none), (35, none), (36, none), (37, none), (38, none), (39, none), (40, none), (42, none), (43, none)]
theorem qfP_within (x1 : Int) {σ0 σ : KM} (h : kFr wfP_within σ0 σ) : kQ wfP_within σ0 Prod.snd (fP_within x1 σ) :=
  kQ_call (rfP_outOf _ _ _ _) rfl h fun r2 τ1 h =>
 kQ_eq
 (kQ_call (rfP_noPath _) rfl h fun r4 τ3 h =>
 kQ_eq
 (kQ_call (rfFi_moves _) rfl h fun r6 τ5 h =>
 kQ_lt
 (kQ_call (rfDe_countMoves _) rfl h fun _ τ7 h =>
 kQ_rd fun y8 =>
 kQ_call (rfP_toldCost _ _) rfl h fun r10 τ9 h =>
 kQ_ri h)
 (kQ_ri h))
 (kQ_ri h))
 (kQ_ri h)
theorem rfP_within (x1 : Int) (σ : KM) : kQ wfP_within σ Prod.snd (fP_within x1 σ) := qfP_within x1 kFr.rf
abbrev wfM_theEnd : List (Nat × Option Int) := []
theorem qfM_theEnd_J53 (x1 : Int) {σ0 σ : KM} (h : kFr wfM_theEnd σ0 σ) : kQ wfM_theEnd σ0 Prod.snd (fM_theEnd_J53 x1 σ) :=
  kQ_ri h
theorem qfM_theEnd_J46 (x2 t0 : Int) {σ0 σ : KM} (h : kFr wfM_theEnd σ0 σ) : kQ wfM_theEnd σ0 (Sum.elim (fun s : Int × Int × KM => s.2.2) Prod.snd) (fM_theEnd_J46 x2 t0 σ) :=
  kQ_let fun y1 =>
 kQ_inl h
theorem qfM_theEnd_B4 (x1 x2 : Int) {σ0 σ : KM} (h : kFr wfM_theEnd σ0 σ) : kQ wfM_theEnd σ0 (Sum.elim (fun s : Int × Int × KM => s.2.2) Prod.snd) (fM_theEnd_B4 x1 x2 σ) :=
  kQ_lt
 (kQ_rd fun y1 =>
 kQ_rd fun y2 =>
 kQ_lt
 (kQ_rd fun y3 =>
 kQ_rd fun y4 =>
 qfM_theEnd_J46 _ _ h)
 (qfM_theEnd_J46 _ _ h))
 (kQ_exit (qfM_theEnd_J53 _ h))
theorem qfM_theEnd_L4 (x1 x2 : Int) {σ0 σ : KM} (h : kFr wfM_theEnd σ0 σ) : kQ wfM_theEnd σ0 Prod.snd (fM_theEnd_L4 x1 x2 σ) :=
  kQ_iter (mf := fun s : Int × Int × KM => s.2.2) (fun s h => qfM_theEnd_B4 s.1 s.2.1 h) kF (x1, x2, σ) h
theorem qfM_theEnd {σ0 σ : KM} (h : kFr wfM_theEnd σ0 σ) : kQ wfM_theEnd σ0 Prod.snd (fM_theEnd σ) :=
  qfM_theEnd_L4 _ _ h
theorem rfM_theEnd (σ : KM) : kQ wfM_theEnd σ Prod.snd (fM_theEnd σ) := qfM_theEnd  kFr.rf
abbrev wfM_windowsBy : List (Nat × Option Int) := []
theorem qfM_windowsBy (x1 : Int) {σ0 σ : KM} (h : kFr wfM_windowsBy σ0 σ) : kQ wfM_windowsBy σ0 Prod.snd (fM_windowsBy x1 σ) :=
  kQ_call (rfM_theEnd _) rfl h fun r2 τ1 h =>
 kQ_dv fun y3 =>
 kQ_ri h
theorem rfM_windowsBy (x1 : Int) (σ : KM) : kQ wfM_windowsBy σ Prod.snd (fM_windowsBy x1 σ) := qfM_windowsBy x1 kFr.rf
abbrev wfM_windowMany : List (Nat × Option Int) := []
theorem qfM_windowMany_J21 (t0 : Int) {σ0 σ : KM} (h : kFr wfM_windowMany σ0 σ) : kQ wfM_windowMany σ0 Prod.snd (fM_windowMany_J21 t0 σ) :=
  kQ_ri h
theorem qfM_windowMany {σ0 σ : KM} (h : kFr wfM_windowMany σ0 σ) : kQ wfM_windowMany σ0 Prod.snd (fM_windowMany σ) :=
  kQ_call (rfM_windowsBy _ _) rfl h fun r2 τ1 h =>
 kQ_lt
 (qfM_windowMany_J21 _ h)
 (qfM_windowMany_J21 _ h)
theorem rfM_windowMany (σ : KM) : kQ wfM_windowMany σ Prod.snd (fM_windowMany σ) := qfM_windowMany  kFr.rf
abbrev wfM_isIn : List (Nat × Option Int) := []
theorem qfM_isIn_J18 (t0 : Int) {σ0 σ : KM} (h : kFr wfM_isIn σ0 σ) : kQ wfM_isIn σ0 Prod.snd (fM_isIn_J18 t0 σ) :=
  kQ_rz h
theorem qfM_isIn_J17 {σ0 σ : KM} (h : kFr wfM_isIn σ0 σ) : kQ wfM_isIn σ0 Prod.snd (fM_isIn_J17 σ) :=
  qfM_isIn_J18 _ h
theorem qfM_isIn (x0 x2 x4 : Int) {σ0 σ : KM} (h : kFr wfM_isIn σ0 σ) : kQ wfM_isIn σ0 Prod.snd (fM_isIn x0 x2 x4 σ) :=
  kQ_ck6 <|
 kQ_lt
 (qfM_isIn_J17  h)
 (kQ_ck6 <|
 kQ_lt
 (qfM_isIn_J17  h)
 (qfM_isIn_J18 _ h))
theorem rfM_isIn (x0 x2 x4 : Int) (σ : KM) : kQ wfM_isIn σ Prod.snd (fM_isIn x0 x2 x4 σ) := qfM_isIn x0 x2 x4 kFr.rf
abbrev wfM_isWindow : List (Nat × Option Int) := []
theorem qfM_isWindow (x1 : Int) {σ0 σ : KM} (h : kFr wfM_isWindow σ0 σ) : kQ wfM_isWindow σ0 Prod.snd (fM_isWindow x1 σ) :=
  kQ_ck <|
 kQ_call (rfM_windowMany _) rfl h fun r2 τ1 h =>
 kQ_ck <|
 kQ_call (rfM_isIn _ _ _ _) rfl h fun r4 τ3 h =>
 kQ_rz h
theorem rfM_isWindow (x1 : Int) (σ : KM) : kQ wfM_isWindow σ Prod.snd (fM_isWindow x1 σ) := qfM_isWindow x1 kFr.rf
abbrev wfM_counted : List (Nat × Option Int) := [(10, some 27), (55, none)]
theorem qfM_counted_J146 {σ0 σ : KM} (h : kFr wfM_counted σ0 σ) : kQ wfM_counted σ0 Prod.snd (fM_counted_J146 σ) :=
  kQ_ri h
theorem qfM_counted_J140 (x1 x2 x3 : Int) {σ0 σ : KM} (h : kFr wfM_counted σ0 σ) : kQ wfM_counted σ0 (Sum.elim (fun s : Int × KM => s.2) Prod.snd) (fM_counted_J140 x1 x2 x3 σ) :=
  kQ_let fun y1 =>
 kQ_inl h
theorem qfM_counted_J92 (x1 x2 x3 x4 t0 : Int) {σ0 σ : KM} (h : kFr wfM_counted σ0 σ) : kQ wfM_counted σ0 (Sum.elim (fun s : Int × KM => s.2) Prod.snd) (fM_counted_J92 x1 x2 x3 x4 t0 σ) :=
  kQ_lt
 (kQ_rd fun y1 =>
 kQ_rm fun y2 =>
 kQ_rd fun y3 =>
 kQ_wr rfl h fun τ4 h =>
 kQ_wf rfl h fun τ5 h =>
 qfM_counted_J140 _ _ _ h)
 (qfM_counted_J140 _ _ _ h)
theorem qfM_counted_J56 (x1 x2 x3 t0 : Int) {σ0 σ : KM} (h : kFr wfM_counted σ0 σ) : kQ wfM_counted σ0 (Sum.elim (fun s : Int × KM => s.2) Prod.snd) (fM_counted_J56 x1 x2 x3 t0 σ) :=
  kQ_rd fun y1 =>
 kQ_rd fun y2 =>
 kQ_lt
 (kQ_rd fun y3 =>
 kQ_rd fun y4 =>
 qfM_counted_J92 _ _ _ _ _ h)
 (qfM_counted_J92 _ _ _ _ _ h)
theorem qfM_counted_B28 (x1 x2 x3 : Int) {σ0 σ : KM} (h : kFr wfM_counted σ0 σ) : kQ wfM_counted σ0 (Sum.elim (fun s : Int × KM => s.2) Prod.snd) (fM_counted_B28 x1 x2 x3 σ) :=
  kQ_lt
 (kQ_rd fun y1 =>
 kQ_lt
 (kQ_rd fun y2 =>
 qfM_counted_J56 _ _ _ _ h)
 (qfM_counted_J56 _ _ _ _ h))
 (kQ_exit (qfM_counted_J146  h))
theorem qfM_counted_L28 (x1 x2 x3 : Int) {σ0 σ : KM} (h : kFr wfM_counted σ0 σ) : kQ wfM_counted σ0 Prod.snd (fM_counted_L28 x1 x2 x3 σ) :=
  kQ_iter (mf := fun s : Int × KM => s.2) (fun s h => qfM_counted_B28 x1 x2 s.1 h) kF (x3, σ) h
theorem qfM_counted_J26 (x1 x2 : Int) {σ0 σ : KM} (h : kFr wfM_counted σ0 σ) : kQ wfM_counted σ0 Prod.snd (fM_counted_J26 x1 x2 σ) :=
  qfM_counted_L28 _ _ _ h
theorem qfM_counted_B7 (x1 x2 x3 : Int) {σ0 σ : KM} (h : kFr wfM_counted σ0 σ) : kQ wfM_counted σ0 (Sum.elim (fun s : Int × KM => s.2) Prod.snd) (fM_counted_B7 x1 x2 x3 σ) :=
  kQ_lt
 (kQ_wr rfl h fun τ1 h =>
 kQ_let fun y2 =>
 kQ_inl h)
 (kQ_exit (qfM_counted_J26 _ _ h))
theorem qfM_counted_L7 (x1 x2 x3 : Int) {σ0 σ : KM} (h : kFr wfM_counted σ0 σ) : kQ wfM_counted σ0 Prod.snd (fM_counted_L7 x1 x2 x3 σ) :=
  kQ_iter (mf := fun s : Int × KM => s.2) (fun s h => qfM_counted_B7 x1 x2 s.1 h) kF (x3, σ) h
theorem qfM_counted (x1 x2 : Int) {σ0 σ : KM} (h : kFr wfM_counted σ0 σ) : kQ wfM_counted σ0 Prod.snd (fM_counted x1 x2 σ) :=
  kQ_wf rfl h fun τ1 h =>
 qfM_counted_L7 _ _ _ h
theorem rfM_counted (x1 x2 : Int) (σ : KM) : kQ wfM_counted σ Prod.snd (fM_counted x1 x2 σ) := qfM_counted x1 x2 kFr.rf
abbrev wfM_countedIn : List (Nat × Option Int) := [(10, some 27), (55, none)]
theorem qfM_countedIn (x1 : Int) {σ0 σ : KM} (h : kFr wfM_countedIn σ0 σ) : kQ wfM_countedIn σ0 Prod.snd (fM_countedIn x1 σ) :=
  kQ_call (rfM_counted _ _ _) rfl h fun _ τ1 h =>
 kQ_ri h
theorem rfM_countedIn (x1 : Int) (σ : KM) : kQ wfM_countedIn σ Prod.snd (fM_countedIn x1 σ) := qfM_countedIn x1 kFr.rf
abbrev wfM_toneOf : List (Nat × Option Int) := []
theorem qfM_toneOf_J41 (x0 t0 : Int) {σ0 σ : KM} (h : kFr wfM_toneOf σ0 σ) : kQ wfM_toneOf σ0 Prod.snd (fM_toneOf_J41 x0 t0 σ) :=
  kQ_dv fun y1 =>
 kQ_rm fun y2 =>
 kQ_ri h
theorem qfM_toneOf (x0 x1 : Int) {σ0 σ : KM} (h : kFr wfM_toneOf σ0 σ) : kQ wfM_toneOf σ0 Prod.snd (fM_toneOf x0 x1 σ) :=
  kQ_rm fun y1 =>
 kQ_eq
 (qfM_toneOf_J41 _ _ h)
 (kQ_eq
 (kQ_eq
 (qfM_toneOf_J41 _ _ h)
 (qfM_toneOf_J41 _ _ h))
 (kQ_eq
 (qfM_toneOf_J41 _ _ h)
 (qfM_toneOf_J41 _ _ h)))
theorem rfM_toneOf (x0 x1 : Int) (σ : KM) : kQ wfM_toneOf σ Prod.snd (fM_toneOf x0 x1 σ) := qfM_toneOf x0 x1 kFr.rf
abbrev wfM_chordNow : List (Nat × Option Int) := []
theorem qfM_chordNow_J75 (x1 : Int) {σ0 σ : KM} (h : kFr wfM_chordNow σ0 σ) : kQ wfM_chordNow σ0 Prod.snd (fM_chordNow_J75 x1 σ) :=
  kQ_ri h
theorem qfM_chordNow_J69 (x1 x2 x3 : Int) {σ0 σ : KM} (h : kFr wfM_chordNow σ0 σ) : kQ wfM_chordNow σ0 (Sum.elim (fun s : Int × Int × Int × KM => s.2.2.2) Prod.snd) (fM_chordNow_J69 x1 x2 x3 σ) :=
  kQ_let fun y1 =>
 kQ_inl h
theorem qfM_chordNow_B15 (x1 x2 x3 : Int) {σ0 σ : KM} (h : kFr wfM_chordNow σ0 σ) : kQ wfM_chordNow σ0 (Sum.elim (fun s : Int × Int × Int × KM => s.2.2.2) Prod.snd) (fM_chordNow_B15 x1 x2 x3 σ) :=
  kQ_lt
 (kQ_call (rfM_toneOf _ _ _) rfl h fun r2 τ1 h =>
 kQ_rd fun y3 =>
 kQ_call (rfM_toneOf _ _ _) rfl h fun r5 τ4 h =>
 kQ_rd fun y6 =>
 kQ_call (rfM_toneOf _ _ _) rfl h fun r8 τ7 h =>
 kQ_rd fun y9 =>
 kQ_let fun y10 =>
 kQ_lt
 (qfM_chordNow_J69 _ _ _ h)
 (qfM_chordNow_J69 _ _ _ h))
 (kQ_exit (qfM_chordNow_J75 _ h))
theorem qfM_chordNow_L15 (x1 x2 x3 : Int) {σ0 σ : KM} (h : kFr wfM_chordNow σ0 σ) : kQ wfM_chordNow σ0 Prod.snd (fM_chordNow_L15 x1 x2 x3 σ) :=
  kQ_iter (mf := fun s : Int × Int × Int × KM => s.2.2.2) (fun s h => qfM_chordNow_B15 s.1 s.2.1 s.2.2.1 h) kF (x1, x2, x3, σ) h
theorem qfM_chordNow {σ0 σ : KM} (h : kFr wfM_chordNow σ0 σ) : kQ wfM_chordNow σ0 Prod.snd (fM_chordNow σ) :=
  kQ_eq
 (kQ_ri h)
 (qfM_chordNow_L15 _ _ _ h)
theorem rfM_chordNow (σ : KM) : kQ wfM_chordNow σ Prod.snd (fM_chordNow σ) := qfM_chordNow  kFr.rf
abbrev wfM_chord : List (Nat × Option Int) := [(10, some 0), (10, some 27), (55, none)]
theorem qfM_chord (x1 : Int) {σ0 σ : KM} (h : kFr wfM_chord σ0 σ) : kQ wfM_chord σ0 Prod.snd (fM_chord x1 σ) :=
  kQ_wf rfl h fun τ1 h =>
 kQ_call (rfM_isWindow _ _) rfl h fun r3 τ2 h =>
 kQ_eq
 (kQ_ri h)
 (kQ_call (rfM_countedIn _ _) rfl h fun _ τ4 h =>
 kQ_call (rfM_chordNow _) rfl h fun r6 τ5 h =>
 kQ_ri h)
theorem rfM_chord (x1 : Int) (σ : KM) : kQ wfM_chord σ Prod.snd (fM_chord x1 σ) := qfM_chord x1 kFr.rf
abbrev wfM_next : List (Nat × Option Int) := []
theorem qfM_next_J61 (t0 t1 : Int) {σ0 σ : KM} (h : kFr wfM_next σ0 σ) : kQ wfM_next σ0 Prod.snd (fM_next_J61 t0 t1 σ) :=
  kQ_ri h
theorem qfM_next_J79 (t0 t1 : Int) {σ0 σ : KM} (h : kFr wfM_next σ0 σ) : kQ wfM_next σ0 Prod.snd (fM_next_J79 t0 t1 σ) :=
  kQ_ri h
theorem qfM_next_J104 (t0 : Int) {σ0 σ : KM} (h : kFr wfM_next σ0 σ) : kQ wfM_next σ0 Prod.snd (fM_next_J104 t0 σ) :=
  kQ_ri h
theorem qfM_next_J117 (t0 : Int) {σ0 σ : KM} (h : kFr wfM_next σ0 σ) : kQ wfM_next σ0 Prod.snd (fM_next_J117 t0 σ) :=
  kQ_ri h
theorem qfM_next_J16 (x0 x1 x2 t0 : Int) {σ0 σ : KM} (h : kFr wfM_next σ0 σ) : kQ wfM_next σ0 Prod.snd (fM_next_J16 x0 x1 x2 t0 σ) :=
  kQ_sw (kA_cons (kQ_rm fun y1 =>
 kQ_eq
 (qfM_next_J61 _ _ h)
 (qfM_next_J61 _ _ h)) (kA_cons (kQ_rm fun y2 =>
 kQ_eq
 (qfM_next_J79 _ _ h)
 (qfM_next_J79 _ _ h)) (kA_cons (kQ_eq
 (kQ_rm fun y3 =>
 qfM_next_J104 _ h)
 (kQ_rm fun y4 =>
 qfM_next_J104 _ h)) (kA_nil)))) (kQ_eq
 (qfM_next_J117 _ h)
 (qfM_next_J117 _ h))
theorem qfM_next (x0 x1 : Int) {σ0 σ : KM} (h : kFr wfM_next σ0 σ) : kQ wfM_next σ0 Prod.snd (fM_next x0 x1 σ) :=
  kQ_rm fun y1 =>
 kQ_lt
 (qfM_next_J16 _ _ _ _ h)
 (qfM_next_J16 _ _ _ _ h)
theorem rfM_next (x0 x1 : Int) (σ : KM) : kQ wfM_next σ Prod.snd (fM_next x0 x1 σ) := qfM_next x0 x1 kFr.rf
abbrev wfM_costs : List (Nat × Option Int) := []
theorem qfM_costs_J28 (t0 : Int) {σ0 σ : KM} (h : kFr wfM_costs σ0 σ) : kQ wfM_costs σ0 Prod.snd (fM_costs_J28 t0 σ) :=
  kQ_ri h
theorem qfM_costs (x1 : Int) {σ0 σ : KM} (h : kFr wfM_costs σ0 σ) : kQ wfM_costs σ0 Prod.snd (fM_costs x1 σ) :=
  kQ_lt
 (qfM_costs_J28 _ h)
 (kQ_eq
 (qfM_costs_J28 _ h)
 (qfM_costs_J28 _ h))
theorem rfM_costs (x1 : Int) (σ : KM) : kQ wfM_costs σ Prod.snd (fM_costs x1 σ) := qfM_costs x1 kFr.rf
abbrev wfM_laysFar : List (Nat × Option Int) := [(56, none), (57, none)]
theorem qfM_laysFar_J183 {σ0 σ : KM} (h : kFr wfM_laysFar σ0 σ) : kQ wfM_laysFar σ0 Prod.snd (fM_laysFar_J183 σ) :=
  kQ_ri h
theorem qfM_laysFar_J180 (x2 : Int) {σ0 σ : KM} (h : kFr wfM_laysFar σ0 σ) : kQ wfM_laysFar σ0 (Sum.elim (fun s : Int × KM => s.2) Prod.snd) (fM_laysFar_J180 x2 σ) :=
  kQ_inl h
theorem qfM_laysFar_J174 (x2 x3 : Int) {σ0 σ : KM} (h : kFr wfM_laysFar σ0 σ) : kQ wfM_laysFar σ0 (Sum.elim (fun s : Int × Int × KM => s.2.2) (Sum.elim (fun s : Int × KM => s.2) Prod.snd)) (fM_laysFar_J174 x2 x3 σ) :=
  kQ_let fun y1 =>
 kQ_inl h
theorem qfM_laysFar_J168 (x2 x3 x4 : Int) {σ0 σ : KM} (h : kFr wfM_laysFar σ0 σ) : kQ wfM_laysFar σ0 (Sum.elim (fun s : Int × Int × KM => s.2.2) (Sum.elim (fun s : Int × Int × KM => s.2.2) (Sum.elim (fun s : Int × KM => s.2) Prod.snd))) (fM_laysFar_J168 x2 x3 x4 σ) :=
  kQ_let fun y1 =>
 kQ_inl h
theorem qfM_laysFar_J143 (x3 x4 x5 x6 : Int) {σ0 σ : KM} (h : kFr wfM_laysFar σ0 σ) : kQ wfM_laysFar σ0 (Sum.elim (fun s : Int × Int × KM => s.2.2) (Sum.elim (fun s : Int × Int × KM => s.2.2) (Sum.elim (fun s : Int × KM => s.2) Prod.snd))) (fM_laysFar_J143 x3 x4 x5 x6 σ) :=
  kQ_wr rfl h fun τ1 h =>
 kQ_rd fun y2 =>
 kQ_wr rfl h fun τ3 h =>
 qfM_laysFar_J168 _ _ _ h
theorem qfM_laysFar_B55 (x3 x2 x4 : Int) {σ0 σ : KM} (h : kFr wfM_laysFar σ0 σ) : kQ wfM_laysFar σ0 (Sum.elim (fun s : Int × Int × KM => s.2.2) (Sum.elim (fun s : Int × Int × KM => s.2.2) (Sum.elim (fun s : Int × KM => s.2) Prod.snd))) (fM_laysFar_B55 x3 x2 x4 σ) :=
  kQ_lt
 (kQ_call (rfM_next _ _ _) rfl h fun r2 τ1 h =>
 kQ_rd fun y3 =>
 kQ_eq
 (qfM_laysFar_J168 _ _ _ h)
 (kQ_rd fun y4 =>
 kQ_call (rfM_costs _ _) rfl h fun r6 τ5 h =>
 kQ_let fun y7 =>
 kQ_rd fun y8 =>
 kQ_lt
 (qfM_laysFar_J168 _ _ _ h)
 (kQ_rd fun y9 =>
 kQ_eq
 (kQ_rd fun y10 =>
 kQ_rd fun y11 =>
 kQ_lt
 (qfM_laysFar_J143 _ _ _ _ h)
 (qfM_laysFar_J168 _ _ _ h))
 (qfM_laysFar_J143 _ _ _ _ h))))
 (kQ_exit (qfM_laysFar_J174 _ _ h))
theorem qfM_laysFar_L55 (x3 x2 x4 : Int) {σ0 σ : KM} (h : kFr wfM_laysFar σ0 σ) : kQ wfM_laysFar σ0 (Sum.elim (fun s : Int × Int × KM => s.2.2) (Sum.elim (fun s : Int × KM => s.2) Prod.snd)) (fM_laysFar_L55 x3 x2 x4 σ) :=
  kQ_iter (mf := fun s : Int × Int × KM => s.2.2) (fun s h => qfM_laysFar_B55 x3 s.1 s.2.1 h) kF (x2, x4, σ) h
theorem qfM_laysFar_B46 (x2 x3 : Int) {σ0 σ : KM} (h : kFr wfM_laysFar σ0 σ) : kQ wfM_laysFar σ0 (Sum.elim (fun s : Int × Int × KM => s.2.2) (Sum.elim (fun s : Int × KM => s.2) Prod.snd)) (fM_laysFar_B46 x2 x3 σ) :=
  kQ_lt
 (qfM_laysFar_L55 _ _ _ h)
 (kQ_exit (qfM_laysFar_J180 _ h))
theorem qfM_laysFar_L46 (x2 x3 : Int) {σ0 σ : KM} (h : kFr wfM_laysFar σ0 σ) : kQ wfM_laysFar σ0 (Sum.elim (fun s : Int × KM => s.2) Prod.snd) (fM_laysFar_L46 x2 x3 σ) :=
  kQ_iter (mf := fun s : Int × Int × KM => s.2.2) (fun s h => qfM_laysFar_B46 s.1 s.2.1 h) kF (x2, x3, σ) h
theorem qfM_laysFar_B38 (x2 : Int) {σ0 σ : KM} (h : kFr wfM_laysFar σ0 σ) : kQ wfM_laysFar σ0 (Sum.elim (fun s : Int × KM => s.2) Prod.snd) (fM_laysFar_B38 x2 σ) :=
  kQ_eq
 (kQ_exit (qfM_laysFar_J183  h))
 (qfM_laysFar_L46 _ _ h)
theorem qfM_laysFar_L38 (x2 : Int) {σ0 σ : KM} (h : kFr wfM_laysFar σ0 σ) : kQ wfM_laysFar σ0 Prod.snd (fM_laysFar_L38 x2 σ) :=
  kQ_iter (mf := fun s : Int × KM => s.2) (fun s h => qfM_laysFar_B38 s.1 h) kF (x2, σ) h
theorem qfM_laysFar_J22 (x1 : Int) {σ0 σ : KM} (h : kFr wfM_laysFar σ0 σ) : kQ wfM_laysFar σ0 Prod.snd (fM_laysFar_J22 x1 σ) :=
  kQ_wr rfl h fun τ1 h =>
 kQ_wr rfl h fun τ2 h =>
 qfM_laysFar_L38 _ h
theorem qfM_laysFar_B2 (x1 x2 : Int) {σ0 σ : KM} (h : kFr wfM_laysFar σ0 σ) : kQ wfM_laysFar σ0 (Sum.elim (fun s : Int × KM => s.2) Prod.snd) (fM_laysFar_B2 x1 x2 σ) :=
  kQ_lt
 (kQ_wr rfl h fun τ1 h =>
 kQ_let fun y2 =>
 kQ_inl h)
 (kQ_exit (qfM_laysFar_J22 _ h))
theorem qfM_laysFar_L2 (x1 x2 : Int) {σ0 σ : KM} (h : kFr wfM_laysFar σ0 σ) : kQ wfM_laysFar σ0 Prod.snd (fM_laysFar_L2 x1 x2 σ) :=
  kQ_iter (mf := fun s : Int × KM => s.2) (fun s h => qfM_laysFar_B2 x1 s.1 h) kF (x2, σ) h
theorem qfM_laysFar (x1 : Int) {σ0 σ : KM} (h : kFr wfM_laysFar σ0 σ) : kQ wfM_laysFar σ0 Prod.snd (fM_laysFar x1 σ) :=
  qfM_laysFar_L2 _ _ h
theorem rfM_laysFar (x1 : Int) (σ : KM) : kQ wfM_laysFar σ Prod.snd (fM_laysFar x1 σ) := qfM_laysFar x1 kFr.rf
abbrev wfM_laysNet : List (Nat × Option Int) := [(56, none), (57, none), (58, none)]
theorem qfM_laysNet_J50 {σ0 σ : KM} (h : kFr wfM_laysNet σ0 σ) : kQ wfM_laysNet σ0 Prod.snd (fM_laysNet_J50 σ) :=
  kQ_ri h
theorem qfM_laysNet_J44 (x1 : Int) {σ0 σ : KM} (h : kFr wfM_laysNet σ0 σ) : kQ wfM_laysNet σ0 (Sum.elim (fun s : Int × KM => s.2) Prod.snd) (fM_laysNet_J44 x1 σ) :=
  kQ_let fun y1 =>
 kQ_inl h
theorem qfM_laysNet_B15 (x1 x2 : Int) {σ0 σ : KM} (h : kFr wfM_laysNet σ0 σ) : kQ wfM_laysNet σ0 (Sum.elim (fun s : Int × KM => s.2) (Sum.elim (fun s : Int × KM => s.2) Prod.snd)) (fM_laysNet_B15 x1 x2 σ) :=
  kQ_lt
 (kQ_rd fun y1 =>
 kQ_wr rfl h fun τ2 h =>
 kQ_let fun y3 =>
 kQ_inl h)
 (kQ_exit (qfM_laysNet_J44 _ h))
theorem qfM_laysNet_L15 (x1 x2 : Int) {σ0 σ : KM} (h : kFr wfM_laysNet σ0 σ) : kQ wfM_laysNet σ0 (Sum.elim (fun s : Int × KM => s.2) Prod.snd) (fM_laysNet_L15 x1 x2 σ) :=
  kQ_iter (mf := fun s : Int × KM => s.2) (fun s h => qfM_laysNet_B15 x1 s.1 h) kF (x2, σ) h
theorem qfM_laysNet_B2 (x1 : Int) {σ0 σ : KM} (h : kFr wfM_laysNet σ0 σ) : kQ wfM_laysNet σ0 (Sum.elim (fun s : Int × KM => s.2) Prod.snd) (fM_laysNet_B2 x1 σ) :=
  kQ_lt
 (kQ_call (rfM_laysFar _ _) rfl h fun _ τ1 h =>
 qfM_laysNet_L15 _ _ h)
 (kQ_exit (qfM_laysNet_J50  h))
theorem qfM_laysNet_L2 (x1 : Int) {σ0 σ : KM} (h : kFr wfM_laysNet σ0 σ) : kQ wfM_laysNet σ0 Prod.snd (fM_laysNet_L2 x1 σ) :=
  kQ_iter (mf := fun s : Int × KM => s.2) (fun s h => qfM_laysNet_B2 s.1 h) kF (x1, σ) h
theorem qfM_laysNet {σ0 σ : KM} (h : kFr wfM_laysNet σ0 σ) : kQ wfM_laysNet σ0 Prod.snd (fM_laysNet σ) :=
  qfM_laysNet_L2 _ h
theorem rfM_laysNet (σ : KM) : kQ wfM_laysNet σ Prod.snd (fM_laysNet σ) := qfM_laysNet  kFr.rf
abbrev wfM_matched : List (Nat × Option Int) := []
theorem qfM_matched_J51 (x2 : Int) {σ0 σ : KM} (h : kFr wfM_matched σ0 σ) : kQ wfM_matched σ0 Prod.snd (fM_matched_J51 x2 σ) :=
  kQ_ri h
theorem qfM_matched_B4 (x1 x2 x3 : Int) {σ0 σ : KM} (h : kFr wfM_matched σ0 σ) : kQ wfM_matched σ0 (Sum.elim (fun s : Int × Int × KM => s.2.2) Prod.snd) (fM_matched_B4 x1 x2 x3 σ) :=
  kQ_lt
 (kQ_rd fun y1 =>
 kQ_dv fun y2 =>
 kQ_rm fun y3 =>
 kQ_rm fun y4 =>
 kQ_rd fun y5 =>
 kQ_let fun y6 =>
 kQ_let fun y7 =>
 kQ_inl h)
 (kQ_exit (qfM_matched_J51 _ h))
theorem qfM_matched_L4 (x1 x2 x3 : Int) {σ0 σ : KM} (h : kFr wfM_matched σ0 σ) : kQ wfM_matched σ0 Prod.snd (fM_matched_L4 x1 x2 x3 σ) :=
  kQ_iter (mf := fun s : Int × Int × KM => s.2.2) (fun s h => qfM_matched_B4 x1 s.1 s.2.1 h) kF (x2, x3, σ) h
theorem qfM_matched (x1 : Int) {σ0 σ : KM} (h : kFr wfM_matched σ0 σ) : kQ wfM_matched σ0 Prod.snd (fM_matched x1 σ) :=
  qfM_matched_L4 _ _ _ h
theorem rfM_matched (x1 : Int) (σ : KM) : kQ wfM_matched σ Prod.snd (fM_matched x1 σ) := qfM_matched x1 kFr.rf
abbrev wfM_fitted : List (Nat × Option Int) := []
theorem qfM_fitted_J24 (t0 : Int) {σ0 σ : KM} (h : kFr wfM_fitted σ0 σ) : kQ wfM_fitted σ0 Prod.snd (fM_fitted_J24 t0 σ) :=
  kQ_ri h
theorem qfM_fitted (x1 : Int) {σ0 σ : KM} (h : kFr wfM_fitted σ0 σ) : kQ wfM_fitted σ0 Prod.snd (fM_fitted x1 σ) :=
  kQ_eq
 (qfM_fitted_J24 _ h)
 (kQ_call (rfM_matched _ _) rfl h fun r2 τ1 h =>
 kQ_dv fun y3 =>
 qfM_fitted_J24 _ h)
theorem rfM_fitted (x1 : Int) (σ : KM) : kQ wfM_fitted σ Prod.snd (fM_fitted x1 σ) := qfM_fitted x1 kFr.rf
abbrev wfM_laysOwn : List (Nat × Option Int) := [(10, some 27), (10, some 37), (55, none), (56, none), (57, none), (58, none), (59, none), (64, none)]
theorem qfM_laysOwn_J143 {σ0 σ : KM} (h : kFr wfM_laysOwn σ0 σ) : kQ wfM_laysOwn σ0 Prod.snd (fM_laysOwn_J143 σ) :=
  kQ_ri h
theorem qfM_laysOwn_J137 (x1 : Int) {σ0 σ : KM} (h : kFr wfM_laysOwn σ0 σ) : kQ wfM_laysOwn σ0 (Sum.elim (fun s : Int × KM => s.2) Prod.snd) (fM_laysOwn_J137 x1 σ) :=
  kQ_let fun y1 =>
 kQ_inl h
theorem qfM_laysOwn_J130 (x1 x2 x3 t0 t1 : Int) {σ0 σ : KM} (h : kFr wfM_laysOwn σ0 σ) : kQ wfM_laysOwn σ0 (Sum.elim (fun s : Int × KM => s.2) (Sum.elim (fun s : Int × KM => s.2) Prod.snd)) (fM_laysOwn_J130 x1 x2 x3 t0 t1 σ) :=
  kQ_wr rfl h fun τ1 h =>
 kQ_let fun y2 =>
 kQ_inl h
theorem qfM_laysOwn_J123 (x1 x2 x3 t0 : Int) {σ0 σ : KM} (h : kFr wfM_laysOwn σ0 σ) : kQ wfM_laysOwn σ0 (Sum.elim (fun s : Int × KM => s.2) (Sum.elim (fun s : Int × KM => s.2) Prod.snd)) (fM_laysOwn_J123 x1 x2 x3 t0 σ) :=
  kQ_call (rfM_fitted _ _) rfl h fun r2 τ1 h =>
 qfM_laysOwn_J130 _ _ _ _ _ h
theorem qfM_laysOwn_B82 (x1 x2 x3 : Int) {σ0 σ : KM} (h : kFr wfM_laysOwn σ0 σ) : kQ wfM_laysOwn σ0 (Sum.elim (fun s : Int × KM => s.2) (Sum.elim (fun s : Int × KM => s.2) Prod.snd)) (fM_laysOwn_B82 x1 x2 x3 σ) :=
  kQ_lt
 (kQ_rd fun y1 =>
 kQ_eq
 (qfM_laysOwn_J123 _ _ _ _ h)
 (kQ_rd fun y2 =>
 kQ_eq
 (qfM_laysOwn_J123 _ _ _ _ h)
 (qfM_laysOwn_J130 _ _ _ _ _ h)))
 (kQ_exit (qfM_laysOwn_J137 _ h))
theorem qfM_laysOwn_L82 (x1 x2 x3 : Int) {σ0 σ : KM} (h : kFr wfM_laysOwn σ0 σ) : kQ wfM_laysOwn σ0 (Sum.elim (fun s : Int × KM => s.2) Prod.snd) (fM_laysOwn_L82 x1 x2 x3 σ) :=
  kQ_iter (mf := fun s : Int × KM => s.2) (fun s h => qfM_laysOwn_B82 x1 x2 s.1 h) kF (x3, σ) h
theorem qfM_laysOwn_J80 (x1 x2 : Int) {σ0 σ : KM} (h : kFr wfM_laysOwn σ0 σ) : kQ wfM_laysOwn σ0 (Sum.elim (fun s : Int × KM => s.2) Prod.snd) (fM_laysOwn_J80 x1 x2 σ) :=
  qfM_laysOwn_L82 _ _ _ h
theorem qfM_laysOwn_J73 (x1 x3 t0 : Int) {σ0 σ : KM} (h : kFr wfM_laysOwn σ0 σ) : kQ wfM_laysOwn σ0 (Sum.elim (fun s : Int × Int × KM => s.2.2) (Sum.elim (fun s : Int × KM => s.2) Prod.snd)) (fM_laysOwn_J73 x1 x3 t0 σ) :=
  kQ_let fun y1 =>
 kQ_inl h
theorem qfM_laysOwn_B49 (x1 x2 x3 : Int) {σ0 σ : KM} (h : kFr wfM_laysOwn σ0 σ) : kQ wfM_laysOwn σ0 (Sum.elim (fun s : Int × Int × KM => s.2.2) (Sum.elim (fun s : Int × KM => s.2) Prod.snd)) (fM_laysOwn_B49 x1 x2 x3 σ) :=
  kQ_lt
 (kQ_call (rfM_fitted _ _) rfl h fun r2 τ1 h =>
 kQ_lt
 (kQ_call (rfM_fitted _ _) rfl h fun r4 τ3 h =>
 qfM_laysOwn_J73 _ _ _ h)
 (qfM_laysOwn_J73 _ _ _ h))
 (kQ_exit (qfM_laysOwn_J80 _ _ h))
theorem qfM_laysOwn_L49 (x1 x2 x3 : Int) {σ0 σ : KM} (h : kFr wfM_laysOwn σ0 σ) : kQ wfM_laysOwn σ0 (Sum.elim (fun s : Int × KM => s.2) Prod.snd) (fM_laysOwn_L49 x1 x2 x3 σ) :=
  kQ_iter (mf := fun s : Int × Int × KM => s.2.2) (fun s h => qfM_laysOwn_B49 x1 s.1 s.2.1 h) kF (x2, x3, σ) h
theorem qfM_laysOwn_J44 (x1 t0 t1 : Int) {σ0 σ : KM} (h : kFr wfM_laysOwn σ0 σ) : kQ wfM_laysOwn σ0 (Sum.elim (fun s : Int × KM => s.2) Prod.snd) (fM_laysOwn_J44 x1 t0 t1 σ) :=
  kQ_wz rfl h fun τ1 h =>
 qfM_laysOwn_L49 _ _ _ h
theorem qfM_laysOwn_B14 (x1 : Int) {σ0 σ : KM} (h : kFr wfM_laysOwn σ0 σ) : kQ wfM_laysOwn σ0 (Sum.elim (fun s : Int × KM => s.2) Prod.snd) (fM_laysOwn_B14 x1 σ) :=
  kQ_lt
 (kQ_call (rfM_countedIn _ _) rfl h fun _ τ1 h =>
 kQ_eq
 (qfM_laysOwn_J44 _ _ _ h)
 (qfM_laysOwn_J44 _ _ _ h))
 (kQ_exit (qfM_laysOwn_J143  h))
theorem qfM_laysOwn_L14 (x1 : Int) {σ0 σ : KM} (h : kFr wfM_laysOwn σ0 σ) : kQ wfM_laysOwn σ0 Prod.snd (fM_laysOwn_L14 x1 σ) :=
  kQ_iter (mf := fun s : Int × KM => s.2) (fun s h => qfM_laysOwn_B14 s.1 h) kF (x1, σ) h
theorem qfM_laysOwn {σ0 σ : KM} (h : kFr wfM_laysOwn σ0 σ) : kQ wfM_laysOwn σ0 Prod.snd (fM_laysOwn σ) :=
  kQ_call (rfM_laysNet _) rfl h fun _ τ1 h =>
 kQ_call (rfM_windowMany _) rfl h fun r3 τ2 h =>
 kQ_wf rfl h fun τ4 h =>
 qfM_laysOwn_L14 _ h
theorem rfM_laysOwn (σ : KM) : kQ wfM_laysOwn σ Prod.snd (fM_laysOwn σ) := qfM_laysOwn  kFr.rf
abbrev wfM_moves : List (Nat × Option Int) := []
theorem qfM_moves_J33 (t0 : Int) {σ0 σ : KM} (h : kFr wfM_moves σ0 σ) : kQ wfM_moves σ0 Prod.snd (fM_moves_J33 t0 σ) :=
  kQ_ri h
theorem qfM_moves_J19 (x1 x2 x4 : Int) {σ0 σ : KM} (h : kFr wfM_moves σ0 σ) : kQ wfM_moves σ0 Prod.snd (fM_moves_J19 x1 x2 x4 σ) :=
  kQ_rd fun y1 =>
 qfM_moves_J33 _ h
theorem qfM_moves (x1 x2 x3 x4 : Int) {σ0 σ : KM} (h : kFr wfM_moves σ0 σ) : kQ wfM_moves σ0 Prod.snd (fM_moves x1 x2 x3 x4 σ) :=
  kQ_rd fun y1 =>
 kQ_eq
 (qfM_moves_J19 _ _ _ h)
 (kQ_eq
 (qfM_moves_J19 _ _ _ h)
 (qfM_moves_J33 _ h))
theorem rfM_moves (x1 x2 x3 x4 : Int) (σ : KM) : kQ wfM_moves σ Prod.snd (fM_moves x1 x2 x3 x4 σ) := qfM_moves x1 x2 x3 x4 kFr.rf
abbrev wfM_added : List (Nat × Option Int) := []
theorem qfM_added_J20 (t0 : Int) {σ0 σ : KM} (h : kFr wfM_added σ0 σ) : kQ wfM_added σ0 Prod.snd (fM_added_J20 t0 σ) :=
  kQ_ri h
theorem qfM_added_J12 {σ0 σ : KM} (h : kFr wfM_added σ0 σ) : kQ wfM_added σ0 Prod.snd (fM_added_J12 σ) :=
  qfM_added_J20 _ h
theorem qfM_added (x0 x1 : Int) {σ0 σ : KM} (h : kFr wfM_added σ0 σ) : kQ wfM_added σ0 Prod.snd (fM_added x0 x1 σ) :=
  kQ_lt
 (kQ_lt
 (qfM_added_J20 _ h)
 (qfM_added_J12  h))
 (qfM_added_J12  h)
theorem rfM_added (x0 x1 : Int) (σ : KM) : kQ wfM_added σ Prod.snd (fM_added x0 x1 σ) := qfM_added x0 x1 kFr.rf
abbrev wfM_laysPath : List (Nat × Option Int) := [(10, some 38), (61, none), (62, none), (63, none)]
theorem qfM_laysPath_J426 {σ0 σ : KM} (h : kFr wfM_laysPath σ0 σ) : kQ wfM_laysPath σ0 Prod.snd (fM_laysPath_J426 σ) :=
  kQ_rz h
theorem qfM_laysPath_J386 (x1 x3 x4 : Int) {σ0 σ : KM} (h : kFr wfM_laysPath σ0 σ) : kQ wfM_laysPath σ0 (Sum.elim (fun s : Int × Int × KM => s.2.2) Prod.snd) (fM_laysPath_J386 x1 x3 x4 σ) :=
  kQ_wr rfl h fun τ1 h =>
 kQ_rd fun y2 =>
 kQ_rd fun y3 =>
 kQ_let fun y4 =>
 kQ_let fun y5 =>
 kQ_inl h
theorem qfM_laysPath_J361 (x1 x2 x3 x4 t0 : Int) {σ0 σ : KM} (h : kFr wfM_laysPath σ0 σ) : kQ wfM_laysPath σ0 (Sum.elim (fun s : Int × KM => s.2) (Sum.elim (fun s : Int × Int × KM => s.2.2) Prod.snd)) (fM_laysPath_J361 x1 x2 x3 x4 t0 σ) :=
  kQ_rd fun y1 =>
 kQ_call (rfM_added _ _ _) rfl h fun r3 τ2 h =>
 kQ_eq
 (kQ_exit (qfM_laysPath_J386 _ _ _ h))
 (kQ_let fun y4 =>
 kQ_inl h)
theorem qfM_laysPath_B337 (x1 x2 x3 x4 : Int) {σ0 σ : KM} (h : kFr wfM_laysPath σ0 σ) : kQ wfM_laysPath σ0 (Sum.elim (fun s : Int × KM => s.2) (Sum.elim (fun s : Int × Int × KM => s.2.2) Prod.snd)) (fM_laysPath_B337 x1 x2 x3 x4 σ) :=
  kQ_eq
 (qfM_laysPath_J361 _ _ _ _ _ h)
 (kQ_rd fun y1 =>
 kQ_call (rfM_moves _ _ _ _ _) rfl h fun r3 τ2 h =>
 qfM_laysPath_J361 _ _ _ _ _ h)
theorem qfM_laysPath_L337 (x1 x2 x3 x4 : Int) {σ0 σ : KM} (h : kFr wfM_laysPath σ0 σ) : kQ wfM_laysPath σ0 (Sum.elim (fun s : Int × Int × KM => s.2.2) Prod.snd) (fM_laysPath_L337 x1 x2 x3 x4 σ) :=
  kQ_iter (mf := fun s : Int × KM => s.2) (fun s h => qfM_laysPath_B337 x1 x2 x3 s.1 h) kF (x4, σ) h
theorem qfM_laysPath_B326 (x1 x2 x3 : Int) {σ0 σ : KM} (h : kFr wfM_laysPath σ0 σ) : kQ wfM_laysPath σ0 (Sum.elim (fun s : Int × Int × KM => s.2.2) Prod.snd) (fM_laysPath_B326 x1 x2 x3 σ) :=
  kQ_lt
 (qfM_laysPath_L337 _ _ _ _ h)
 (kQ_exit (qfM_laysPath_J426  h))
theorem qfM_laysPath_L326 (x1 x2 x3 : Int) {σ0 σ : KM} (h : kFr wfM_laysPath σ0 σ) : kQ wfM_laysPath σ0 Prod.snd (fM_laysPath_L326 x1 x2 x3 σ) :=
  kQ_iter (mf := fun s : Int × Int × KM => s.2.2) (fun s h => qfM_laysPath_B326 x1 s.1 s.2.1 h) kF (x2, x3, σ) h
theorem qfM_laysPath_J308 (x1 : Int) {σ0 σ : KM} (h : kFr wfM_laysPath σ0 σ) : kQ wfM_laysPath σ0 Prod.snd (fM_laysPath_J308 x1 σ) :=
  kQ_lt
 (kQ_let fun y1 =>
 qfM_laysPath_L326 _ _ _ h)
 (kQ_rz h)
theorem qfM_laysPath_J299 (x1 x2 t0 : Int) {σ0 σ : KM} (h : kFr wfM_laysPath σ0 σ) : kQ wfM_laysPath σ0 (Sum.elim (fun s : Int × KM => s.2) Prod.snd) (fM_laysPath_J299 x1 x2 t0 σ) :=
  kQ_wf rfl h fun τ1 h =>
 kQ_let fun y2 =>
 kQ_inl h
theorem qfM_laysPath_B259 (x1 x2 : Int) {σ0 σ : KM} (h : kFr wfM_laysPath σ0 σ) : kQ wfM_laysPath σ0 (Sum.elim (fun s : Int × KM => s.2) Prod.snd) (fM_laysPath_B259 x1 x2 σ) :=
  kQ_lt
 (kQ_lt
 (kQ_rd fun y1 =>
 kQ_lt
 (kQ_rd fun y2 =>
 qfM_laysPath_J299 _ _ _ h)
 (qfM_laysPath_J299 _ _ _ h))
 (kQ_exit (qfM_laysPath_J308 _ h)))
 (kQ_exit (qfM_laysPath_J308 _ h))
theorem qfM_laysPath_L259 (x1 x2 : Int) {σ0 σ : KM} (h : kFr wfM_laysPath σ0 σ) : kQ wfM_laysPath σ0 Prod.snd (fM_laysPath_L259 x1 x2 σ) :=
  kQ_iter (mf := fun s : Int × KM => s.2) (fun s h => qfM_laysPath_B259 x1 s.1 h) kF (x2, σ) h
theorem qfM_laysPath_J254 (x1 t0 : Int) {σ0 σ : KM} (h : kFr wfM_laysPath σ0 σ) : kQ wfM_laysPath σ0 Prod.snd (fM_laysPath_J254 x1 t0 σ) :=
  kQ_wf rfl h fun τ1 h =>
 qfM_laysPath_L259 _ _ h
theorem qfM_laysPath_J240 (x1 : Int) {σ0 σ : KM} (h : kFr wfM_laysPath σ0 σ) : kQ wfM_laysPath σ0 Prod.snd (fM_laysPath_J240 x1 σ) :=
  kQ_eq
 (qfM_laysPath_J254 _ _ h)
 (qfM_laysPath_J254 _ _ h)
theorem qfM_laysPath_J234 (x1 x2 : Int) {σ0 σ : KM} (h : kFr wfM_laysPath σ0 σ) : kQ wfM_laysPath σ0 (Sum.elim (fun s : Int × KM => s.2) Prod.snd) (fM_laysPath_J234 x1 x2 σ) :=
  kQ_let fun y1 =>
 kQ_inl h
theorem qfM_laysPath_J200 (x1 x2 x3 x4 x5 x6 : Int) {σ0 σ : KM} (h : kFr wfM_laysPath σ0 σ) : kQ wfM_laysPath σ0 (Sum.elim (fun s : Int × KM => s.2) (Sum.elim (fun s : Int × KM => s.2) Prod.snd)) (fM_laysPath_J200 x1 x2 x3 x4 x5 x6 σ) :=
  kQ_rd fun y1 =>
 kQ_call (rfM_added _ _ _) rfl h fun r3 τ2 h =>
 kQ_wr rfl h fun τ4 h =>
 kQ_wr rfl h fun τ5 h =>
 kQ_let fun y6 =>
 kQ_inl h
theorem qfM_laysPath_J194 (x1 x2 x3 x4 x5 x6 x7 : Int) {σ0 σ : KM} (h : kFr wfM_laysPath σ0 σ) : kQ wfM_laysPath σ0 (Sum.elim (fun s : Int × Int × Int × KM => s.2.2.2) (Sum.elim (fun s : Int × KM => s.2) (Sum.elim (fun s : Int × KM => s.2) Prod.snd))) (fM_laysPath_J194 x1 x2 x3 x4 x5 x6 x7 σ) :=
  kQ_let fun y1 =>
 kQ_inl h
theorem qfM_laysPath_J188 (x1 x2 x3 x4 x7 x8 t0 : Int) {σ0 σ : KM} (h : kFr wfM_laysPath σ0 σ) : kQ wfM_laysPath σ0 (Sum.elim (fun s : Int × Int × Int × KM => s.2.2.2) (Sum.elim (fun s : Int × KM => s.2) (Sum.elim (fun s : Int × KM => s.2) Prod.snd))) (fM_laysPath_J188 x1 x2 x3 x4 x7 x8 t0 σ) :=
  qfM_laysPath_J194 _ _ _ _ _ _ _ h
theorem qfM_laysPath_J170 (x1 x2 x3 x4 x7 x8 t0 : Int) {σ0 σ : KM} (h : kFr wfM_laysPath σ0 σ) : kQ wfM_laysPath σ0 (Sum.elim (fun s : Int × Int × Int × KM => s.2.2.2) (Sum.elim (fun s : Int × KM => s.2) (Sum.elim (fun s : Int × KM => s.2) Prod.snd))) (fM_laysPath_J170 x1 x2 x3 x4 x7 x8 t0 σ) :=
  kQ_lt
 (qfM_laysPath_J188 _ _ _ _ _ _ _ h)
 (qfM_laysPath_J188 _ _ _ _ _ _ _ h)
theorem qfM_laysPath_B65 (x1 x2 x3 x4 x5 x6 x7 : Int) {σ0 σ : KM} (h : kFr wfM_laysPath σ0 σ) : kQ wfM_laysPath σ0 (Sum.elim (fun s : Int × Int × Int × KM => s.2.2.2) (Sum.elim (fun s : Int × KM => s.2) (Sum.elim (fun s : Int × KM => s.2) Prod.snd))) (fM_laysPath_B65 x1 x2 x3 x4 x5 x6 x7 σ) :=
  kQ_lt
 (kQ_lt
 (kQ_call (rfM_moves _ _ _ _ _) rfl h fun r2 τ1 h =>
 kQ_rd fun y3 =>
 kQ_call (rfM_added _ _ _) rfl h fun r5 τ4 h =>
 kQ_lt
 (kQ_lt
 (qfM_laysPath_J194 _ _ _ _ _ _ _ h)
 (kQ_lt
 (kQ_rd fun y7 =>
 qfM_laysPath_J170 _ _ _ _ _ _ _ h)
 (kQ_rd fun y6 =>
 qfM_laysPath_J170 _ _ _ _ _ _ _ h)))
 (qfM_laysPath_J194 _ _ _ _ _ _ _ h))
 (kQ_exit (qfM_laysPath_J200 _ _ _ _ _ _ h)))
 (kQ_exit (qfM_laysPath_J200 _ _ _ _ _ _ h))
theorem qfM_laysPath_L65 (x1 x2 x3 x4 x5 x6 x7 : Int) {σ0 σ : KM} (h : kFr wfM_laysPath σ0 σ) : kQ wfM_laysPath σ0 (Sum.elim (fun s : Int × KM => s.2) (Sum.elim (fun s : Int × KM => s.2) Prod.snd)) (fM_laysPath_L65 x1 x2 x3 x4 x5 x6 x7 σ) :=
  kQ_iter (mf := fun s : Int × Int × Int × KM => s.2.2.2) (fun s h => qfM_laysPath_B65 x1 x2 x3 x4 s.1 s.2.1 s.2.2.1 h) kF (x5, x6, x7, σ) h
theorem qfM_laysPath_J60 (x1 x2 x3 x4 x5 t0 : Int) {σ0 σ : KM} (h : kFr wfM_laysPath σ0 σ) : kQ wfM_laysPath σ0 (Sum.elim (fun s : Int × KM => s.2) (Sum.elim (fun s : Int × KM => s.2) Prod.snd)) (fM_laysPath_J60 x1 x2 x3 x4 x5 t0 σ) :=
  qfM_laysPath_L65 _ _ _ _ _ _ _ h
theorem qfM_laysPath_J43 (x1 x2 x3 x4 t0 : Int) {σ0 σ : KM} (h : kFr wfM_laysPath σ0 σ) : kQ wfM_laysPath σ0 (Sum.elim (fun s : Int × KM => s.2) (Sum.elim (fun s : Int × KM => s.2) Prod.snd)) (fM_laysPath_J43 x1 x2 x3 x4 t0 σ) :=
  kQ_eq
 (qfM_laysPath_J60 _ _ _ _ _ _ h)
 (qfM_laysPath_J60 _ _ _ _ _ _ h)
theorem qfM_laysPath_B13 (x1 x2 x3 : Int) {σ0 σ : KM} (h : kFr wfM_laysPath σ0 σ) : kQ wfM_laysPath σ0 (Sum.elim (fun s : Int × KM => s.2) (Sum.elim (fun s : Int × KM => s.2) Prod.snd)) (fM_laysPath_B13 x1 x2 x3 σ) :=
  kQ_lt
 (kQ_let fun y1 =>
 kQ_eq
 (qfM_laysPath_J43 _ _ _ _ _ h)
 (qfM_laysPath_J43 _ _ _ _ _ h))
 (kQ_exit (qfM_laysPath_J234 _ _ h))
theorem qfM_laysPath_L13 (x1 x2 x3 : Int) {σ0 σ : KM} (h : kFr wfM_laysPath σ0 σ) : kQ wfM_laysPath σ0 (Sum.elim (fun s : Int × KM => s.2) Prod.snd) (fM_laysPath_L13 x1 x2 x3 σ) :=
  kQ_iter (mf := fun s : Int × KM => s.2) (fun s h => qfM_laysPath_B13 x1 x2 s.1 h) kF (x3, σ) h
theorem qfM_laysPath_B7 (x1 x2 : Int) {σ0 σ : KM} (h : kFr wfM_laysPath σ0 σ) : kQ wfM_laysPath σ0 (Sum.elim (fun s : Int × KM => s.2) Prod.snd) (fM_laysPath_B7 x1 x2 σ) :=
  kQ_lt
 (kQ_exit (qfM_laysPath_J240 _ h))
 (qfM_laysPath_L13 _ _ _ h)
theorem qfM_laysPath_L7 (x1 x2 : Int) {σ0 σ : KM} (h : kFr wfM_laysPath σ0 σ) : kQ wfM_laysPath σ0 Prod.snd (fM_laysPath_L7 x1 x2 σ) :=
  kQ_iter (mf := fun s : Int × KM => s.2) (fun s h => qfM_laysPath_B7 x1 s.1 h) kF (x2, σ) h
theorem qfM_laysPath (x1 : Int) {σ0 σ : KM} (h : kFr wfM_laysPath σ0 σ) : kQ wfM_laysPath σ0 Prod.snd (fM_laysPath x1 σ) :=
  kQ_let fun y1 =>
 qfM_laysPath_L7 _ _ h
theorem rfM_laysPath (x1 : Int) (σ : KM) : kQ wfM_laysPath σ Prod.snd (fM_laysPath x1 σ) := qfM_laysPath x1 kFr.rf
abbrev wfM_hasPath : List (Nat × Option Int) := [(10, some 27), (10, some 37), (10, some 38), (55, none), (56, none), (57, none), (58, none), (59, none), (61, none), (62, none), (63, none), (64, none)]
theorem qfM_hasPath {σ0 σ : KM} (h : kFr wfM_hasPath σ0 σ) : kQ wfM_hasPath σ0 Prod.snd (fM_hasPath σ) :=
  kQ_call (rfM_laysOwn _) rfl h fun _ τ1 h =>
 kQ_call (rfM_laysPath _ _) rfl h fun r3 τ2 h =>
 kQ_rz h
theorem rfM_hasPath (σ : KM) : kQ wfM_hasPath σ Prod.snd (fM_hasPath σ) := qfM_hasPath  kFr.rf
abbrev wfM_degreeOf : List (Nat × Option Int) := []
theorem qfM_degreeOf_J234 (t0 : Int) {σ0 σ : KM} (h : kFr wfM_degreeOf σ0 σ) : kQ wfM_degreeOf σ0 Prod.snd (fM_degreeOf_J234 t0 σ) :=
  kQ_ri h
theorem qfM_degreeOf_J300 {σ0 σ : KM} (h : kFr wfM_degreeOf σ0 σ) : kQ wfM_degreeOf σ0 Prod.snd (fM_degreeOf_J300 σ) :=
  kQ_ri h
theorem qfM_degreeOf_J245 (t0 : Int) {σ0 σ : KM} (h : kFr wfM_degreeOf σ0 σ) : kQ wfM_degreeOf σ0 Prod.snd (fM_degreeOf_J245 t0 σ) :=
  kQ_ri h
theorem qfM_degreeOf_J255 (t0 : Int) {σ0 σ : KM} (h : kFr wfM_degreeOf σ0 σ) : kQ wfM_degreeOf σ0 Prod.snd (fM_degreeOf_J255 t0 σ) :=
  kQ_ri h
theorem qfM_degreeOf_J266 (t0 : Int) {σ0 σ : KM} (h : kFr wfM_degreeOf σ0 σ) : kQ wfM_degreeOf σ0 Prod.snd (fM_degreeOf_J266 t0 σ) :=
  kQ_ri h
theorem qfM_degreeOf_J277 (t0 : Int) {σ0 σ : KM} (h : kFr wfM_degreeOf σ0 σ) : kQ wfM_degreeOf σ0 Prod.snd (fM_degreeOf_J277 t0 σ) :=
  kQ_ri h
theorem qfM_degreeOf_J288 (t0 : Int) {σ0 σ : KM} (h : kFr wfM_degreeOf σ0 σ) : kQ wfM_degreeOf σ0 Prod.snd (fM_degreeOf_J288 t0 σ) :=
  kQ_ri h
theorem qfM_degreeOf_J299 (t0 : Int) {σ0 σ : KM} (h : kFr wfM_degreeOf σ0 σ) : kQ wfM_degreeOf σ0 Prod.snd (fM_degreeOf_J299 t0 σ) :=
  kQ_ri h
theorem qfM_degreeOf_J97 (t0 : Int) {σ0 σ : KM} (h : kFr wfM_degreeOf σ0 σ) : kQ wfM_degreeOf σ0 Prod.snd (fM_degreeOf_J97 t0 σ) :=
  kQ_ri h
theorem qfM_degreeOf_J164 {σ0 σ : KM} (h : kFr wfM_degreeOf σ0 σ) : kQ wfM_degreeOf σ0 Prod.snd (fM_degreeOf_J164 σ) :=
  kQ_ri h
theorem qfM_degreeOf_J108 (t0 : Int) {σ0 σ : KM} (h : kFr wfM_degreeOf σ0 σ) : kQ wfM_degreeOf σ0 Prod.snd (fM_degreeOf_J108 t0 σ) :=
  kQ_ri h
theorem qfM_degreeOf_J119 (t0 : Int) {σ0 σ : KM} (h : kFr wfM_degreeOf σ0 σ) : kQ wfM_degreeOf σ0 Prod.snd (fM_degreeOf_J119 t0 σ) :=
  kQ_ri h
theorem qfM_degreeOf_J129 (t0 : Int) {σ0 σ : KM} (h : kFr wfM_degreeOf σ0 σ) : kQ wfM_degreeOf σ0 Prod.snd (fM_degreeOf_J129 t0 σ) :=
  kQ_ri h
theorem qfM_degreeOf_J139 (t0 : Int) {σ0 σ : KM} (h : kFr wfM_degreeOf σ0 σ) : kQ wfM_degreeOf σ0 Prod.snd (fM_degreeOf_J139 t0 σ) :=
  kQ_ri h
theorem qfM_degreeOf_J151 (t0 : Int) {σ0 σ : KM} (h : kFr wfM_degreeOf σ0 σ) : kQ wfM_degreeOf σ0 Prod.snd (fM_degreeOf_J151 t0 σ) :=
  kQ_ri h
theorem qfM_degreeOf_J163 (t0 : Int) {σ0 σ : KM} (h : kFr wfM_degreeOf σ0 σ) : kQ wfM_degreeOf σ0 Prod.snd (fM_degreeOf_J163 t0 σ) :=
  kQ_ri h
theorem qfM_degreeOf (x0 x1 : Int) {σ0 σ : KM} (h : kFr wfM_degreeOf σ0 σ) : kQ wfM_degreeOf σ0 Prod.snd (fM_degreeOf x0 x1 σ) :=
  kQ_dv fun y1 =>
 kQ_rm fun y2 =>
 kQ_rm fun y3 =>
 kQ_rm fun y4 =>
 kQ_lt
 (kQ_sw (kA_cons (kQ_eq
 (qfM_degreeOf_J97 _ h)
 (qfM_degreeOf_J97 _ h)) (kA_cons (qfM_degreeOf_J164  h) (kA_cons (kQ_eq
 (qfM_degreeOf_J108 _ h)
 (qfM_degreeOf_J108 _ h)) (kA_cons (qfM_degreeOf_J164  h) (kA_cons (kQ_eq
 (qfM_degreeOf_J119 _ h)
 (qfM_degreeOf_J119 _ h)) (kA_cons (kQ_eq
 (qfM_degreeOf_J129 _ h)
 (qfM_degreeOf_J129 _ h)) (kA_cons (qfM_degreeOf_J164  h) (kA_cons (kQ_eq
 (qfM_degreeOf_J139 _ h)
 (qfM_degreeOf_J139 _ h)) (kA_cons (qfM_degreeOf_J164  h) (kA_cons (kQ_eq
 (qfM_degreeOf_J151 _ h)
 (qfM_degreeOf_J151 _ h)) (kA_cons (qfM_degreeOf_J164  h) (kA_cons (kQ_eq
 (qfM_degreeOf_J163 _ h)
 (qfM_degreeOf_J163 _ h)) (kA_nil))))))))))))) (qfM_degreeOf_J164  h))
 (kQ_sw (kA_cons (kQ_eq
 (qfM_degreeOf_J234 _ h)
 (qfM_degreeOf_J234 _ h)) (kA_cons (qfM_degreeOf_J300  h) (kA_cons (kQ_eq
 (qfM_degreeOf_J245 _ h)
 (qfM_degreeOf_J245 _ h)) (kA_cons (kQ_eq
 (qfM_degreeOf_J255 _ h)
 (qfM_degreeOf_J255 _ h)) (kA_cons (qfM_degreeOf_J300  h) (kA_cons (kQ_eq
 (qfM_degreeOf_J266 _ h)
 (qfM_degreeOf_J266 _ h)) (kA_cons (qfM_degreeOf_J300  h) (kA_cons (kQ_lt
 (qfM_degreeOf_J277 _ h)
 (qfM_degreeOf_J277 _ h)) (kA_cons (kQ_eq
 (qfM_degreeOf_J288 _ h)
 (qfM_degreeOf_J288 _ h)) (kA_cons (qfM_degreeOf_J300  h) (kA_cons (kQ_eq
 (qfM_degreeOf_J299 _ h)
 (qfM_degreeOf_J299 _ h)) (kA_nil)))))))))))) (qfM_degreeOf_J300  h))
theorem rfM_degreeOf (x0 x1 : Int) (σ : KM) : kQ wfM_degreeOf σ Prod.snd (fM_degreeOf x0 x1 σ) := qfM_degreeOf x0 x1 kFr.rf
abbrev wfM_close : List (Nat × Option Int) := [(10, some 0), (10, some 27), (10, some 37), (10, some 38), (55, none), (56, none), (57, none), (58, none), (59, none), (61, none), (62, none), (63, none), (64, none)]
theorem qfM_close_J146 (t0 : Int) {σ0 σ : KM} (h : kFr wfM_close σ0 σ) : kQ wfM_close σ0 Prod.snd (fM_close_J146 t0 σ) :=
  kQ_ri h
theorem qfM_close_J132 (x2 x3 : Int) {σ0 σ : KM} (h : kFr wfM_close σ0 σ) : kQ wfM_close σ0 Prod.snd (fM_close_J132 x2 x3 σ) :=
  kQ_call (rfM_degreeOf _ _ _) rfl h fun r2 τ1 h =>
 kQ_eq
 (qfM_close_J146 _ h)
 (qfM_close_J146 _ h)
theorem qfM_close_J105 (x2 x3 x4 : Int) {σ0 σ : KM} (h : kFr wfM_close σ0 σ) : kQ wfM_close σ0 Prod.snd (fM_close_J105 x2 x3 x4 σ) :=
  kQ_call (rfM_degreeOf _ _ _) rfl h fun r2 τ1 h =>
 kQ_eq
 (kQ_eq
 (qfM_close_J132 _ _ h)
 (kQ_call (rfM_degreeOf _ _ _) rfl h fun r4 τ3 h =>
 kQ_eq
 (kQ_ri h)
 (qfM_close_J132 _ _ h)))
 (qfM_close_J132 _ _ h)
theorem qfM_close_J100 (x1 x2 x3 t0 : Int) {σ0 σ : KM} (h : kFr wfM_close σ0 σ) : kQ wfM_close σ0 (Sum.elim (fun s : Int × Int × KM => s.2.2) Prod.snd) (fM_close_J100 x1 x2 x3 t0 σ) :=
  kQ_inl h
theorem qfM_close_B67 (x2 x3 x1 x4 : Int) {σ0 σ : KM} (h : kFr wfM_close σ0 σ) : kQ wfM_close σ0 (Sum.elim (fun s : Int × Int × KM => s.2.2) Prod.snd) (fM_close_B67 x2 x3 x1 x4 σ) :=
  kQ_lt
 (kQ_eq
 (kQ_let fun y1 =>
 kQ_call (rfM_countedIn _ _) rfl h fun _ τ2 h =>
 kQ_eq
 (qfM_close_J100 _ _ _ _ h)
 (kQ_call (rfM_chordNow _) rfl h fun r4 τ3 h =>
 qfM_close_J100 _ _ _ _ h))
 (kQ_exit (qfM_close_J105 _ _ _ h)))
 (kQ_exit (qfM_close_J105 _ _ _ h))
theorem qfM_close_L67 (x2 x3 x1 x4 : Int) {σ0 σ : KM} (h : kFr wfM_close σ0 σ) : kQ wfM_close σ0 Prod.snd (fM_close_L67 x2 x3 x1 x4 σ) :=
  kQ_iter (mf := fun s : Int × Int × KM => s.2.2) (fun s h => qfM_close_B67 x2 x3 s.1 s.2.1 h) kF (x1, x4, σ) h
theorem qfM_close_J41 (x1 : Int) {σ0 σ : KM} (h : kFr wfM_close σ0 σ) : kQ wfM_close σ0 Prod.snd (fM_close_J41 x1 σ) :=
  kQ_lt
 (kQ_ri h)
 (kQ_call (rfM_countedIn _ _) rfl h fun _ τ1 h =>
 kQ_call (rfM_chordNow _) rfl h fun r3 τ2 h =>
 kQ_rd fun y4 =>
 qfM_close_L67 _ _ _ _ h)
theorem qfM_close_B22 (x1 : Int) {σ0 σ : KM} (h : kFr wfM_close σ0 σ) : kQ wfM_close σ0 (Sum.elim (fun s : Int × KM => s.2) Prod.snd) (fM_close_B22 x1 σ) :=
  kQ_lt
 (kQ_exit (qfM_close_J41 _ h))
 (kQ_rd fun y1 =>
 kQ_eq
 (kQ_exit (qfM_close_J41 _ h))
 (kQ_let fun y2 =>
 kQ_inl h))
theorem qfM_close_L22 (x1 : Int) {σ0 σ : KM} (h : kFr wfM_close σ0 σ) : kQ wfM_close σ0 Prod.snd (fM_close_L22 x1 σ) :=
  kQ_iter (mf := fun s : Int × KM => s.2) (fun s h => qfM_close_B22 s.1 h) kF (x1, σ) h
theorem qfM_close {σ0 σ : KM} (h : kFr wfM_close σ0 σ) : kQ wfM_close σ0 Prod.snd (fM_close σ) :=
  kQ_wf rfl h fun τ1 h =>
 kQ_call (rfM_hasPath _) rfl h fun r3 τ2 h =>
 kQ_eq
 (kQ_ri h)
 (kQ_let fun y4 =>
 qfM_close_L22 _ h)
theorem rfM_close (σ : KM) : kQ wfM_close σ Prod.snd (fM_close σ) := qfM_close  kFr.rf
abbrev wfM_segmentsNow : List (Nat × Option Int) := []
theorem qfM_segmentsNow_J54 (x1 : Int) {σ0 σ : KM} (h : kFr wfM_segmentsNow σ0 σ) : kQ wfM_segmentsNow σ0 Prod.snd (fM_segmentsNow_J54 x1 σ) :=
  kQ_ri h
theorem qfM_segmentsNow_J46 (x2 t0 t1 : Int) {σ0 σ : KM} (h : kFr wfM_segmentsNow σ0 σ) : kQ wfM_segmentsNow σ0 (Sum.elim (fun s : Int × Int × KM => s.2.2) Prod.snd) (fM_segmentsNow_J46 x2 t0 t1 σ) :=
  kQ_let fun y1 =>
 kQ_let fun y2 =>
 kQ_inl h
theorem qfM_segmentsNow_B15 (x1 x2 : Int) {σ0 σ : KM} (h : kFr wfM_segmentsNow σ0 σ) : kQ wfM_segmentsNow σ0 (Sum.elim (fun s : Int × Int × KM => s.2.2) Prod.snd) (fM_segmentsNow_B15 x1 x2 σ) :=
  kQ_lt
 (kQ_rd fun y1 =>
 kQ_rd fun y2 =>
 kQ_eq
 (qfM_segmentsNow_J46 _ _ _ h)
 (qfM_segmentsNow_J46 _ _ _ h))
 (kQ_exit (qfM_segmentsNow_J54 _ h))
theorem qfM_segmentsNow_L15 (x1 x2 : Int) {σ0 σ : KM} (h : kFr wfM_segmentsNow σ0 σ) : kQ wfM_segmentsNow σ0 Prod.snd (fM_segmentsNow_L15 x1 x2 σ) :=
  kQ_iter (mf := fun s : Int × Int × KM => s.2.2) (fun s h => qfM_segmentsNow_B15 s.1 s.2.1 h) kF (x1, x2, σ) h
theorem qfM_segmentsNow_J12 (t0 : Int) {σ0 σ : KM} (h : kFr wfM_segmentsNow σ0 σ) : kQ wfM_segmentsNow σ0 Prod.snd (fM_segmentsNow_J12 t0 σ) :=
  qfM_segmentsNow_L15 _ _ h
theorem qfM_segmentsNow {σ0 σ : KM} (h : kFr wfM_segmentsNow σ0 σ) : kQ wfM_segmentsNow σ0 Prod.snd (fM_segmentsNow σ) :=
  kQ_eq
 (qfM_segmentsNow_J12 _ h)
 (qfM_segmentsNow_J12 _ h)
theorem rfM_segmentsNow (σ : KM) : kQ wfM_segmentsNow σ Prod.snd (fM_segmentsNow σ) := qfM_segmentsNow  kFr.rf
abbrev wfM_firstOf : List (Nat × Option Int) := []
theorem qfM_firstOf_J50 (x3 : Int) {σ0 σ : KM} (h : kFr wfM_firstOf σ0 σ) : kQ wfM_firstOf σ0 Prod.snd (fM_firstOf_J50 x3 σ) :=
  kQ_ri h
theorem qfM_firstOf_J44 (x2 x3 : Int) {σ0 σ : KM} (h : kFr wfM_firstOf σ0 σ) : kQ wfM_firstOf σ0 (Sum.elim (fun s : Int × Int × KM => s.2.2) Prod.snd) (fM_firstOf_J44 x2 x3 σ) :=
  kQ_let fun y1 =>
 kQ_inl h
theorem qfM_firstOf_B4 (x2 x3 : Int) {σ0 σ : KM} (h : kFr wfM_firstOf σ0 σ) : kQ wfM_firstOf σ0 (Sum.elim (fun s : Int × Int × KM => s.2.2) Prod.snd) (fM_firstOf_B4 x2 x3 σ) :=
  kQ_lt
 (kQ_lt
 (kQ_let fun y1 =>
 kQ_eq
 (qfM_firstOf_J44 _ _ h)
 (kQ_rd fun y2 =>
 kQ_rd fun y3 =>
 kQ_eq
 (kQ_inl h)
 (qfM_firstOf_J44 _ _ h)))
 (kQ_exit (qfM_firstOf_J50 _ h)))
 (kQ_exit (qfM_firstOf_J50 _ h))
theorem qfM_firstOf_L4 (x2 x3 : Int) {σ0 σ : KM} (h : kFr wfM_firstOf σ0 σ) : kQ wfM_firstOf σ0 Prod.snd (fM_firstOf_L4 x2 x3 σ) :=
  kQ_iter (mf := fun s : Int × Int × KM => s.2.2) (fun s h => qfM_firstOf_B4 s.1 s.2.1 h) kF (x2, x3, σ) h
theorem qfM_firstOf (x1 : Int) {σ0 σ : KM} (h : kFr wfM_firstOf σ0 σ) : kQ wfM_firstOf σ0 Prod.snd (fM_firstOf x1 σ) :=
  qfM_firstOf_L4 _ _ h
theorem rfM_firstOf (x1 : Int) (σ : KM) : kQ wfM_firstOf σ Prod.snd (fM_firstOf x1 σ) := qfM_firstOf x1 kFr.rf
abbrev wfM_romanNow : List (Nat × Option Int) := [(10, some 27), (55, none)]
theorem qfM_romanNow_J29 (t0 : Int) {σ0 σ : KM} (h : kFr wfM_romanNow σ0 σ) : kQ wfM_romanNow σ0 Prod.snd (fM_romanNow_J29 t0 σ) :=
  kQ_ri h
theorem qfM_romanNow (x1 : Int) {σ0 σ : KM} (h : kFr wfM_romanNow σ0 σ) : kQ wfM_romanNow σ0 Prod.snd (fM_romanNow x1 σ) :=
  kQ_call (rfM_countedIn _ _) rfl h fun _ τ1 h =>
 kQ_eq
 (qfM_romanNow_J29 _ h)
 (kQ_call (rfM_chordNow _) rfl h fun r3 τ2 h =>
 kQ_rd fun y4 =>
 kQ_call (rfM_degreeOf _ _ _) rfl h fun r6 τ5 h =>
 qfM_romanNow_J29 _ h)
theorem rfM_romanNow (x1 : Int) (σ : KM) : kQ wfM_romanNow σ Prod.snd (fM_romanNow x1 σ) := qfM_romanNow x1 kFr.rf
abbrev wfM_isBehindFifth : List (Nat × Option Int) := [(10, some 27), (55, none)]
theorem qfM_isBehindFifth_J72 {σ0 σ : KM} (h : kFr wfM_isBehindFifth σ0 σ) : kQ wfM_isBehindFifth σ0 Prod.snd (fM_isBehindFifth_J72 σ) :=
  kQ_rz h
theorem qfM_isBehindFifth_J66 (x1 x3 x4 : Int) {σ0 σ : KM} (h : kFr wfM_isBehindFifth σ0 σ) : kQ wfM_isBehindFifth σ0 (Sum.elim (fun s : Int × KM => s.2) Prod.snd) (fM_isBehindFifth_J66 x1 x3 x4 σ) :=
  kQ_let fun y1 =>
 kQ_inl h
theorem qfM_isBehindFifth_J65 (t0 : Int) {σ0 σ : KM} (h : kFr wfM_isBehindFifth σ0 σ) : kQ wfM_isBehindFifth σ0 Prod.snd (fM_isBehindFifth_J65 t0 σ) :=
  kQ_rz h
theorem qfM_isBehindFifth_J42 (x4 : Int) {σ0 σ : KM} (h : kFr wfM_isBehindFifth σ0 σ) : kQ wfM_isBehindFifth σ0 Prod.snd (fM_isBehindFifth_J42 x4 σ) :=
  kQ_call (rfM_chordNow _) rfl h fun r2 τ1 h =>
 kQ_rd fun y3 =>
 kQ_call (rfM_degreeOf _ _ _) rfl h fun r5 τ4 h =>
 kQ_eq
 (qfM_isBehindFifth_J65 _ h)
 (qfM_isBehindFifth_J65 _ h)
theorem qfM_isBehindFifth_B15 (x1 x3 x4 : Int) {σ0 σ : KM} (h : kFr wfM_isBehindFifth σ0 σ) : kQ wfM_isBehindFifth σ0 (Sum.elim (fun s : Int × KM => s.2) Prod.snd) (fM_isBehindFifth_B15 x1 x3 x4 σ) :=
  kQ_lt
 (kQ_exit (qfM_isBehindFifth_J72  h))
 (kQ_call (rfM_countedIn _ _) rfl h fun _ τ1 h =>
 kQ_lt
 (kQ_call (rfM_chordNow _) rfl h fun r3 τ2 h =>
 kQ_eq
 (qfM_isBehindFifth_J66 _ _ _ h)
 (kQ_exit (qfM_isBehindFifth_J42 _ h)))
 (qfM_isBehindFifth_J66 _ _ _ h))
theorem qfM_isBehindFifth_L15 (x1 x3 x4 : Int) {σ0 σ : KM} (h : kFr wfM_isBehindFifth σ0 σ) : kQ wfM_isBehindFifth σ0 Prod.snd (fM_isBehindFifth_L15 x1 x3 x4 σ) :=
  kQ_iter (mf := fun s : Int × KM => s.2) (fun s h => qfM_isBehindFifth_B15 x1 x3 s.1 h) kF (x4, σ) h
theorem qfM_isBehindFifth (x1 x2 : Int) {σ0 σ : KM} (h : kFr wfM_isBehindFifth σ0 σ) : kQ wfM_isBehindFifth σ0 Prod.snd (fM_isBehindFifth x1 x2 σ) :=
  kQ_call (rfM_countedIn _ _) rfl h fun _ τ1 h =>
 kQ_call (rfM_chordNow _) rfl h fun r3 τ2 h =>
 kQ_let fun y4 =>
 qfM_isBehindFifth_L15 _ _ _ h
theorem rfM_isBehindFifth (x1 x2 : Int) (σ : KM) : kQ wfM_isBehindFifth σ Prod.snd (fM_isBehindFifth x1 x2 σ) := qfM_isBehindFifth x1 x2 kFr.rf
abbrev wfM_confirmed : List (Nat × Option Int) := [(10, some 0), (10, some 27), (10, some 37), (10, some 38), (55, none), (56, none), (57, none), (58, none), (59, none), (61, none), (62, none), (63, none), (64, none)]
theorem qfM_confirmed_J86 {σ0 σ : KM} (h : kFr wfM_confirmed σ0 σ) : kQ wfM_confirmed σ0 Prod.snd (fM_confirmed_J86 σ) :=
  kQ_ri h
theorem qfM_confirmed_J80 (x2 x3 x4 : Int) {σ0 σ : KM} (h : kFr wfM_confirmed σ0 σ) : kQ wfM_confirmed σ0 (Sum.elim (fun s : Int × KM => s.2) Prod.snd) (fM_confirmed_J80 x2 x3 x4 σ) :=
  kQ_let fun y1 =>
 kQ_inl h
theorem qfM_confirmed_J77 (x4 : Int) {σ0 σ : KM} (h : kFr wfM_confirmed σ0 σ) : kQ wfM_confirmed σ0 Prod.snd (fM_confirmed_J77 x4 σ) :=
  kQ_ri h
theorem qfM_confirmed_B51 (x2 x3 x4 : Int) {σ0 σ : KM} (h : kFr wfM_confirmed σ0 σ) : kQ wfM_confirmed σ0 (Sum.elim (fun s : Int × KM => s.2) Prod.snd) (fM_confirmed_B51 x2 x3 x4 σ) :=
  kQ_lt
 (kQ_call (rfM_romanNow _ _) rfl h fun r2 τ1 h =>
 kQ_eq
 (kQ_call (rfM_isBehindFifth _ _ _) rfl h fun r4 τ3 h =>
 kQ_eq
 (qfM_confirmed_J80 _ _ _ h)
 (kQ_exit (qfM_confirmed_J77 _ h)))
 (qfM_confirmed_J80 _ _ _ h))
 (kQ_exit (qfM_confirmed_J86  h))
theorem qfM_confirmed_L51 (x2 x3 x4 : Int) {σ0 σ : KM} (h : kFr wfM_confirmed σ0 σ) : kQ wfM_confirmed σ0 Prod.snd (fM_confirmed_L51 x2 x3 x4 σ) :=
  kQ_iter (mf := fun s : Int × KM => s.2) (fun s h => qfM_confirmed_B51 x2 x3 s.1 h) kF (x4, σ) h
theorem qfM_confirmed (x1 : Int) {σ0 σ : KM} (h : kFr wfM_confirmed σ0 σ) : kQ wfM_confirmed σ0 Prod.snd (fM_confirmed x1 σ) :=
  kQ_wf rfl h fun τ1 h =>
 kQ_call (rfM_hasPath _) rfl h fun r3 τ2 h =>
 kQ_eq
 (kQ_ri h)
 (kQ_ck <|
 kQ_call (rfM_segmentsNow _) rfl h fun r5 τ4 h =>
 kQ_ck <|
 kQ_call (rfM_isIn _ _ _ _) rfl h fun r7 τ6 h =>
 kQ_eq
 (kQ_ri h)
 (kQ_call (rfM_firstOf _ _) rfl h fun r9 τ8 h =>
 kQ_call (rfM_firstOf _ _) rfl h fun r11 τ10 h =>
 qfM_confirmed_L51 _ _ _ h))
theorem rfM_confirmed (x1 : Int) (σ : KM) : kQ wfM_confirmed σ Prod.snd (fM_confirmed x1 σ) := qfM_confirmed x1 kFr.rf
abbrev wfM_cost : List (Nat × Option Int) := [(10, some 0), (10, some 27), (10, some 37), (10, some 38), (55, none), (56, none), (57, none), (58, none), (59, none), (61, none), (62, none), (63, none), (64, none)]
theorem qfM_cost_J21 (t0 : Int) {σ0 σ : KM} (h : kFr wfM_cost σ0 σ) : kQ wfM_cost σ0 Prod.snd (fM_cost_J21 t0 σ) :=
  kQ_ri h
theorem qfM_cost {σ0 σ : KM} (h : kFr wfM_cost σ0 σ) : kQ wfM_cost σ0 Prod.snd (fM_cost σ) :=
  kQ_wf rfl h fun τ1 h =>
 kQ_call (rfM_hasPath _) rfl h fun r3 τ2 h =>
 kQ_eq
 (qfM_cost_J21 _ h)
 (qfM_cost_J21 _ h)
theorem rfM_cost (σ : KM) : kQ wfM_cost σ Prod.snd (fM_cost σ) := qfM_cost  kFr.rf
abbrev wfM_count : List (Nat × Option Int) := [(10, some 0), (10, some 27), (55, none)]
theorem qfM_count_J141 (x2 : Int) {σ0 σ : KM} (h : kFr wfM_count σ0 σ) : kQ wfM_count σ0 Prod.snd (fM_count_J141 x2 σ) :=
  kQ_ri h
theorem qfM_count_J133 (x3 t0 t1 : Int) {σ0 σ : KM} (h : kFr wfM_count σ0 σ) : kQ wfM_count σ0 (Sum.elim (fun s : Int × Int × KM => s.2.2) Prod.snd) (fM_count_J133 x3 t0 t1 σ) :=
  kQ_let fun y1 =>
 kQ_let fun y2 =>
 kQ_inl h
theorem qfM_count_B107 (x2 x3 : Int) {σ0 σ : KM} (h : kFr wfM_count σ0 σ) : kQ wfM_count σ0 (Sum.elim (fun s : Int × Int × KM => s.2.2) Prod.snd) (fM_count_B107 x2 x3 σ) :=
  kQ_call (rfM_windowMany _) rfl h fun r2 τ1 h =>
 kQ_lt
 (kQ_call (rfM_countedIn _ _) rfl h fun _ τ3 h =>
 kQ_eq
 (qfM_count_J133 _ _ _ h)
 (qfM_count_J133 _ _ _ h))
 (kQ_exit (qfM_count_J141 _ h))
theorem qfM_count_L107 (x2 x3 : Int) {σ0 σ : KM} (h : kFr wfM_count σ0 σ) : kQ wfM_count σ0 Prod.snd (fM_count_L107 x2 x3 σ) :=
  kQ_iter (mf := fun s : Int × Int × KM => s.2.2) (fun s h => qfM_count_B107 s.1 s.2.1 h) kF (x2, x3, σ) h
theorem qfM_count (x1 : Int) {σ0 σ : KM} (h : kFr wfM_count σ0 σ) : kQ wfM_count σ0 Prod.snd (fM_count x1 σ) :=
  kQ_wf rfl h fun τ1 h =>
 kQ_sw (kA_cons (kQ_ri h) (kA_cons (kQ_call (rfM_windowMany _) rfl h fun r3 τ2 h =>
 kQ_ri h) (kA_cons (kQ_call (rfM_theEnd _) rfl h fun r5 τ4 h =>
 kQ_ri h) (kA_cons (kQ_ri h) (kA_cons (kQ_ri h) (kA_cons (kQ_ri h) (kA_cons (kQ_ri h) (kA_cons (qfM_count_L107 _ _ h) (kA_cons (kQ_ri h) (kA_cons (kQ_ri h) (kA_cons (kQ_ri h) (kA_cons (kQ_ri h) (kA_nil))))))))))))) (kQ_ri h)
theorem rfM_count (x1 : Int) (σ : KM) : kQ wfM_count σ Prod.snd (fM_count x1 σ) := qfM_count x1 kFr.rf
abbrev wfM_isTriad : List (Nat × Option Int) := []
theorem qfM_isTriad (x0 : Int) {σ0 σ : KM} (h : kFr wfM_isTriad σ0 σ) : kQ wfM_isTriad σ0 Prod.snd (fM_isTriad x0 σ) :=
  kQ_ck <|
 kQ_call (rfM_isIn _ _ _ _) rfl h fun r2 τ1 h =>
 kQ_rz h
theorem rfM_isTriad (x0 : Int) (σ : KM) : kQ wfM_isTriad σ Prod.snd (fM_isTriad x0 σ) := qfM_isTriad x0 kFr.rf
abbrev wfM_isKey : List (Nat × Option Int) := []
theorem qfM_isKey (x0 : Int) {σ0 σ : KM} (h : kFr wfM_isKey σ0 σ) : kQ wfM_isKey σ0 Prod.snd (fM_isKey x0 σ) :=
  kQ_ck <|
 kQ_call (rfM_isIn _ _ _ _) rfl h fun r2 τ1 h =>
 kQ_rz h
theorem rfM_isKey (x0 : Int) (σ : KM) : kQ wfM_isKey σ Prod.snd (fM_isKey x0 σ) := qfM_isKey x0 kFr.rf
abbrev wfM_degree : List (Nat × Option Int) := [(10, some 0)]
theorem qfM_degree_J29 (t0 : Int) {σ0 σ : KM} (h : kFr wfM_degree σ0 σ) : kQ wfM_degree σ0 Prod.snd (fM_degree_J29 t0 σ) :=
  kQ_ri h
theorem qfM_degree_J27 {σ0 σ : KM} (h : kFr wfM_degree σ0 σ) : kQ wfM_degree σ0 Prod.snd (fM_degree_J27 σ) :=
  qfM_degree_J29 _ h
theorem qfM_degree (x1 x2 : Int) {σ0 σ : KM} (h : kFr wfM_degree σ0 σ) : kQ wfM_degree σ0 Prod.snd (fM_degree x1 x2 σ) :=
  kQ_wf rfl h fun τ1 h =>
 kQ_call (rfM_isTriad _ _) rfl h fun r3 τ2 h =>
 kQ_eq
 (qfM_degree_J27  h)
 (kQ_call (rfM_isKey _ _) rfl h fun r5 τ4 h =>
 kQ_eq
 (qfM_degree_J27  h)
 (kQ_call (rfM_degreeOf _ _ _) rfl h fun r7 τ6 h =>
 qfM_degree_J29 _ h))
theorem rfM_degree (x1 x2 : Int) (σ : KM) : kQ wfM_degree σ Prod.snd (fM_degree x1 x2 σ) := qfM_degree x1 x2 kFr.rf
abbrev wfM_distance : List (Nat × Option Int) := [(10, some 0), (56, none), (57, none)]
theorem qfM_distance_J19 {σ0 σ : KM} (h : kFr wfM_distance σ0 σ) : kQ wfM_distance σ0 Prod.snd (fM_distance_J19 σ) :=
  kQ_ri h
theorem qfM_distance (x1 x2 : Int) {σ0 σ : KM} (h : kFr wfM_distance σ0 σ) : kQ wfM_distance σ0 Prod.snd (fM_distance x1 x2 σ) :=
  kQ_wf rfl h fun τ1 h =>
 kQ_call (rfM_isKey _ _) rfl h fun r3 τ2 h =>
 kQ_eq
 (qfM_distance_J19  h)
 (kQ_call (rfM_isKey _ _) rfl h fun r5 τ4 h =>
 kQ_eq
 (qfM_distance_J19  h)
 (kQ_call (rfM_laysFar _ _) rfl h fun _ τ6 h =>
 kQ_rd fun y7 =>
 kQ_ri h))
theorem rfM_distance (x1 x2 : Int) (σ : KM) : kQ wfM_distance σ Prod.snd (fM_distance x1 x2 σ) := qfM_distance x1 x2 kFr.rf
abbrev wfM_isNote : List (Nat × Option Int) := []
theorem qfM_isNote (x1 : Int) {σ0 σ : KM} (h : kFr wfM_isNote σ0 σ) : kQ wfM_isNote σ0 Prod.snd (fM_isNote x1 σ) :=
  kQ_ck <|
 kQ_ck <|
 kQ_call (rfM_isIn _ _ _ _) rfl h fun r2 τ1 h =>
 kQ_rz h
theorem rfM_isNote (x1 : Int) (σ : KM) : kQ wfM_isNote σ Prod.snd (fM_isNote x1 σ) := qfM_isNote x1 kFr.rf
abbrev wfM_notesAct : List (Nat × Option Int) := [(10, some 10), (51, none)]
theorem qfM_notesAct_J134 {σ0 σ : KM} (h : kFr wfM_notesAct σ0 σ) : kQ wfM_notesAct σ0 Prod.snd (fM_notesAct_J134 σ) :=
  kQ_wf rfl h fun τ1 h =>
 kQ_ri h
theorem qfM_notesAct_B71 (x1 x2 : Int) {σ0 σ : KM} (h : kFr wfM_notesAct σ0 σ) : kQ wfM_notesAct σ0 (Sum.elim (fun s : Int × KM => s.2) Prod.snd) (fM_notesAct_B71 x1 x2 σ) :=
  kQ_lt
 (kQ_rd fun y1 =>
 kQ_wr rfl h fun τ2 h =>
 kQ_rd fun y3 =>
 kQ_wr rfl h fun τ4 h =>
 kQ_rd fun y5 =>
 kQ_wr rfl h fun τ6 h =>
 kQ_let fun y7 =>
 kQ_inl h)
 (kQ_exit (qfM_notesAct_J134  h))
theorem qfM_notesAct_L71 (x1 x2 : Int) {σ0 σ : KM} (h : kFr wfM_notesAct σ0 σ) : kQ wfM_notesAct σ0 Prod.snd (fM_notesAct_L71 x1 x2 σ) :=
  kQ_iter (mf := fun s : Int × KM => s.2) (fun s h => qfM_notesAct_B71 x1 s.1 h) kF (x2, σ) h
theorem qfM_notesAct_J50 {σ0 σ : KM} (h : kFr wfM_notesAct σ0 σ) : kQ wfM_notesAct σ0 Prod.snd (fM_notesAct_J50 σ) :=
  kQ_let fun y1 =>
 kQ_wr rfl h fun τ2 h =>
 qfM_notesAct_L71 _ _ h
theorem qfM_notesAct_J40 {σ0 σ : KM} (h : kFr wfM_notesAct σ0 σ) : kQ wfM_notesAct σ0 Prod.snd (fM_notesAct_J40 σ) :=
  kQ_wf rfl h fun τ1 h =>
 qfM_notesAct_J50  h
theorem qfM_notesAct_B11 (x1 : Int) {σ0 σ : KM} (h : kFr wfM_notesAct σ0 σ) : kQ wfM_notesAct σ0 (Sum.elim (fun s : Int × KM => s.2) Prod.snd) (fM_notesAct_B11 x1 σ) :=
  kQ_lt
 (kQ_rd fun y1 =>
 kQ_wr rfl h fun τ2 h =>
 kQ_let fun y3 =>
 kQ_inl h)
 (kQ_exit (qfM_notesAct_J40  h))
theorem qfM_notesAct_L11 (x1 : Int) {σ0 σ : KM} (h : kFr wfM_notesAct σ0 σ) : kQ wfM_notesAct σ0 Prod.snd (fM_notesAct_L11 x1 σ) :=
  kQ_iter (mf := fun s : Int × KM => s.2) (fun s h => qfM_notesAct_B11 s.1 h) kF (x1, σ) h
theorem qfM_notesAct {σ0 σ : KM} (h : kFr wfM_notesAct σ0 σ) : kQ wfM_notesAct σ0 Prod.snd (fM_notesAct σ) :=
  kQ_eq
 (qfM_notesAct_L11 _ h)
 (qfM_notesAct_J50  h)
theorem rfM_notesAct (σ : KM) : kQ wfM_notesAct σ Prod.snd (fM_notesAct σ) := qfM_notesAct  kFr.rf
abbrev wfM_drop : List (Nat × Option Int) := [(10, some 0), (10, some 7), (10, some 10), (45, none), (46, none), (47, none), (51, none)]
theorem qfM_drop_J88 {σ0 σ : KM} (h : kFr wfM_drop σ0 σ) : kQ wfM_drop σ0 Prod.snd (fM_drop_J88 σ) :=
  kQ_ri h
theorem qfM_drop_B32 (x2 : Int) {σ0 σ : KM} (h : kFr wfM_drop σ0 σ) : kQ wfM_drop σ0 (Sum.elim (fun s : Int × KM => s.2) Prod.snd) (fM_drop_B32 x2 σ) :=
  kQ_lt
 (kQ_rd fun y1 =>
 kQ_wr rfl h fun τ2 h =>
 kQ_rd fun y3 =>
 kQ_wr rfl h fun τ4 h =>
 kQ_rd fun y5 =>
 kQ_wr rfl h fun τ6 h =>
 kQ_let fun y7 =>
 kQ_inl h)
 (kQ_exit (qfM_drop_J88  h))
theorem qfM_drop_L32 (x2 : Int) {σ0 σ : KM} (h : kFr wfM_drop σ0 σ) : kQ wfM_drop σ0 Prod.snd (fM_drop_L32 x2 σ) :=
  kQ_iter (mf := fun s : Int × KM => s.2) (fun s h => qfM_drop_B32 s.1 h) kF (x2, σ) h
theorem qfM_drop (x1 : Int) {σ0 σ : KM} (h : kFr wfM_drop σ0 σ) : kQ wfM_drop σ0 Prod.snd (fM_drop x1 σ) :=
  kQ_wf rfl h fun τ1 h =>
 kQ_call (rfM_isNote _ _) rfl h fun r3 τ2 h =>
 kQ_eq
 (kQ_ri h)
 (kQ_call (rfM_notesAct _) rfl h fun _ τ4 h =>
 kQ_wf rfl h fun τ5 h =>
 qfM_drop_L32 _ h)
theorem rfM_drop (x1 : Int) (σ : KM) : kQ wfM_drop σ Prod.snd (fM_drop x1 σ) := qfM_drop x1 kFr.rf
abbrev wfM_fault : List (Nat × Option Int) := [(10, some 0)]
theorem qfM_fault_J29 (t0 : Int) {σ0 σ : KM} (h : kFr wfM_fault σ0 σ) : kQ wfM_fault σ0 Prod.snd (fM_fault_J29 t0 σ) :=
  kQ_ri h
theorem qfM_fault (x1 : Int) {σ0 σ : KM} (h : kFr wfM_fault σ0 σ) : kQ wfM_fault σ0 Prod.snd (fM_fault x1 σ) :=
  kQ_wf rfl h fun τ1 h =>
 kQ_eq
 (qfM_fault_J29 _ h)
 (kQ_eq
 (qfM_fault_J29 _ h)
 (qfM_fault_J29 _ h))
theorem rfM_fault (x1 : Int) (σ : KM) : kQ wfM_fault σ Prod.snd (fM_fault x1 σ) := qfM_fault x1 kFr.rf
abbrev wfM_feed : List (Nat × Option Int) := [(10, some 0), (10, some 20), (54, none)]
theorem qfM_feed_J118 {σ0 σ : KM} (h : kFr wfM_feed σ0 σ) : kQ wfM_feed σ0 Prod.snd (fM_feed_J118 σ) :=
  kQ_ri h
theorem qfM_feed_J77 (x1 x2 x3 x4 x5 x6 t0 : Int) {σ0 σ : KM} (h : kFr wfM_feed σ0 σ) : kQ wfM_feed σ0 (Sum.elim (fun s : Int × KM => s.2) Prod.snd) (fM_feed_J77 x1 x2 x3 x4 x5 x6 t0 σ) :=
  kQ_rm fun y1 =>
 kQ_shr fun y2 =>
 kQ_wb rfl h fun τ3 h =>
 kQ_wf rfl h fun τ4 h =>
 kQ_let fun y5 =>
 kQ_inl h
theorem qfM_feed_B24 (x1 x2 x3 x4 x5 x6 : Int) {σ0 σ : KM} (h : kFr wfM_feed σ0 σ) : kQ wfM_feed σ0 (Sum.elim (fun s : Int × KM => s.2) Prod.snd) (fM_feed_B24 x1 x2 x3 x4 x5 x6 σ) :=
  kQ_lt
 (kQ_lt
 (qfM_feed_J77 _ _ _ _ _ _ _ h)
 (kQ_lt
 (qfM_feed_J77 _ _ _ _ _ _ _ h)
 (kQ_lt
 (qfM_feed_J77 _ _ _ _ _ _ _ h)
 (kQ_lt
 (qfM_feed_J77 _ _ _ _ _ _ _ h)
 (qfM_feed_J77 _ _ _ _ _ _ _ h)))))
 (kQ_exit (qfM_feed_J118  h))
theorem qfM_feed_L24 (x1 x2 x3 x4 x5 x6 : Int) {σ0 σ : KM} (h : kFr wfM_feed σ0 σ) : kQ wfM_feed σ0 Prod.snd (fM_feed_L24 x1 x2 x3 x4 x5 x6 σ) :=
  kQ_iter (mf := fun s : Int × KM => s.2) (fun s h => qfM_feed_B24 x1 x2 x3 x4 x5 s.1 h) kF (x6, σ) h
theorem qfM_feed (x1 x2 x3 x4 x5 : Int) {σ0 σ : KM} (h : kFr wfM_feed σ0 σ) : kQ wfM_feed σ0 Prod.snd (fM_feed x1 x2 x3 x4 x5 σ) :=
  kQ_wf rfl h fun τ1 h =>
 kQ_lt
 (kQ_ri h)
 (qfM_feed_L24 _ _ _ _ _ _ h)
theorem rfM_feed (x1 x2 x3 x4 x5 : Int) (σ : KM) : kQ wfM_feed σ Prod.snd (fM_feed x1 x2 x3 x4 x5 σ) := qfM_feed x1 x2 x3 x4 x5 kFr.rf
abbrev wfM_firm : List (Nat × Option Int) := [(10, some 0), (10, some 27), (10, some 37), (10, some 38), (55, none), (56, none), (57, none), (58, none), (59, none), (61, none), (62, none), (63, none), (64, none)]
theorem qfM_firm_J53 {σ0 σ : KM} (h : kFr wfM_firm σ0 σ) : kQ wfM_firm σ0 Prod.snd (fM_firm_J53 σ) :=
  kQ_ri h
theorem qfM_firm_J45 (x1 : Int) {σ0 σ : KM} (h : kFr wfM_firm σ0 σ) : kQ wfM_firm σ0 Prod.snd (fM_firm_J45 x1 σ) :=
  kQ_ri h
theorem qfM_firm_B25 (x1 : Int) {σ0 σ : KM} (h : kFr wfM_firm σ0 σ) : kQ wfM_firm σ0 (Sum.elim (fun s : Int × KM => s.2) Prod.snd) (fM_firm_B25 x1 σ) :=
  kQ_lt
 (kQ_exit (qfM_firm_J53  h))
 (kQ_call (rfM_laysPath _ _) rfl h fun r2 τ1 h =>
 kQ_call (rfM_segmentsNow _) rfl h fun r4 τ3 h =>
 kQ_lt
 (kQ_let fun y5 =>
 kQ_inl h)
 (kQ_exit (qfM_firm_J45 _ h)))
theorem qfM_firm_L25 (x1 : Int) {σ0 σ : KM} (h : kFr wfM_firm σ0 σ) : kQ wfM_firm σ0 Prod.snd (fM_firm_L25 x1 σ) :=
  kQ_iter (mf := fun s : Int × KM => s.2) (fun s h => qfM_firm_B25 s.1 h) kF (x1, σ) h
theorem qfM_firm {σ0 σ : KM} (h : kFr wfM_firm σ0 σ) : kQ wfM_firm σ0 Prod.snd (fM_firm σ) :=
  kQ_wf rfl h fun τ1 h =>
 kQ_call (rfM_laysOwn _) rfl h fun _ τ2 h =>
 kQ_call (rfM_laysPath _ _) rfl h fun r4 τ3 h =>
 kQ_eq
 (kQ_ri h)
 (qfM_firm_L25 _ h)
theorem rfM_firm (σ : KM) : kQ wfM_firm σ Prod.snd (fM_firm σ) := qfM_firm  kFr.rf
abbrev wfM_fit : List (Nat × Option Int) := [(10, some 0), (10, some 27), (55, none)]
theorem qfM_fit_J20 {σ0 σ : KM} (h : kFr wfM_fit σ0 σ) : kQ wfM_fit σ0 Prod.snd (fM_fit_J20 σ) :=
  kQ_ri h
theorem qfM_fit (x1 x2 : Int) {σ0 σ : KM} (h : kFr wfM_fit σ0 σ) : kQ wfM_fit σ0 Prod.snd (fM_fit x1 x2 σ) :=
  kQ_wf rfl h fun τ1 h =>
 kQ_call (rfM_isWindow _ _) rfl h fun r3 τ2 h =>
 kQ_eq
 (qfM_fit_J20  h)
 (kQ_call (rfM_isKey _ _) rfl h fun r5 τ4 h =>
 kQ_eq
 (qfM_fit_J20  h)
 (kQ_call (rfM_countedIn _ _) rfl h fun _ τ6 h =>
 kQ_call (rfM_fitted _ _) rfl h fun r8 τ7 h =>
 kQ_ri h))
theorem rfM_fit (x1 x2 : Int) (σ : KM) : kQ wfM_fit σ Prod.snd (fM_fit x1 x2 σ) := qfM_fit x1 x2 kFr.rf
abbrev wfM_isOn : List (Nat × Option Int) := []
theorem qfM_isOn_J28 (t0 : Int) {σ0 σ : KM} (h : kFr wfM_isOn σ0 σ) : kQ wfM_isOn σ0 Prod.snd (fM_isOn_J28 t0 σ) :=
  kQ_rz h
theorem qfM_isOn_J13 (x0 t0 : Int) {σ0 σ : KM} (h : kFr wfM_isOn σ0 σ) : kQ wfM_isOn σ0 Prod.snd (fM_isOn_J13 x0 t0 σ) :=
  kQ_shr fun y1 =>
 kQ_and fun y2 =>
 kQ_eq
 (qfM_isOn_J28 _ h)
 (qfM_isOn_J28 _ h)
theorem qfM_isOn (x0 x1 : Int) {σ0 σ : KM} (h : kFr wfM_isOn σ0 σ) : kQ wfM_isOn σ0 Prod.snd (fM_isOn x0 x1 σ) :=
  kQ_eq
 (qfM_isOn_J13 _ _ h)
 (qfM_isOn_J13 _ _ h)
theorem rfM_isOn (x0 x1 : Int) (σ : KM) : kQ wfM_isOn σ Prod.snd (fM_isOn x0 x1 σ) := qfM_isOn x0 x1 kFr.rf
abbrev wfM_foreign : List (Nat × Option Int) := [(10, some 0), (10, some 27), (55, none)]
theorem qfM_foreign_J20 {σ0 σ : KM} (h : kFr wfM_foreign σ0 σ) : kQ wfM_foreign σ0 Prod.snd (fM_foreign_J20 σ) :=
  kQ_ri h
theorem qfM_foreign_J90 (x3 : Int) {σ0 σ : KM} (h : kFr wfM_foreign σ0 σ) : kQ wfM_foreign σ0 Prod.snd (fM_foreign_J90 x3 σ) :=
  kQ_ri h
theorem qfM_foreign_J82 (x2 x4 t0 t1 : Int) {σ0 σ : KM} (h : kFr wfM_foreign σ0 σ) : kQ wfM_foreign σ0 (Sum.elim (fun s : Int × Int × KM => s.2.2) Prod.snd) (fM_foreign_J82 x2 x4 t0 t1 σ) :=
  kQ_let fun y1 =>
 kQ_let fun y2 =>
 kQ_inl h
theorem qfM_foreign_J65 (x2 x4 t0 t1 t2 : Int) {σ0 σ : KM} (h : kFr wfM_foreign σ0 σ) : kQ wfM_foreign σ0 (Sum.elim (fun s : Int × Int × KM => s.2.2) Prod.snd) (fM_foreign_J65 x2 x4 t0 t1 t2 σ) :=
  kQ_call (rfM_isOn _ _ _) rfl h fun r2 τ1 h =>
 kQ_eq
 (kQ_rd fun y3 =>
 qfM_foreign_J82 _ _ _ _ h)
 (qfM_foreign_J82 _ _ _ _ h)
theorem qfM_foreign_B33 (x2 x3 x4 : Int) {σ0 σ : KM} (h : kFr wfM_foreign σ0 σ) : kQ wfM_foreign σ0 (Sum.elim (fun s : Int × Int × KM => s.2.2) Prod.snd) (fM_foreign_B33 x2 x3 x4 σ) :=
  kQ_lt
 (kQ_rm fun y1 =>
 kQ_rm fun y2 =>
 kQ_lt
 (qfM_foreign_J65 _ _ _ _ _ h)
 (qfM_foreign_J65 _ _ _ _ _ h))
 (kQ_exit (qfM_foreign_J90 _ h))
theorem qfM_foreign_L33 (x2 x3 x4 : Int) {σ0 σ : KM} (h : kFr wfM_foreign σ0 σ) : kQ wfM_foreign σ0 Prod.snd (fM_foreign_L33 x2 x3 x4 σ) :=
  kQ_iter (mf := fun s : Int × Int × KM => s.2.2) (fun s h => qfM_foreign_B33 x2 s.1 s.2.1 h) kF (x3, x4, σ) h
theorem qfM_foreign (x1 x2 : Int) {σ0 σ : KM} (h : kFr wfM_foreign σ0 σ) : kQ wfM_foreign σ0 Prod.snd (fM_foreign x1 x2 σ) :=
  kQ_wf rfl h fun τ1 h =>
 kQ_call (rfM_isWindow _ _) rfl h fun r3 τ2 h =>
 kQ_eq
 (qfM_foreign_J20  h)
 (kQ_call (rfM_isKey _ _) rfl h fun r5 τ4 h =>
 kQ_eq
 (qfM_foreign_J20  h)
 (kQ_call (rfM_countedIn _ _) rfl h fun _ τ6 h =>
 qfM_foreign_L33 _ _ _ h))
theorem rfM_foreign (x1 x2 : Int) (σ : KM) : kQ wfM_foreign σ Prod.snd (fM_foreign x1 x2 σ) := qfM_foreign x1 x2 kFr.rf
abbrev wfM_key : List (Nat × Option Int) := [(10, some 0), (10, some 27), (10, some 37), (10, some 38), (55, none), (56, none), (57, none), (58, none), (59, none), (61, none), (62, none), (63, none), (64, none)]
theorem qfM_key_J34 (t0 : Int) {σ0 σ : KM} (h : kFr wfM_key σ0 σ) : kQ wfM_key σ0 Prod.snd (fM_key_J34 t0 σ) :=
  kQ_ri h
theorem qfM_key (x1 : Int) {σ0 σ : KM} (h : kFr wfM_key σ0 σ) : kQ wfM_key σ0 Prod.snd (fM_key x1 σ) :=
  kQ_wf rfl h fun τ1 h =>
 kQ_call (rfM_isWindow _ _) rfl h fun r3 τ2 h =>
 kQ_eq
 (kQ_ri h)
 (kQ_call (rfM_hasPath _) rfl h fun r5 τ4 h =>
 kQ_eq
 (qfM_key_J34 _ h)
 (kQ_rd fun y6 =>
 qfM_key_J34 _ h))
theorem rfM_key (x1 : Int) (σ : KM) : kQ wfM_key σ Prod.snd (fM_key x1 σ) := qfM_key x1 kFr.rf
abbrev wfM_leastOf : List (Nat × Option Int) := []
theorem qfM_leastOf_J52 (t0 : Int) {σ0 σ : KM} (h : kFr wfM_leastOf σ0 σ) : kQ wfM_leastOf σ0 Prod.snd (fM_leastOf_J52 t0 σ) :=
  kQ_ri h
theorem qfM_leastOf_J41 (x3 : Int) {σ0 σ : KM} (h : kFr wfM_leastOf σ0 σ) : kQ wfM_leastOf σ0 Prod.snd (fM_leastOf_J41 x3 σ) :=
  kQ_lt
 (qfM_leastOf_J52 _ h)
 (qfM_leastOf_J52 _ h)
theorem qfM_leastOf_J34 (x2 x4 t0 : Int) {σ0 σ : KM} (h : kFr wfM_leastOf σ0 σ) : kQ wfM_leastOf σ0 (Sum.elim (fun s : Int × Int × KM => s.2.2) Prod.snd) (fM_leastOf_J34 x2 x4 t0 σ) :=
  kQ_let fun y1 =>
 kQ_inl h
theorem qfM_leastOf_B6 (x2 x3 x4 : Int) {σ0 σ : KM} (h : kFr wfM_leastOf σ0 σ) : kQ wfM_leastOf σ0 (Sum.elim (fun s : Int × Int × KM => s.2.2) Prod.snd) (fM_leastOf_B6 x2 x3 x4 σ) :=
  kQ_lt
 (kQ_rd fun y1 =>
 kQ_lt
 (kQ_rd fun y2 =>
 qfM_leastOf_J34 _ _ _ h)
 (qfM_leastOf_J34 _ _ _ h))
 (kQ_exit (qfM_leastOf_J41 _ h))
theorem qfM_leastOf_L6 (x2 x3 x4 : Int) {σ0 σ : KM} (h : kFr wfM_leastOf σ0 σ) : kQ wfM_leastOf σ0 Prod.snd (fM_leastOf_L6 x2 x3 x4 σ) :=
  kQ_iter (mf := fun s : Int × Int × KM => s.2.2) (fun s h => qfM_leastOf_B6 x2 s.1 s.2.1 h) kF (x3, x4, σ) h
theorem qfM_leastOf (x1 x2 : Int) {σ0 σ : KM} (h : kFr wfM_leastOf σ0 σ) : kQ wfM_leastOf σ0 Prod.snd (fM_leastOf x1 x2 σ) :=
  qfM_leastOf_L6 _ _ _ h
theorem rfM_leastOf (x1 x2 : Int) (σ : KM) : kQ wfM_leastOf σ Prod.snd (fM_leastOf x1 x2 σ) := qfM_leastOf x1 x2 kFr.rf
abbrev wfM_turns : List (Nat × Option Int) := [(65, none)]
theorem qfM_turns_J28 {σ0 σ : KM} (h : kFr wfM_turns σ0 σ) : kQ wfM_turns σ0 Prod.snd (fM_turns_J28 σ) :=
  kQ_ri h
theorem qfM_turns_B2 (x1 x2 : Int) {σ0 σ : KM} (h : kFr wfM_turns σ0 σ) : kQ wfM_turns σ0 (Sum.elim (fun s : Int × KM => s.2) Prod.snd) (fM_turns_B2 x1 x2 σ) :=
  kQ_lt
 (kQ_rd fun y1 =>
 kQ_wr rfl h fun τ2 h =>
 kQ_let fun y3 =>
 kQ_inl h)
 (kQ_exit (qfM_turns_J28  h))
theorem qfM_turns_L2 (x1 x2 : Int) {σ0 σ : KM} (h : kFr wfM_turns σ0 σ) : kQ wfM_turns σ0 Prod.snd (fM_turns_L2 x1 x2 σ) :=
  kQ_iter (mf := fun s : Int × KM => s.2) (fun s h => qfM_turns_B2 x1 s.1 h) kF (x2, σ) h
theorem qfM_turns (x1 : Int) {σ0 σ : KM} (h : kFr wfM_turns σ0 σ) : kQ wfM_turns σ0 Prod.snd (fM_turns x1 σ) :=
  qfM_turns_L2 _ _ h
theorem rfM_turns (x1 : Int) (σ : KM) : kQ wfM_turns σ Prod.snd (fM_turns x1 σ) := qfM_turns x1 kFr.rf
abbrev wfM_lasting : List (Nat × Option Int) := [(10, some 0), (10, some 27), (10, some 37), (10, some 38), (55, none), (56, none), (57, none), (58, none), (59, none), (61, none), (62, none), (63, none), (64, none), (65, none), (66, none)]
theorem qfM_lasting_J346 (x1 : Int) {σ0 σ : KM} (h : kFr wfM_lasting σ0 σ) : kQ wfM_lasting σ0 Prod.snd (fM_lasting_J346 x1 σ) :=
  kQ_call (rfM_leastOf _ _ _) rfl h fun r2 τ1 h =>
 kQ_ri h
theorem qfM_lasting_J335 (x1 x2 : Int) {σ0 σ : KM} (h : kFr wfM_lasting σ0 σ) : kQ wfM_lasting σ0 (Sum.elim (fun s : Int × KM => s.2) Prod.snd) (fM_lasting_J335 x1 x2 σ) :=
  kQ_call (rfM_turns _ _) rfl h fun _ τ1 h =>
 kQ_let fun y2 =>
 kQ_inl h
theorem qfM_lasting_J329 (x1 x2 x3 : Int) {σ0 σ : KM} (h : kFr wfM_lasting σ0 σ) : kQ wfM_lasting σ0 (Sum.elim (fun s : Int × KM => s.2) (Sum.elim (fun s : Int × KM => s.2) Prod.snd)) (fM_lasting_J329 x1 x2 x3 σ) :=
  kQ_let fun y1 =>
 kQ_inl h
theorem qfM_lasting_J323 (x1 x2 x3 x4 : Int) {σ0 σ : KM} (h : kFr wfM_lasting σ0 σ) : kQ wfM_lasting σ0 (Sum.elim (fun s : Int × KM => s.2) (Sum.elim (fun s : Int × KM => s.2) (Sum.elim (fun s : Int × KM => s.2) Prod.snd))) (fM_lasting_J323 x1 x2 x3 x4 σ) :=
  kQ_let fun y1 =>
 kQ_inl h
theorem qfM_lasting_J322 (x1 x2 x3 x4 t0 t1 : Int) {σ0 σ : KM} (h : kFr wfM_lasting σ0 σ) : kQ wfM_lasting σ0 (Sum.elim (fun s : Int × KM => s.2) (Sum.elim (fun s : Int × KM => s.2) (Sum.elim (fun s : Int × KM => s.2) Prod.snd))) (fM_lasting_J322 x1 x2 x3 x4 t0 t1 σ) :=
  kQ_wr rfl h fun τ1 h =>
 qfM_lasting_J323 _ _ _ _ h
theorem qfM_lasting_B234 (x1 x2 x3 x4 : Int) {σ0 σ : KM} (h : kFr wfM_lasting σ0 σ) : kQ wfM_lasting σ0 (Sum.elim (fun s : Int × KM => s.2) (Sum.elim (fun s : Int × KM => s.2) (Sum.elim (fun s : Int × KM => s.2) Prod.snd))) (fM_lasting_B234 x1 x2 x3 x4 σ) :=
  kQ_lt
 (kQ_eq
 (qfM_lasting_J323 _ _ _ _ h)
 (kQ_rd fun y1 =>
 kQ_call (rfM_moves _ _ _ _ _) rfl h fun r3 τ2 h =>
 kQ_call (rfM_added _ _ _) rfl h fun r5 τ4 h =>
 kQ_rd fun y6 =>
 kQ_call (rfM_added _ _ _) rfl h fun r8 τ7 h =>
 kQ_rd fun y9 =>
 kQ_lt
 (qfM_lasting_J322 _ _ _ _ _ _ h)
 (kQ_rd fun y10 =>
 qfM_lasting_J322 _ _ _ _ _ _ h)))
 (kQ_exit (qfM_lasting_J329 _ _ _ h))
theorem qfM_lasting_L234 (x1 x2 x3 x4 : Int) {σ0 σ : KM} (h : kFr wfM_lasting σ0 σ) : kQ wfM_lasting σ0 (Sum.elim (fun s : Int × KM => s.2) (Sum.elim (fun s : Int × KM => s.2) Prod.snd)) (fM_lasting_L234 x1 x2 x3 x4 σ) :=
  kQ_iter (mf := fun s : Int × KM => s.2) (fun s h => qfM_lasting_B234 x1 x2 x3 s.1 h) kF (x4, σ) h
theorem qfM_lasting_B225 (x1 x2 x3 : Int) {σ0 σ : KM} (h : kFr wfM_lasting σ0 σ) : kQ wfM_lasting σ0 (Sum.elim (fun s : Int × KM => s.2) (Sum.elim (fun s : Int × KM => s.2) Prod.snd)) (fM_lasting_B225 x1 x2 x3 σ) :=
  kQ_lt
 (qfM_lasting_L234 _ _ _ _ h)
 (kQ_exit (qfM_lasting_J335 _ _ h))
theorem qfM_lasting_L225 (x1 x2 x3 : Int) {σ0 σ : KM} (h : kFr wfM_lasting σ0 σ) : kQ wfM_lasting σ0 (Sum.elim (fun s : Int × KM => s.2) Prod.snd) (fM_lasting_L225 x1 x2 x3 σ) :=
  kQ_iter (mf := fun s : Int × KM => s.2) (fun s h => qfM_lasting_B225 x1 x2 s.1 h) kF (x3, σ) h
theorem qfM_lasting_J223 (x1 x2 : Int) {σ0 σ : KM} (h : kFr wfM_lasting σ0 σ) : kQ wfM_lasting σ0 (Sum.elim (fun s : Int × KM => s.2) Prod.snd) (fM_lasting_J223 x1 x2 σ) :=
  qfM_lasting_L225 _ _ _ h
theorem qfM_lasting_J217 (x1 x2 x3 : Int) {σ0 σ : KM} (h : kFr wfM_lasting σ0 σ) : kQ wfM_lasting σ0 (Sum.elim (fun s : Int × KM => s.2) (Sum.elim (fun s : Int × KM => s.2) Prod.snd)) (fM_lasting_J217 x1 x2 x3 σ) :=
  kQ_let fun y1 =>
 kQ_inl h
theorem qfM_lasting_J210 (x1 x2 x3 x4 t0 t1 : Int) {σ0 σ : KM} (h : kFr wfM_lasting σ0 σ) : kQ wfM_lasting σ0 (Sum.elim (fun s : Int × KM => s.2) (Sum.elim (fun s : Int × KM => s.2) (Sum.elim (fun s : Int × KM => s.2) Prod.snd))) (fM_lasting_J210 x1 x2 x3 x4 t0 t1 σ) :=
  kQ_wr rfl h fun τ1 h =>
 kQ_let fun y2 =>
 kQ_inl h
theorem qfM_lasting_J145 (x1 x2 x3 x4 t0 t1 : Int) {σ0 σ : KM} (h : kFr wfM_lasting σ0 σ) : kQ wfM_lasting σ0 (Sum.elim (fun s : Int × KM => s.2) (Sum.elim (fun s : Int × KM => s.2) (Sum.elim (fun s : Int × KM => s.2) Prod.snd))) (fM_lasting_J145 x1 x2 x3 x4 t0 t1 σ) :=
  kQ_let fun y1 =>
 kQ_rd fun y2 =>
 kQ_rd fun y3 =>
 kQ_call (rfM_added _ _ _) rfl h fun r5 τ4 h =>
 kQ_rd fun y6 =>
 kQ_lt
 (qfM_lasting_J210 _ _ _ _ _ _ h)
 (kQ_rd fun y7 =>
 qfM_lasting_J210 _ _ _ _ _ _ h)
theorem qfM_lasting_B122 (x1 x2 x3 x4 : Int) {σ0 σ : KM} (h : kFr wfM_lasting σ0 σ) : kQ wfM_lasting σ0 (Sum.elim (fun s : Int × KM => s.2) (Sum.elim (fun s : Int × KM => s.2) (Sum.elim (fun s : Int × KM => s.2) Prod.snd))) (fM_lasting_B122 x1 x2 x3 x4 σ) :=
  kQ_lt
 (kQ_lt
 (qfM_lasting_J145 _ _ _ _ _ _ h)
 (qfM_lasting_J145 _ _ _ _ _ _ h))
 (kQ_exit (qfM_lasting_J217 _ _ _ h))
theorem qfM_lasting_L122 (x1 x2 x3 x4 : Int) {σ0 σ : KM} (h : kFr wfM_lasting σ0 σ) : kQ wfM_lasting σ0 (Sum.elim (fun s : Int × KM => s.2) (Sum.elim (fun s : Int × KM => s.2) Prod.snd)) (fM_lasting_L122 x1 x2 x3 x4 σ) :=
  kQ_iter (mf := fun s : Int × KM => s.2) (fun s h => qfM_lasting_B122 x1 x2 x3 s.1 h) kF (x4, σ) h
theorem qfM_lasting_B114 (x1 x2 x3 : Int) {σ0 σ : KM} (h : kFr wfM_lasting σ0 σ) : kQ wfM_lasting σ0 (Sum.elim (fun s : Int × KM => s.2) (Sum.elim (fun s : Int × KM => s.2) Prod.snd)) (fM_lasting_B114 x1 x2 x3 σ) :=
  kQ_lt
 (qfM_lasting_L122 _ _ _ _ h)
 (kQ_exit (qfM_lasting_J223 _ _ h))
theorem qfM_lasting_L114 (x1 x2 x3 : Int) {σ0 σ : KM} (h : kFr wfM_lasting σ0 σ) : kQ wfM_lasting σ0 (Sum.elim (fun s : Int × KM => s.2) Prod.snd) (fM_lasting_L114 x1 x2 x3 σ) :=
  kQ_iter (mf := fun s : Int × KM => s.2) (fun s h => qfM_lasting_B114 x1 x2 s.1 h) kF (x3, σ) h
theorem qfM_lasting_J112 (x1 x2 : Int) {σ0 σ : KM} (h : kFr wfM_lasting σ0 σ) : kQ wfM_lasting σ0 (Sum.elim (fun s : Int × KM => s.2) Prod.snd) (fM_lasting_J112 x1 x2 σ) :=
  qfM_lasting_L114 _ _ _ h
theorem qfM_lasting_B90 (x1 x2 x3 : Int) {σ0 σ : KM} (h : kFr wfM_lasting σ0 σ) : kQ wfM_lasting σ0 (Sum.elim (fun s : Int × KM => s.2) (Sum.elim (fun s : Int × KM => s.2) Prod.snd)) (fM_lasting_B90 x1 x2 x3 σ) :=
  kQ_lt
 (kQ_wr rfl h fun τ1 h =>
 kQ_let fun y2 =>
 kQ_inl h)
 (kQ_exit (qfM_lasting_J112 _ _ h))
theorem qfM_lasting_L90 (x1 x2 x3 : Int) {σ0 σ : KM} (h : kFr wfM_lasting σ0 σ) : kQ wfM_lasting σ0 (Sum.elim (fun s : Int × KM => s.2) Prod.snd) (fM_lasting_L90 x1 x2 x3 σ) :=
  kQ_iter (mf := fun s : Int × KM => s.2) (fun s h => qfM_lasting_B90 x1 x2 s.1 h) kF (x3, σ) h
theorem qfM_lasting_B80 (x1 x2 : Int) {σ0 σ : KM} (h : kFr wfM_lasting σ0 σ) : kQ wfM_lasting σ0 (Sum.elim (fun s : Int × KM => s.2) Prod.snd) (fM_lasting_B80 x1 x2 σ) :=
  kQ_lt
 (qfM_lasting_L90 _ _ _ h)
 (kQ_exit (qfM_lasting_J346 _ h))
theorem qfM_lasting_L80 (x1 x2 : Int) {σ0 σ : KM} (h : kFr wfM_lasting σ0 σ) : kQ wfM_lasting σ0 Prod.snd (fM_lasting_L80 x1 x2 σ) :=
  kQ_iter (mf := fun s : Int × KM => s.2) (fun s h => qfM_lasting_B80 x1 s.1 h) kF (x2, σ) h
theorem qfM_lasting_J78 (x1 : Int) {σ0 σ : KM} (h : kFr wfM_lasting σ0 σ) : kQ wfM_lasting σ0 Prod.snd (fM_lasting_J78 x1 σ) :=
  qfM_lasting_L80 _ _ h
theorem qfM_lasting_J71 (x1 x2 t0 t1 : Int) {σ0 σ : KM} (h : kFr wfM_lasting σ0 σ) : kQ wfM_lasting σ0 (Sum.elim (fun s : Int × KM => s.2) Prod.snd) (fM_lasting_J71 x1 x2 t0 t1 σ) :=
  kQ_wr rfl h fun τ1 h =>
 kQ_let fun y2 =>
 kQ_inl h
theorem qfM_lasting_B41 (x1 x2 : Int) {σ0 σ : KM} (h : kFr wfM_lasting σ0 σ) : kQ wfM_lasting σ0 (Sum.elim (fun s : Int × KM => s.2) Prod.snd) (fM_lasting_B41 x1 x2 σ) :=
  kQ_lt
 (kQ_lt
 (kQ_rd fun y1 =>
 qfM_lasting_J71 _ _ _ _ h)
 (qfM_lasting_J71 _ _ _ _ h))
 (kQ_exit (qfM_lasting_J78 _ h))
theorem qfM_lasting_L41 (x1 x2 : Int) {σ0 σ : KM} (h : kFr wfM_lasting σ0 σ) : kQ wfM_lasting σ0 Prod.snd (fM_lasting_L41 x1 x2 σ) :=
  kQ_iter (mf := fun s : Int × KM => s.2) (fun s h => qfM_lasting_B41 x1 s.1 h) kF (x2, σ) h
theorem qfM_lasting (x1 : Int) {σ0 σ : KM} (h : kFr wfM_lasting σ0 σ) : kQ wfM_lasting σ0 Prod.snd (fM_lasting x1 σ) :=
  kQ_wf rfl h fun τ1 h =>
 kQ_ck <|
 kQ_call (rfM_isIn _ _ _ _) rfl h fun r3 τ2 h =>
 kQ_eq
 (kQ_ri h)
 (kQ_call (rfM_hasPath _) rfl h fun r5 τ4 h =>
 kQ_eq
 (kQ_ri h)
 (kQ_eq
 (kQ_ri h)
 (qfM_lasting_L41 _ _ h)))
theorem rfM_lasting (x1 : Int) (σ : KM) : kQ wfM_lasting σ Prod.snd (fM_lasting x1 σ) := qfM_lasting x1 kFr.rf
abbrev wfM_isMode : List (Nat × Option Int) := []
theorem qfM_isMode_J14 (t0 : Int) {σ0 σ : KM} (h : kFr wfM_isMode σ0 σ) : kQ wfM_isMode σ0 Prod.snd (fM_isMode_J14 t0 σ) :=
  kQ_rz h
theorem qfM_isMode_J9 {σ0 σ : KM} (h : kFr wfM_isMode σ0 σ) : kQ wfM_isMode σ0 Prod.snd (fM_isMode_J9 σ) :=
  qfM_isMode_J14 _ h
theorem qfM_isMode (x0 : Int) {σ0 σ : KM} (h : kFr wfM_isMode σ0 σ) : kQ wfM_isMode σ0 Prod.snd (fM_isMode x0 σ) :=
  kQ_eq
 (qfM_isMode_J9  h)
 (kQ_eq
 (qfM_isMode_J9  h)
 (qfM_isMode_J14 _ h))
theorem rfM_isMode (x0 : Int) (σ : KM) : kQ wfM_isMode σ Prod.snd (fM_isMode x0 σ) := qfM_isMode x0 kFr.rf
abbrev wfM_learnt : List (Nat × Option Int) := [(10, some 0), (10, some 27), (10, some 37), (10, some 38), (55, none), (56, none), (57, none), (58, none), (59, none), (61, none), (62, none), (63, none), (64, none)]
theorem qfM_learnt_J24 {σ0 σ : KM} (h : kFr wfM_learnt σ0 σ) : kQ wfM_learnt σ0 Prod.snd (fM_learnt_J24 σ) :=
  kQ_ri h
theorem qfM_learnt_J132 (t0 : Int) {σ0 σ : KM} (h : kFr wfM_learnt σ0 σ) : kQ wfM_learnt σ0 Prod.snd (fM_learnt_J132 t0 σ) :=
  kQ_ri h
theorem qfM_learnt_J112 (x3 x4 : Int) {σ0 σ : KM} (h : kFr wfM_learnt σ0 σ) : kQ wfM_learnt σ0 Prod.snd (fM_learnt_J112 x3 x4 σ) :=
  kQ_eq
 (qfM_learnt_J132 _ h)
 (kQ_ck <|
 kQ_ck <|
 kQ_dv6 fun y1 =>
 qfM_learnt_J132 _ h)
theorem qfM_learnt_J106 (x1 x2 x3 x4 x5 : Int) {σ0 σ : KM} (h : kFr wfM_learnt σ0 σ) : kQ wfM_learnt σ0 (Sum.elim (fun s : Int × Int × Int × KM => s.2.2.2) Prod.snd) (fM_learnt_J106 x1 x2 x3 x4 x5 σ) :=
  kQ_let fun y1 =>
 kQ_inl h
theorem qfM_learnt_B45 (x1 x2 x3 x4 x5 : Int) {σ0 σ : KM} (h : kFr wfM_learnt σ0 σ) : kQ wfM_learnt σ0 (Sum.elim (fun s : Int × Int × Int × KM => s.2.2.2) Prod.snd) (fM_learnt_B45 x1 x2 x3 x4 x5 σ) :=
  kQ_lt
 (kQ_rd fun y1 =>
 kQ_dv fun y2 =>
 kQ_eq
 (kQ_call (rfM_countedIn _ _) rfl h fun _ τ3 h =>
 kQ_rd fun y4 =>
 kQ_rm fun y5 =>
 kQ_rd fun y6 =>
 kQ_let fun y7 =>
 kQ_let fun y8 =>
 qfM_learnt_J106 _ _ _ _ _ h)
 (qfM_learnt_J106 _ _ _ _ _ h))
 (kQ_exit (qfM_learnt_J112 _ _ h))
theorem qfM_learnt_L45 (x1 x2 x3 x4 x5 : Int) {σ0 σ : KM} (h : kFr wfM_learnt σ0 σ) : kQ wfM_learnt σ0 Prod.snd (fM_learnt_L45 x1 x2 x3 x4 x5 σ) :=
  kQ_iter (mf := fun s : Int × Int × Int × KM => s.2.2.2) (fun s h => qfM_learnt_B45 x1 x2 s.1 s.2.1 s.2.2.1 h) kF (x3, x4, x5, σ) h
theorem qfM_learnt (x1 x2 : Int) {σ0 σ : KM} (h : kFr wfM_learnt σ0 σ) : kQ wfM_learnt σ0 Prod.snd (fM_learnt x1 x2 σ) :=
  kQ_wf rfl h fun τ1 h =>
 kQ_call (rfM_isMode _ _) rfl h fun r3 τ2 h =>
 kQ_eq
 (qfM_learnt_J24  h)
 (kQ_ck <|
 kQ_call (rfM_isIn _ _ _ _) rfl h fun r5 τ4 h =>
 kQ_eq
 (qfM_learnt_J24  h)
 (kQ_call (rfM_hasPath _) rfl h fun r7 τ6 h =>
 kQ_eq
 (kQ_ri h)
 (qfM_learnt_L45 _ _ _ _ _ h)))
theorem rfM_learnt (x1 x2 : Int) (σ : KM) : kQ wfM_learnt σ Prod.snd (fM_learnt x1 x2 σ) := qfM_learnt x1 x2 kFr.rf
abbrev wfM_comes : List (Nat × Option Int) := [(10, some 7), (45, none), (46, none), (47, none)]
theorem qfM_comes_J130 (x1 x2 x3 x4 : Int) {σ0 σ : KM} (h : kFr wfM_comes σ0 σ) : kQ wfM_comes σ0 Prod.snd (fM_comes_J130 x1 x2 x3 x4 σ) :=
  kQ_wr rfl h fun τ1 h =>
 kQ_wr rfl h fun τ2 h =>
 kQ_wr rfl h fun τ3 h =>
 kQ_wf rfl h fun τ4 h =>
 kQ_ri h
theorem qfM_comes_J76 (x1 x2 x3 x4 : Int) {σ0 σ : KM} (h : kFr wfM_comes σ0 σ) : kQ wfM_comes σ0 (Sum.elim (fun s : Int × KM => s.2) Prod.snd) (fM_comes_J76 x1 x2 x3 x4 σ) :=
  kQ_rd fun y1 =>
 kQ_wr rfl h fun τ2 h =>
 kQ_rd fun y3 =>
 kQ_wr rfl h fun τ4 h =>
 kQ_rd fun y5 =>
 kQ_wr rfl h fun τ6 h =>
 kQ_let fun y7 =>
 kQ_inl h
theorem qfM_comes_B6 (x1 x2 x3 x4 : Int) {σ0 σ : KM} (h : kFr wfM_comes σ0 σ) : kQ wfM_comes σ0 (Sum.elim (fun s : Int × KM => s.2) Prod.snd) (fM_comes_B6 x1 x2 x3 x4 σ) :=
  kQ_lt
 (kQ_rd fun y1 =>
 kQ_lt
 (qfM_comes_J76 _ _ _ _ h)
 (kQ_rd fun y2 =>
 kQ_eq
 (kQ_rd fun y3 =>
 kQ_lt
 (qfM_comes_J76 _ _ _ _ h)
 (kQ_rd fun y4 =>
 kQ_eq
 (kQ_rd fun y5 =>
 kQ_lt
 (qfM_comes_J76 _ _ _ _ h)
 (kQ_exit (qfM_comes_J130 _ _ _ _ h)))
 (kQ_exit (qfM_comes_J130 _ _ _ _ h))))
 (kQ_exit (qfM_comes_J130 _ _ _ _ h))))
 (kQ_exit (qfM_comes_J130 _ _ _ _ h))
theorem qfM_comes_L6 (x1 x2 x3 x4 : Int) {σ0 σ : KM} (h : kFr wfM_comes σ0 σ) : kQ wfM_comes σ0 Prod.snd (fM_comes_L6 x1 x2 x3 x4 σ) :=
  kQ_iter (mf := fun s : Int × KM => s.2) (fun s h => qfM_comes_B6 x1 x2 x3 s.1 h) kF (x4, σ) h
theorem qfM_comes (x1 x2 x3 : Int) {σ0 σ : KM} (h : kFr wfM_comes σ0 σ) : kQ wfM_comes σ0 Prod.snd (fM_comes x1 x2 x3 σ) :=
  kQ_let fun y1 =>
 qfM_comes_L6 _ _ _ _ h
theorem rfM_comes (x1 x2 x3 : Int) (σ : KM) : kQ wfM_comes σ Prod.snd (fM_comes x1 x2 x3 σ) := qfM_comes x1 x2 x3 kFr.rf
abbrev wfM_peek : List (Nat × Option Int) := [(10, some 22)]
theorem qfM_peek_J66 (t0 : Int) {σ0 σ : KM} (h : kFr wfM_peek σ0 σ) : kQ wfM_peek σ0 Prod.snd (fM_peek_J66 t0 σ) :=
  kQ_ri h
theorem qfM_peek_J38 {σ0 σ : KM} (h : kFr wfM_peek σ0 σ) : kQ wfM_peek σ0 Prod.snd (fM_peek_J38 σ) :=
  kQ_lt
 (kQ_rd fun y1 =>
 kQ_and fun y2 =>
 qfM_peek_J66 _ h)
 (qfM_peek_J66 _ h)
theorem qfM_peek_B0 {σ0 σ : KM} (h : kFr wfM_peek σ0 σ) : kQ wfM_peek σ0 (Sum.elim (fun s : KM => s) Prod.snd) (fM_peek_B0 σ) :=
  kQ_lt
 (kQ_rd fun y1 =>
 kQ_eq
 (kQ_wf rfl h fun τ2 h =>
 kQ_inl h)
 (kQ_exit (qfM_peek_J38  h)))
 (kQ_exit (qfM_peek_J38  h))
theorem qfM_peek_L0 {σ0 σ : KM} (h : kFr wfM_peek σ0 σ) : kQ wfM_peek σ0 Prod.snd (fM_peek_L0 σ) :=
  kQ_iter (mf := fun s : KM => s) (fun s h => qfM_peek_B0  h) kF (σ) h
theorem qfM_peek {σ0 σ : KM} (h : kFr wfM_peek σ0 σ) : kQ wfM_peek σ0 Prod.snd (fM_peek σ) :=
  qfM_peek_L0  h
theorem rfM_peek (σ : KM) : kQ wfM_peek σ Prod.snd (fM_peek σ) := qfM_peek  kFr.rf
abbrev wfM_isLetter : List (Nat × Option Int) := [(10, some 22)]
theorem qfM_isLetter {σ0 σ : KM} (h : kFr wfM_isLetter σ0 σ) : kQ wfM_isLetter σ0 Prod.snd (fM_isLetter σ) :=
  kQ_call (rfM_peek _) rfl h fun r2 τ1 h =>
 kQ_ck <|
 kQ_call (rfM_isIn _ _ _ _) rfl h fun r4 τ3 h =>
 kQ_rz h
theorem rfM_isLetter (σ : KM) : kQ wfM_isLetter σ Prod.snd (fM_isLetter σ) := qfM_isLetter  kFr.rf
abbrev wfM_fails : List (Nat × Option Int) := [(10, some 23), (10, some 24)]
theorem qfM_fails (x1 x2 : Int) {σ0 σ : KM} (h : kFr wfM_fails σ0 σ) : kQ wfM_fails σ0 Prod.snd (fM_fails x1 x2 σ) :=
  kQ_eq
 (kQ_wf rfl h fun τ1 h =>
 kQ_wf rfl h fun τ2 h =>
 kQ_ri h)
 (kQ_ri h)
theorem rfM_fails (x1 x2 : Int) (σ : KM) : kQ wfM_fails σ Prod.snd (fM_fails x1 x2 σ) := qfM_fails x1 x2 kFr.rf
abbrev wfM_stepOf : List (Nat × Option Int) := []
theorem qfM_stepOf_J58 {σ0 σ : KM} (h : kFr wfM_stepOf σ0 σ) : kQ wfM_stepOf σ0 Prod.snd (fM_stepOf_J58 σ) :=
  kQ_ri h
theorem qfM_stepOf (x0 : Int) {σ0 σ : KM} (h : kFr wfM_stepOf σ0 σ) : kQ wfM_stepOf σ0 Prod.snd (fM_stepOf x0 σ) :=
  kQ_sw (kA_cons (kQ_ri h) (kA_cons (qfM_stepOf_J58  h) (kA_cons (kQ_ri h) (kA_cons (kQ_ri h) (kA_cons (kQ_ri h) (kA_cons (kQ_ri h) (kA_cons (kQ_ri h) (kA_nil)))))))) (qfM_stepOf_J58  h)
theorem rfM_stepOf (x0 : Int) (σ : KM) : kQ wfM_stepOf σ Prod.snd (fM_stepOf x0 σ) := qfM_stepOf x0 kFr.rf
abbrev wfM_nameRead : List (Nat × Option Int) := [(10, some 8), (10, some 22), (10, some 23), (10, some 24), (48, none), (50, none)]
theorem qfM_nameRead_J242 (x3 : Int) {σ0 σ : KM} (h : kFr wfM_nameRead σ0 σ) : kQ wfM_nameRead σ0 Prod.snd (fM_nameRead_J242 x3 σ) :=
  kQ_wr rfl h fun τ1 h =>
 kQ_wr rfl h fun τ2 h =>
 kQ_wf rfl h fun τ3 h =>
 kQ_ri h
theorem qfM_nameRead_J236 (x2 x3 x5 : Int) {σ0 σ : KM} (h : kFr wfM_nameRead σ0 σ) : kQ wfM_nameRead σ0 (Sum.elim (fun s : Int × KM => s.2) Prod.snd) (fM_nameRead_J236 x2 x3 x5 σ) :=
  kQ_let fun y1 =>
 kQ_inl h
theorem qfM_nameRead_B210 (x2 x3 x5 : Int) {σ0 σ : KM} (h : kFr wfM_nameRead σ0 σ) : kQ wfM_nameRead σ0 (Sum.elim (fun s : Int × KM => s.2) Prod.snd) (fM_nameRead_B210 x2 x3 x5 σ) :=
  kQ_lt
 (kQ_rd fun y1 =>
 kQ_eq
 (kQ_call (rfM_fails _ _ _) rfl h fun _ τ2 h =>
 qfM_nameRead_J236 _ _ _ h)
 (qfM_nameRead_J236 _ _ _ h))
 (kQ_exit (qfM_nameRead_J242 _ h))
theorem qfM_nameRead_L210 (x2 x3 x5 : Int) {σ0 σ : KM} (h : kFr wfM_nameRead σ0 σ) : kQ wfM_nameRead σ0 Prod.snd (fM_nameRead_L210 x2 x3 x5 σ) :=
  kQ_iter (mf := fun s : Int × KM => s.2) (fun s h => qfM_nameRead_B210 x2 x3 s.1 h) kF (x5, σ) h
theorem qfM_nameRead_J207 (x1 x2 x3 : Int) {σ0 σ : KM} (h : kFr wfM_nameRead σ0 σ) : kQ wfM_nameRead σ0 Prod.snd (fM_nameRead_J207 x1 x2 x3 σ) :=
  qfM_nameRead_L210 _ _ _ h
theorem qfM_nameRead_J132 (x1 x2 x3 : Int) {σ0 σ : KM} (h : kFr wfM_nameRead σ0 σ) : kQ wfM_nameRead σ0 Prod.snd (fM_nameRead_J132 x1 x2 x3 σ) :=
  kQ_call (rfM_peek _) rfl h fun r2 τ1 h =>
 kQ_ck <|
 kQ_call (rfM_isIn _ _ _ _) rfl h fun r4 τ3 h =>
 kQ_eq
 (kQ_call (rfM_fails _ _ _) rfl h fun _ τ11 h =>
 kQ_ri h)
 (kQ_rd fun y5 =>
 kQ_let fun y6 =>
 kQ_wf rfl h fun τ7 h =>
 kQ_ck <|
 kQ_call (rfM_isIn _ _ _ _) rfl h fun r9 τ8 h =>
 kQ_eq
 (kQ_call (rfM_fails _ _ _) rfl h fun _ τ10 h =>
 qfM_nameRead_J207 _ _ _ h)
 (qfM_nameRead_J207 _ _ _ h))
theorem qfM_nameRead_J120 (x1 x2 t0 t1 : Int) {σ0 σ : KM} (h : kFr wfM_nameRead σ0 σ) : kQ wfM_nameRead σ0 Prod.snd (fM_nameRead_J120 x1 x2 t0 t1 σ) :=
  kQ_let fun y1 =>
 kQ_wf rfl h fun τ2 h =>
 qfM_nameRead_J132 _ _ _ h
theorem qfM_nameRead_J107 (x1 x2 x3 x4 : Int) {σ0 σ : KM} (h : kFr wfM_nameRead σ0 σ) : kQ wfM_nameRead σ0 Prod.snd (fM_nameRead_J107 x1 x2 x3 x4 σ) :=
  kQ_eq
 (qfM_nameRead_J120 _ _ _ _ h)
 (qfM_nameRead_J120 _ _ _ _ h)
theorem qfM_nameRead_J56 (x1 x2 : Int) {σ0 σ : KM} (h : kFr wfM_nameRead σ0 σ) : kQ wfM_nameRead σ0 Prod.snd (fM_nameRead_J56 x1 x2 σ) :=
  kQ_eq
 (kQ_rd fun y1 =>
 kQ_call (rfM_stepOf _ _) rfl h fun r3 τ2 h =>
 kQ_wf rfl h fun τ4 h =>
 kQ_call (rfM_peek _) rfl h fun r6 τ5 h =>
 kQ_eq
 (qfM_nameRead_J107 _ _ _ _ h)
 (kQ_eq
 (qfM_nameRead_J107 _ _ _ _ h)
 (qfM_nameRead_J132 _ _ _ h)))
 (kQ_ri h)
theorem qfM_nameRead_J50 (x1 x2 : Int) {σ0 σ : KM} (h : kFr wfM_nameRead σ0 σ) : kQ wfM_nameRead σ0 Prod.snd (fM_nameRead_J50 x1 x2 σ) :=
  kQ_call (rfM_fails _ _ _) rfl h fun _ τ1 h =>
 qfM_nameRead_J56 _ _ h
theorem qfM_nameRead (x1 : Int) {σ0 σ : KM} (h : kFr wfM_nameRead σ0 σ) : kQ wfM_nameRead σ0 Prod.snd (fM_nameRead x1 σ) :=
  kQ_eq
 (kQ_call (rfM_isLetter _) rfl h fun r2 τ1 h =>
 kQ_eq
 (kQ_call (rfM_fails _ _ _) rfl h fun _ τ4 h =>
 kQ_ri h)
 (kQ_let fun y3 =>
 kQ_eq
 (qfM_nameRead_J50 _ _ h)
 (kQ_eq
 (qfM_nameRead_J50 _ _ h)
 (qfM_nameRead_J56 _ _ h))))
 (kQ_ri h)
theorem rfM_nameRead (x1 : Int) (σ : KM) : kQ wfM_nameRead σ Prod.snd (fM_nameRead x1 σ) := qfM_nameRead x1 kFr.rf
abbrev wfM_must : List (Nat × Option Int) := [(10, some 22), (10, some 23), (10, some 24)]
theorem qfM_must_J24 {σ0 σ : KM} (h : kFr wfM_must σ0 σ) : kQ wfM_must σ0 Prod.snd (fM_must_J24 σ) :=
  kQ_wf rfl h fun τ1 h =>
 kQ_ri h
theorem qfM_must (x1 : Int) {σ0 σ : KM} (h : kFr wfM_must σ0 σ) : kQ wfM_must σ0 Prod.snd (fM_must x1 σ) :=
  kQ_eq
 (kQ_call (rfM_peek _) rfl h fun r2 τ1 h =>
 kQ_eq
 (qfM_must_J24  h)
 (kQ_call (rfM_fails _ _ _) rfl h fun _ τ3 h =>
 qfM_must_J24  h))
 (qfM_must_J24  h)
theorem rfM_must (x1 : Int) (σ : KM) : kQ wfM_must σ Prod.snd (fM_must x1 σ) := qfM_must x1 kFr.rf
abbrev wfM_lengthRead : List (Nat × Option Int) := [(10, some 22), (10, some 23), (10, some 24)]
theorem qfM_lengthRead_J167 (x3 : Int) {σ0 σ : KM} (h : kFr wfM_lengthRead σ0 σ) : kQ wfM_lengthRead σ0 Prod.snd (fM_lengthRead_J167 x3 σ) :=
  kQ_ri h
theorem qfM_lengthRead_J140 (x2 x3 : Int) {σ0 σ : KM} (h : kFr wfM_lengthRead σ0 σ) : kQ wfM_lengthRead σ0 Prod.snd (fM_lengthRead_J140 x2 x3 σ) :=
  kQ_call (rfM_fails _ _ _) rfl h fun _ τ1 h =>
 qfM_lengthRead_J167 _ h
theorem qfM_lengthRead_J101 (x2 x3 : Int) {σ0 σ : KM} (h : kFr wfM_lengthRead σ0 σ) : kQ wfM_lengthRead σ0 Prod.snd (fM_lengthRead_J101 x2 x3 σ) :=
  kQ_eq
 (kQ_call (rfM_fails _ _ _) rfl h fun _ τ4 h =>
 qfM_lengthRead_J167 _ h)
 (kQ_lt
 (qfM_lengthRead_J140 _ _ h)
 (kQ_ck <|
 kQ_call (rfM_isIn _ _ _ _) rfl h fun r2 τ1 h =>
 kQ_eq
 (qfM_lengthRead_J140 _ _ h)
 (kQ_lt
 (kQ_call (rfM_fails _ _ _) rfl h fun _ τ3 h =>
 qfM_lengthRead_J167 _ h)
 (qfM_lengthRead_J167 _ h))))
theorem qfM_lengthRead_J88 (x2 x3 : Int) {σ0 σ : KM} (h : kFr wfM_lengthRead σ0 σ) : kQ wfM_lengthRead σ0 (Sum.elim (fun s : Int × KM => s.2) Prod.snd) (fM_lengthRead_J88 x2 x3 σ) :=
  kQ_wf rfl h fun τ1 h =>
 kQ_inl h
theorem qfM_lengthRead_B27 (x2 x3 : Int) {σ0 σ : KM} (h : kFr wfM_lengthRead σ0 σ) : kQ wfM_lengthRead σ0 (Sum.elim (fun s : Int × KM => s.2) Prod.snd) (fM_lengthRead_B27 x2 x3 σ) :=
  kQ_lt
 (kQ_rd fun y1 =>
 kQ_ck <|
 kQ_call (rfM_isIn _ _ _ _) rfl h fun r3 τ2 h =>
 kQ_eq
 (kQ_exit (qfM_lengthRead_J101 _ _ h))
 (kQ_lt
 (kQ_rd fun y4 =>
 kQ_let fun y5 =>
 qfM_lengthRead_J88 _ _ h)
 (qfM_lengthRead_J88 _ _ h)))
 (kQ_exit (qfM_lengthRead_J101 _ _ h))
theorem qfM_lengthRead_L27 (x2 x3 : Int) {σ0 σ : KM} (h : kFr wfM_lengthRead σ0 σ) : kQ wfM_lengthRead σ0 Prod.snd (fM_lengthRead_L27 x2 x3 σ) :=
  kQ_iter (mf := fun s : Int × KM => s.2) (fun s h => qfM_lengthRead_B27 x2 s.1 h) kF (x3, σ) h
theorem qfM_lengthRead {σ0 σ : KM} (h : kFr wfM_lengthRead σ0 σ) : kQ wfM_lengthRead σ0 Prod.snd (fM_lengthRead σ) :=
  kQ_call (rfM_must _ _) rfl h fun _ τ1 h =>
 kQ_eq
 (kQ_call (rfM_peek _) rfl h fun r3 τ2 h =>
 kQ_let fun y4 =>
 qfM_lengthRead_L27 _ _ h)
 (kQ_ri h)
theorem rfM_lengthRead (σ : KM) : kQ wfM_lengthRead σ Prod.snd (fM_lengthRead σ) := qfM_lengthRead  kFr.rf
abbrev wfM_readOne : List (Nat × Option Int) := [(10, some 8), (10, some 22), (10, some 23), (10, some 24), (10, some 25), (48, none), (49, none), (50, none)]
theorem qfM_readOne_J142 (x3 : Int) {σ0 σ : KM} (h : kFr wfM_readOne σ0 σ) : kQ wfM_readOne σ0 Prod.snd (fM_readOne_J142 x3 σ) :=
  kQ_wf rfl h fun τ1 h =>
 kQ_ri h
theorem qfM_readOne_B119 (x3 x4 : Int) {σ0 σ : KM} (h : kFr wfM_readOne σ0 σ) : kQ wfM_readOne σ0 (Sum.elim (fun s : Int × KM => s.2) Prod.snd) (fM_readOne_B119 x3 x4 σ) :=
  kQ_lt
 (kQ_wr rfl h fun τ1 h =>
 kQ_let fun y2 =>
 kQ_inl h)
 (kQ_exit (qfM_readOne_J142 _ h))
theorem qfM_readOne_L119 (x3 x4 : Int) {σ0 σ : KM} (h : kFr wfM_readOne σ0 σ) : kQ wfM_readOne σ0 Prod.snd (fM_readOne_L119 x3 x4 σ) :=
  kQ_iter (mf := fun s : Int × KM => s.2) (fun s h => qfM_readOne_B119 x3 s.1 h) kF (x4, σ) h
theorem qfM_readOne_J103 (x2 : Int) {σ0 σ : KM} (h : kFr wfM_readOne σ0 σ) : kQ wfM_readOne σ0 Prod.snd (fM_readOne_J103 x2 σ) :=
  kQ_call (rfM_lengthRead _) rfl h fun r2 τ1 h =>
 kQ_eq
 (qfM_readOne_L119 _ _ h)
 (kQ_ri h)
theorem qfM_readOne_J89 (x2 : Int) {σ0 σ : KM} (h : kFr wfM_readOne σ0 σ) : kQ wfM_readOne σ0 Prod.snd (fM_readOne_J89 x2 σ) :=
  kQ_call (rfM_must _ _) rfl h fun _ τ1 h =>
 qfM_readOne_J103 _ h
theorem qfM_readOne_B67 (x2 : Int) {σ0 σ : KM} (h : kFr wfM_readOne σ0 σ) : kQ wfM_readOne σ0 (Sum.elim (fun s : KM => s) Prod.snd) (fM_readOne_B67 x2 σ) :=
  kQ_eq
 (kQ_call (rfM_isLetter _) rfl h fun r2 τ1 h =>
 kQ_eq
 (kQ_exit (qfM_readOne_J89 _ h))
 (kQ_call (rfM_nameRead _ _) rfl h fun _ τ3 h =>
 kQ_inl h))
 (kQ_exit (qfM_readOne_J89 _ h))
theorem qfM_readOne_L67 (x2 : Int) {σ0 σ : KM} (h : kFr wfM_readOne σ0 σ) : kQ wfM_readOne σ0 Prod.snd (fM_readOne_L67 x2 σ) :=
  kQ_iter (mf := fun s : KM => s) (fun s h => qfM_readOne_B67 x2 h) kF (σ) h
theorem qfM_readOne {σ0 σ : KM} (h : kFr wfM_readOne σ0 σ) : kQ wfM_readOne σ0 Prod.snd (fM_readOne σ) :=
  kQ_call (rfM_peek _) rfl h fun r2 τ1 h =>
 kQ_eq
 (kQ_wf rfl h fun τ8 h =>
 kQ_ri h)
 (kQ_let fun y3 =>
 kQ_eq
 (kQ_wf rfl h fun τ7 h =>
 qfM_readOne_J103 _ h)
 (kQ_eq
 (kQ_wf rfl h fun τ5 h =>
 kQ_call (rfM_nameRead _ _) rfl h fun _ τ6 h =>
 qfM_readOne_L67 _ h)
 (kQ_call (rfM_nameRead _ _) rfl h fun _ τ4 h =>
 qfM_readOne_J103 _ h)))
theorem rfM_readOne (σ : KM) : kQ wfM_readOne σ Prod.snd (fM_readOne σ) := qfM_readOne  kFr.rf
abbrev wfM_load : List (Nat × Option Int) := [(10, some 0), (10, some 7), (10, some 8), (10, some 10), (10, some 20), (10, some 21), (10, some 22), (10, some 23), (10, some 24), (10, some 25), (45, none), (46, none), (47, none), (48, none), (49, none), (50, none)]
theorem qfM_load_J138 {σ0 σ : KM} (h : kFr wfM_load σ0 σ) : kQ wfM_load σ0 Prod.snd (fM_load_J138 σ) :=
  kQ_wf rfl h fun τ1 h =>
 kQ_ri h
theorem qfM_load_B101 (x2 : Int) {σ0 σ : KM} (h : kFr wfM_load σ0 σ) : kQ wfM_load σ0 (Sum.elim (fun s : Int × KM => s.2) Prod.snd) (fM_load_B101 x2 σ) :=
  kQ_lt
 (kQ_rd fun y1 =>
 kQ_rd fun y2 =>
 kQ_rd fun y3 =>
 kQ_call (rfM_comes _ _ _ _) rfl h fun r5 τ4 h =>
 kQ_let fun y6 =>
 kQ_inl h)
 (kQ_exit (qfM_load_J138  h))
theorem qfM_load_L101 (x2 : Int) {σ0 σ : KM} (h : kFr wfM_load σ0 σ) : kQ wfM_load σ0 Prod.snd (fM_load_L101 x2 σ) :=
  kQ_iter (mf := fun s : Int × KM => s.2) (fun s h => qfM_load_B101 s.1 h) kF (x2, σ) h
theorem qfM_load_J79 {σ0 σ : KM} (h : kFr wfM_load σ0 σ) : kQ wfM_load σ0 Prod.snd (fM_load_J79 σ) :=
  kQ_eq
 (kQ_wf rfl h fun τ1 h =>
 qfM_load_L101 _ h)
 (kQ_ri h)
theorem qfM_load_B57 {σ0 σ : KM} (h : kFr wfM_load σ0 σ) : kQ wfM_load σ0 (Sum.elim (fun s : KM => s) Prod.snd) (fM_load_B57 σ) :=
  kQ_eq
 (kQ_call (rfM_peek _) rfl h fun r2 τ1 h =>
 kQ_eq
 (kQ_exit (qfM_load_J79  h))
 (kQ_call (rfM_readOne _) rfl h fun _ τ3 h =>
 kQ_inl h))
 (kQ_exit (qfM_load_J79  h))
theorem qfM_load_L57 {σ0 σ : KM} (h : kFr wfM_load σ0 σ) : kQ wfM_load σ0 Prod.snd (fM_load_L57 σ) :=
  kQ_iter (mf := fun s : KM => s) (fun s h => qfM_load_B57  h) kF (σ) h
theorem qfM_load (x1 : Int) {σ0 σ : KM} (h : kFr wfM_load σ0 σ) : kQ wfM_load σ0 Prod.snd (fM_load x1 σ) :=
  kQ_wf rfl h fun τ1 h =>
 kQ_ck <|
 kQ_ck <|
 kQ_call (rfM_isIn _ _ _ _) rfl h fun r3 τ2 h =>
 kQ_eq
 (kQ_ri h)
 (kQ_wf rfl h fun τ4 h =>
 kQ_wf rfl h fun τ5 h =>
 kQ_wf rfl h fun τ6 h =>
 kQ_wf rfl h fun τ7 h =>
 kQ_wf rfl h fun τ8 h =>
 kQ_wf rfl h fun τ9 h =>
 kQ_wf rfl h fun τ10 h =>
 qfM_load_L57  h)
theorem rfM_load (x1 : Int) (σ : KM) : kQ wfM_load σ Prod.snd (fM_load x1 σ) := qfM_load x1 kFr.rf
abbrev wfM_match : List (Nat × Option Int) := [(10, some 0), (10, some 27), (55, none)]
theorem qfM_match_J30 {σ0 σ : KM} (h : kFr wfM_match σ0 σ) : kQ wfM_match σ0 Prod.snd (fM_match_J30 σ) :=
  kQ_ri h
theorem qfM_match_J77 (x4 t0 : Int) {σ0 σ : KM} (h : kFr wfM_match σ0 σ) : kQ wfM_match σ0 Prod.snd (fM_match_J77 x4 t0 σ) :=
  kQ_dv fun y1 =>
 kQ_ri h
theorem qfM_match (x1 x2 x3 : Int) {σ0 σ : KM} (h : kFr wfM_match σ0 σ) : kQ wfM_match σ0 Prod.snd (fM_match x1 x2 x3 σ) :=
  kQ_wf rfl h fun τ1 h =>
 kQ_call (rfM_isWindow _ _) rfl h fun r3 τ2 h =>
 kQ_eq
 (qfM_match_J30  h)
 (kQ_call (rfM_isKey _ _) rfl h fun r5 τ4 h =>
 kQ_eq
 (qfM_match_J30  h)
 (kQ_ck <|
 kQ_call (rfM_isIn _ _ _ _) rfl h fun r7 τ6 h =>
 kQ_eq
 (qfM_match_J30  h)
 (kQ_call (rfM_countedIn _ _) rfl h fun _ τ8 h =>
 kQ_eq
 (kQ_ri h)
 (kQ_call (rfM_matched _ _) rfl h fun r10 τ9 h =>
 kQ_call (q_common _ _ _ _) rfl h fun r12 τ11 h =>
 kQ_eq
 (kQ_call (rfM_matched _ _) rfl h fun r14 τ13 h =>
 qfM_match_J77 _ _ h)
 (qfM_match_J77 _ _ h)))))
theorem rfM_match (x1 x2 x3 : Int) (σ : KM) : kQ wfM_match σ Prod.snd (fM_match x1 x2 x3 σ) := qfM_match x1 x2 x3 kFr.rf
abbrev wfM_letter : List (Nat × Option Int) := []
theorem qfM_letter_J60 {σ0 σ : KM} (h : kFr wfM_letter σ0 σ) : kQ wfM_letter σ0 Prod.snd (fM_letter_J60 σ) :=
  kQ_ri h
theorem qfM_letter_J63 {σ0 σ : KM} (h : kFr wfM_letter σ0 σ) : kQ wfM_letter σ0 Prod.snd (fM_letter_J63 σ) :=
  kQ_ri h
theorem qfM_letter_J69 {σ0 σ : KM} (h : kFr wfM_letter σ0 σ) : kQ wfM_letter σ0 Prod.snd (fM_letter_J69 σ) :=
  kQ_ri h
theorem qfM_letter_J72 {σ0 σ : KM} (h : kFr wfM_letter σ0 σ) : kQ wfM_letter σ0 Prod.snd (fM_letter_J72 σ) :=
  kQ_ri h
theorem qfM_letter_J75 {σ0 σ : KM} (h : kFr wfM_letter σ0 σ) : kQ wfM_letter σ0 Prod.snd (fM_letter_J75 σ) :=
  kQ_ri h
theorem qfM_letter (x0 : Int) {σ0 σ : KM} (h : kFr wfM_letter σ0 σ) : kQ wfM_letter σ0 Prod.snd (fM_letter x0 σ) :=
  kQ_sw (kA_cons (qfM_letter_J60  h) (kA_cons (qfM_letter_J60  h) (kA_cons (qfM_letter_J63  h) (kA_cons (qfM_letter_J63  h) (kA_cons (kQ_ri h) (kA_cons (qfM_letter_J69  h) (kA_cons (qfM_letter_J69  h) (kA_cons (qfM_letter_J72  h) (kA_cons (qfM_letter_J72  h) (kA_cons (qfM_letter_J75  h) (kA_cons (qfM_letter_J75  h) (kA_nil)))))))))))) (kQ_ri h)
theorem rfM_letter (x0 : Int) (σ : KM) : kQ wfM_letter σ Prod.snd (fM_letter x0 σ) := qfM_letter x0 kFr.rf
abbrev wfM_name : List (Nat × Option Int) := [(10, some 0)]
theorem qfM_name_J110 (t0 : Int) {σ0 σ : KM} (h : kFr wfM_name σ0 σ) : kQ wfM_name σ0 Prod.snd (fM_name_J110 t0 σ) :=
  kQ_ri h
theorem qfM_name_J109 {σ0 σ : KM} (h : kFr wfM_name σ0 σ) : kQ wfM_name σ0 Prod.snd (fM_name_J109 σ) :=
  qfM_name_J110 _ h
theorem qfM_name_J101 (t0 t1 : Int) {σ0 σ : KM} (h : kFr wfM_name σ0 σ) : kQ wfM_name σ0 Prod.snd (fM_name_J101 t0 t1 σ) :=
  kQ_eq
 (qfM_name_J110 _ h)
 (qfM_name_J109  h)
theorem qfM_name_J84 (x1 x2 x4 : Int) {σ0 σ : KM} (h : kFr wfM_name σ0 σ) : kQ wfM_name σ0 Prod.snd (fM_name_J84 x1 x2 x4 σ) :=
  kQ_lt
 (qfM_name_J109  h)
 (kQ_eq
 (qfM_name_J101 _ _ h)
 (qfM_name_J101 _ _ h))
theorem qfM_name_J60 (x1 x2 x3 t0 : Int) {σ0 σ : KM} (h : kFr wfM_name σ0 σ) : kQ wfM_name σ0 Prod.snd (fM_name_J60 x1 x2 x3 t0 σ) :=
  kQ_eq
 (kQ_call (rfM_letter _ _) rfl h fun r2 τ1 h =>
 kQ_ri h)
 (kQ_eq
 (kQ_eq
 (qfM_name_J84 _ _ _ h)
 (kQ_ri h))
 (qfM_name_J84 _ _ _ h))
theorem qfM_name_J55 (x1 x2 x3 : Int) {σ0 σ : KM} (h : kFr wfM_name σ0 σ) : kQ wfM_name σ0 Prod.snd (fM_name_J55 x1 x2 x3 σ) :=
  qfM_name_J60 _ _ _ _ h
theorem qfM_name (x1 x2 : Int) {σ0 σ : KM} (h : kFr wfM_name σ0 σ) : kQ wfM_name σ0 Prod.snd (fM_name x1 x2 σ) :=
  kQ_wf rfl h fun τ1 h =>
 kQ_call (rfM_isKey _ _) rfl h fun r3 τ2 h =>
 kQ_eq
 (kQ_ri h)
 (kQ_lt
 (kQ_ri h)
 (kQ_rm fun y4 =>
 kQ_eq
 (qfM_name_J55 _ _ _ h)
 (kQ_eq
 (qfM_name_J55 _ _ _ h)
 (kQ_eq
 (qfM_name_J55 _ _ _ h)
 (kQ_eq
 (qfM_name_J55 _ _ _ h)
 (kQ_eq
 (qfM_name_J55 _ _ _ h)
 (qfM_name_J60 _ _ _ _ h)))))))
theorem rfM_name (x1 x2 : Int) (σ : KM) : kQ wfM_name σ Prod.snd (fM_name x1 x2 σ) := qfM_name x1 x2 kFr.rf
abbrev wfM_net : List (Nat × Option Int) := [(10, some 0), (10, some 13), (10, some 14), (10, some 15), (10, some 16)]
theorem qfM_net_J54 {σ0 σ : KM} (h : kFr wfM_net σ0 σ) : kQ wfM_net σ0 Prod.snd (fM_net_J54 σ) :=
  kQ_ri h
theorem qfM_net (x1 x2 x3 x4 : Int) {σ0 σ : KM} (h : kFr wfM_net σ0 σ) : kQ wfM_net σ0 Prod.snd (fM_net x1 x2 x3 x4 σ) :=
  kQ_wf rfl h fun τ1 h =>
 kQ_ck <|
 kQ_call (rfM_isIn _ _ _ _) rfl h fun r3 τ2 h =>
 kQ_eq
 (qfM_net_J54  h)
 (kQ_ck <|
 kQ_call (rfM_isIn _ _ _ _) rfl h fun r5 τ4 h =>
 kQ_eq
 (qfM_net_J54  h)
 (kQ_ck <|
 kQ_call (rfM_isIn _ _ _ _) rfl h fun r7 τ6 h =>
 kQ_eq
 (qfM_net_J54  h)
 (kQ_ck <|
 kQ_call (rfM_isIn _ _ _ _) rfl h fun r9 τ8 h =>
 kQ_eq
 (qfM_net_J54  h)
 (kQ_let fun y10 =>
 kQ_wf rfl h fun τ11 h =>
 kQ_wf rfl h fun τ12 h =>
 kQ_wf rfl h fun τ13 h =>
 kQ_wf rfl h fun τ14 h =>
 kQ_ri h))))
theorem rfM_net (x1 x2 x3 x4 : Int) (σ : KM) : kQ wfM_net σ Prod.snd (fM_net x1 x2 x3 x4 σ) := qfM_net x1 x2 x3 x4 kFr.rf
abbrev wfM_note : List (Nat × Option Int) := [(10, some 0)]
theorem qfM_note_J25 {σ0 σ : KM} (h : kFr wfM_note σ0 σ) : kQ wfM_note σ0 Prod.snd (fM_note_J25 σ) :=
  kQ_ri h
theorem qfM_note_J78 (t0 : Int) {σ0 σ : KM} (h : kFr wfM_note σ0 σ) : kQ wfM_note σ0 Prod.snd (fM_note_J78 t0 σ) :=
  kQ_ri h
theorem qfM_note (x1 x2 : Int) {σ0 σ : KM} (h : kFr wfM_note σ0 σ) : kQ wfM_note σ0 Prod.snd (fM_note x1 x2 σ) :=
  kQ_wf rfl h fun τ1 h =>
 kQ_call (rfM_isNote _ _) rfl h fun r3 τ2 h =>
 kQ_eq
 (qfM_note_J25  h)
 (kQ_ck <|
 kQ_call (rfM_isIn _ _ _ _) rfl h fun r5 τ4 h =>
 kQ_eq
 (qfM_note_J25  h)
 (kQ_eq
 (kQ_rd fun y10 =>
 qfM_note_J78 _ h)
 (kQ_eq
 (kQ_rd fun y9 =>
 qfM_note_J78 _ h)
 (kQ_eq
 (kQ_rd fun y8 =>
 qfM_note_J78 _ h)
 (kQ_rd fun y6 =>
 kQ_rm fun y7 =>
 qfM_note_J78 _ h)))))
theorem rfM_note (x1 x2 : Int) (σ : KM) : kQ wfM_note σ Prod.snd (fM_note x1 x2 σ) := qfM_note x1 x2 kFr.rf
abbrev wfM_outside : List (Nat × Option Int) := [(10, some 0), (10, some 27), (10, some 37), (10, some 38), (55, none), (56, none), (57, none), (58, none), (59, none), (61, none), (62, none), (63, none), (64, none)]
theorem qfM_outside_J59 (x1 : Int) {σ0 σ : KM} (h : kFr wfM_outside σ0 σ) : kQ wfM_outside σ0 Prod.snd (fM_outside_J59 x1 σ) :=
  kQ_ri h
theorem qfM_outside_J51 (x2 t0 t1 : Int) {σ0 σ : KM} (h : kFr wfM_outside σ0 σ) : kQ wfM_outside σ0 (Sum.elim (fun s : Int × Int × KM => s.2.2) Prod.snd) (fM_outside_J51 x2 t0 t1 σ) :=
  kQ_let fun y1 =>
 kQ_let fun y2 =>
 kQ_inl h
theorem qfM_outside_J50 (x2 t0 : Int) {σ0 σ : KM} (h : kFr wfM_outside σ0 σ) : kQ wfM_outside σ0 (Sum.elim (fun s : Int × Int × KM => s.2.2) Prod.snd) (fM_outside_J50 x2 t0 σ) :=
  qfM_outside_J51 _ _ _ h
theorem qfM_outside_B19 (x1 x2 : Int) {σ0 σ : KM} (h : kFr wfM_outside σ0 σ) : kQ wfM_outside σ0 (Sum.elim (fun s : Int × Int × KM => s.2.2) Prod.snd) (fM_outside_B19 x1 x2 σ) :=
  kQ_lt
 (kQ_rd fun y1 =>
 kQ_eq
 (kQ_call (rfM_romanNow _ _) rfl h fun r3 τ2 h =>
 kQ_eq
 (qfM_outside_J51 _ _ _ h)
 (qfM_outside_J50 _ _ h))
 (qfM_outside_J50 _ _ h))
 (kQ_exit (qfM_outside_J59 _ h))
theorem qfM_outside_L19 (x1 x2 : Int) {σ0 σ : KM} (h : kFr wfM_outside σ0 σ) : kQ wfM_outside σ0 Prod.snd (fM_outside_L19 x1 x2 σ) :=
  kQ_iter (mf := fun s : Int × Int × KM => s.2.2) (fun s h => qfM_outside_B19 s.1 s.2.1 h) kF (x1, x2, σ) h
theorem qfM_outside {σ0 σ : KM} (h : kFr wfM_outside σ0 σ) : kQ wfM_outside σ0 Prod.snd (fM_outside σ) :=
  kQ_wf rfl h fun τ1 h =>
 kQ_call (rfM_hasPath _) rfl h fun r3 τ2 h =>
 kQ_eq
 (kQ_ri h)
 (qfM_outside_L19 _ _ h)
theorem rfM_outside (σ : KM) : kQ wfM_outside σ Prod.snd (fM_outside σ) := qfM_outside  kFr.rf
abbrev wfM_rankedNow : List (Nat × Option Int) := []
theorem qfM_rankedNow_J81 {σ0 σ : KM} (h : kFr wfM_rankedNow σ0 σ) : kQ wfM_rankedNow σ0 Prod.snd (fM_rankedNow_J81 σ) :=
  kQ_ri h
theorem qfM_rankedNow_J73 (x2 : Int) {σ0 σ : KM} (h : kFr wfM_rankedNow σ0 σ) : kQ wfM_rankedNow σ0 Prod.snd (fM_rankedNow_J73 x2 σ) :=
  kQ_ri h
theorem qfM_rankedNow_J68 (x1 x2 x3 : Int) {σ0 σ : KM} (h : kFr wfM_rankedNow σ0 σ) : kQ wfM_rankedNow σ0 (Sum.elim (fun s : Int × KM => s.2) Prod.snd) (fM_rankedNow_J68 x1 x2 x3 σ) :=
  kQ_eq
 (kQ_exit (qfM_rankedNow_J73 _ h))
 (kQ_let fun y1 =>
 kQ_inl h)
theorem qfM_rankedNow_J60 (x1 x2 x4 t0 t1 : Int) {σ0 σ : KM} (h : kFr wfM_rankedNow σ0 σ) : kQ wfM_rankedNow σ0 (Sum.elim (fun s : Int × Int × KM => s.2.2) (Sum.elim (fun s : Int × KM => s.2) Prod.snd)) (fM_rankedNow_J60 x1 x2 x4 t0 t1 σ) :=
  kQ_let fun y1 =>
 kQ_let fun y2 =>
 kQ_inl h
theorem qfM_rankedNow_J55 (x1 x2 x4 t0 : Int) {σ0 σ : KM} (h : kFr wfM_rankedNow σ0 σ) : kQ wfM_rankedNow σ0 (Sum.elim (fun s : Int × Int × KM => s.2.2) (Sum.elim (fun s : Int × KM => s.2) Prod.snd)) (fM_rankedNow_J55 x1 x2 x4 t0 σ) :=
  qfM_rankedNow_J60 _ _ _ _ _ h
theorem qfM_rankedNow_J59 (x1 x2 x4 t0 : Int) {σ0 σ : KM} (h : kFr wfM_rankedNow σ0 σ) : kQ wfM_rankedNow σ0 (Sum.elim (fun s : Int × Int × KM => s.2.2) (Sum.elim (fun s : Int × KM => s.2) Prod.snd)) (fM_rankedNow_J59 x1 x2 x4 t0 σ) :=
  qfM_rankedNow_J60 _ _ _ _ _ h
theorem qfM_rankedNow_B13 (x1 x2 x3 x4 : Int) {σ0 σ : KM} (h : kFr wfM_rankedNow σ0 σ) : kQ wfM_rankedNow σ0 (Sum.elim (fun s : Int × Int × KM => s.2.2) (Sum.elim (fun s : Int × KM => s.2) Prod.snd)) (fM_rankedNow_B13 x1 x2 x3 x4 σ) :=
  kQ_lt
 (kQ_call (rfM_fitted _ _) rfl h fun r2 τ1 h =>
 kQ_call (rfM_fitted _ _) rfl h fun r4 τ3 h =>
 kQ_lt
 (qfM_rankedNow_J55 _ _ _ _ h)
 (kQ_call (rfM_fitted _ _) rfl h fun r6 τ5 h =>
 kQ_call (rfM_fitted _ _) rfl h fun r8 τ7 h =>
 kQ_eq
 (kQ_lt
 (qfM_rankedNow_J55 _ _ _ _ h)
 (qfM_rankedNow_J59 _ _ _ _ h))
 (qfM_rankedNow_J59 _ _ _ _ h)))
 (kQ_exit (qfM_rankedNow_J68 _ _ _ h))
theorem qfM_rankedNow_L13 (x1 x2 x3 x4 : Int) {σ0 σ : KM} (h : kFr wfM_rankedNow σ0 σ) : kQ wfM_rankedNow σ0 (Sum.elim (fun s : Int × KM => s.2) Prod.snd) (fM_rankedNow_L13 x1 x2 x3 x4 σ) :=
  kQ_iter (mf := fun s : Int × Int × KM => s.2.2) (fun s h => qfM_rankedNow_B13 x1 x2 s.1 s.2.1 h) kF (x3, x4, σ) h
theorem qfM_rankedNow_B2 (x1 x2 : Int) {σ0 σ : KM} (h : kFr wfM_rankedNow σ0 σ) : kQ wfM_rankedNow σ0 (Sum.elim (fun s : Int × KM => s.2) Prod.snd) (fM_rankedNow_B2 x1 x2 σ) :=
  kQ_lt
 (qfM_rankedNow_L13 _ _ _ _ h)
 (kQ_exit (qfM_rankedNow_J81  h))
theorem qfM_rankedNow_L2 (x1 x2 : Int) {σ0 σ : KM} (h : kFr wfM_rankedNow σ0 σ) : kQ wfM_rankedNow σ0 Prod.snd (fM_rankedNow_L2 x1 x2 σ) :=
  kQ_iter (mf := fun s : Int × KM => s.2) (fun s h => qfM_rankedNow_B2 x1 s.1 h) kF (x2, σ) h
theorem qfM_rankedNow (x1 : Int) {σ0 σ : KM} (h : kFr wfM_rankedNow σ0 σ) : kQ wfM_rankedNow σ0 Prod.snd (fM_rankedNow x1 σ) :=
  qfM_rankedNow_L2 _ _ h
theorem rfM_rankedNow (x1 : Int) (σ : KM) : kQ wfM_rankedNow σ Prod.snd (fM_rankedNow x1 σ) := qfM_rankedNow x1 kFr.rf
abbrev wfM_overall : List (Nat × Option Int) := [(10, some 0), (10, some 27), (55, none)]
theorem qfM_overall (x1 : Int) {σ0 σ : KM} (h : kFr wfM_overall σ0 σ) : kQ wfM_overall σ0 Prod.snd (fM_overall x1 σ) :=
  kQ_wf rfl h fun τ1 h =>
 kQ_call (rfM_isKey _ _) rfl h fun r3 τ2 h =>
 kQ_eq
 (kQ_ri h)
 (kQ_call (rfM_theEnd _) rfl h fun r5 τ4 h =>
 kQ_call (rfM_counted _ _ _) rfl h fun _ τ6 h =>
 kQ_call (rfM_rankedNow _ _) rfl h fun r8 τ7 h =>
 kQ_ri h)
theorem rfM_overall (x1 : Int) (σ : KM) : kQ wfM_overall σ Prod.snd (fM_overall x1 σ) := qfM_overall x1 kFr.rf
abbrev wfM_pin : List (Nat × Option Int) := [(10, some 0), (53, none)]
theorem qfM_pin_J29 {σ0 σ : KM} (h : kFr wfM_pin σ0 σ) : kQ wfM_pin σ0 Prod.snd (fM_pin_J29 σ) :=
  kQ_ri h
theorem qfM_pin_J32 (x1 x2 : Int) {σ0 σ : KM} (h : kFr wfM_pin σ0 σ) : kQ wfM_pin σ0 Prod.snd (fM_pin_J32 x1 x2 σ) :=
  kQ_rd fun y1 =>
 kQ_wr rfl h fun τ2 h =>
 kQ_ri h
theorem qfM_pin (x1 x2 : Int) {σ0 σ : KM} (h : kFr wfM_pin σ0 σ) : kQ wfM_pin σ0 Prod.snd (fM_pin x1 x2 σ) :=
  kQ_wf rfl h fun τ1 h =>
 kQ_ck <|
 kQ_call (rfM_isIn _ _ _ _) rfl h fun r3 τ2 h =>
 kQ_eq
 (qfM_pin_J29  h)
 (kQ_eq
 (qfM_pin_J32 _ _ h)
 (kQ_call (rfM_isKey _ _) rfl h fun r5 τ4 h =>
 kQ_eq
 (qfM_pin_J29  h)
 (qfM_pin_J32 _ _ h)))
theorem rfM_pin (x1 x2 : Int) (σ : KM) : kQ wfM_pin σ Prod.snd (fM_pin x1 x2 σ) := qfM_pin x1 x2 kFr.rf
abbrev wfM_pivot : List (Nat × Option Int) := [(10, some 0), (10, some 27), (10, some 37), (10, some 38), (55, none), (56, none), (57, none), (58, none), (59, none), (61, none), (62, none), (63, none), (64, none), (67, none)]
theorem qfM_pivot_J43 {σ0 σ : KM} (h : kFr wfM_pivot σ0 σ) : kQ wfM_pivot σ0 Prod.snd (fM_pivot_J43 σ) :=
  kQ_ri h
theorem qfM_pivot_J327 (t0 : Int) {σ0 σ : KM} (h : kFr wfM_pivot σ0 σ) : kQ wfM_pivot σ0 Prod.snd (fM_pivot_J327 t0 σ) :=
  kQ_ri h
theorem qfM_pivot_J268 (x2 x3 x4 x5 : Int) {σ0 σ : KM} (h : kFr wfM_pivot σ0 σ) : kQ wfM_pivot σ0 Prod.snd (fM_pivot_J268 x2 x3 x4 x5 σ) :=
  kQ_eq
 (kQ_ri h)
 (kQ_eq
 (qfM_pivot_J327 _ h)
 (kQ_eq
 (kQ_rd fun y4 =>
 kQ_call (rfM_degreeOf _ _ _) rfl h fun r6 τ5 h =>
 qfM_pivot_J327 _ h)
 (kQ_eq
 (kQ_rd fun y1 =>
 kQ_call (rfM_degreeOf _ _ _) rfl h fun r3 τ2 h =>
 qfM_pivot_J327 _ h)
 (qfM_pivot_J327 _ h))))
theorem qfM_pivot_J262 (x2 x3 x4 x5 x6 : Int) {σ0 σ : KM} (h : kFr wfM_pivot σ0 σ) : kQ wfM_pivot σ0 (Sum.elim (fun s : Int × Int × Int × KM => s.2.2.2) Prod.snd) (fM_pivot_J262 x2 x3 x4 x5 x6 σ) :=
  kQ_let fun y1 =>
 kQ_inl h
theorem qfM_pivot_J244 (x2 x3 x4 x5 x6 x7 : Int) {σ0 σ : KM} (h : kFr wfM_pivot σ0 σ) : kQ wfM_pivot σ0 (Sum.elim (fun s : Int × Int × Int × KM => s.2.2.2) Prod.snd) (fM_pivot_J244 x2 x3 x4 x5 x6 x7 σ) :=
  kQ_lt
 (qfM_pivot_J262 _ _ _ _ _ h)
 (qfM_pivot_J262 _ _ _ _ _ h)
theorem qfM_pivot_J236 (x2 x3 x4 x5 x6 x8 t0 : Int) {σ0 σ : KM} (h : kFr wfM_pivot σ0 σ) : kQ wfM_pivot σ0 (Sum.elim (fun s : Int × Int × KM => s.2.2) (Sum.elim (fun s : Int × Int × Int × KM => s.2.2.2) Prod.snd)) (fM_pivot_J236 x2 x3 x4 x5 x6 x8 t0 σ) :=
  kQ_let fun y1 =>
 kQ_inl h
theorem qfM_pivot_B196 (x2 x3 x4 x5 x6 x7 x8 : Int) {σ0 σ : KM} (h : kFr wfM_pivot σ0 σ) : kQ wfM_pivot σ0 (Sum.elim (fun s : Int × Int × KM => s.2.2) (Sum.elim (fun s : Int × Int × Int × KM => s.2.2.2) Prod.snd)) (fM_pivot_B196 x2 x3 x4 x5 x6 x7 x8 σ) :=
  kQ_lt
 (kQ_call (rfM_toneOf _ _ _) rfl h fun r2 τ1 h =>
 kQ_rd fun y3 =>
 kQ_lt
 (kQ_call (rfM_toneOf _ _ _) rfl h fun r5 τ4 h =>
 kQ_rd fun y6 =>
 qfM_pivot_J236 _ _ _ _ _ _ _ h)
 (qfM_pivot_J236 _ _ _ _ _ _ _ h))
 (kQ_exit (qfM_pivot_J244 _ _ _ _ _ _ h))
theorem qfM_pivot_L196 (x2 x3 x4 x5 x6 x7 x8 : Int) {σ0 σ : KM} (h : kFr wfM_pivot σ0 σ) : kQ wfM_pivot σ0 (Sum.elim (fun s : Int × Int × Int × KM => s.2.2.2) Prod.snd) (fM_pivot_L196 x2 x3 x4 x5 x6 x7 x8 σ) :=
  kQ_iter (mf := fun s : Int × Int × KM => s.2.2) (fun s h => qfM_pivot_B196 x2 x3 x4 x5 x6 s.1 s.2.1 h) kF (x7, x8, σ) h
theorem qfM_pivot_B138 (x2 x3 x4 x5 x6 : Int) {σ0 σ : KM} (h : kFr wfM_pivot σ0 σ) : kQ wfM_pivot σ0 (Sum.elim (fun s : Int × Int × Int × KM => s.2.2.2) Prod.snd) (fM_pivot_B138 x2 x3 x4 x5 x6 σ) :=
  kQ_lt
 (kQ_rd fun y1 =>
 kQ_call (rfM_degreeOf _ _ _) rfl h fun r3 τ2 h =>
 kQ_eq
 (qfM_pivot_J262 _ _ _ _ _ h)
 (kQ_rd fun y4 =>
 kQ_call (rfM_degreeOf _ _ _) rfl h fun r6 τ5 h =>
 kQ_eq
 (qfM_pivot_J262 _ _ _ _ _ h)
 (kQ_call (rfM_toneOf _ _ _) rfl h fun r8 τ7 h =>
 kQ_rd fun y9 =>
 qfM_pivot_L196 _ _ _ _ _ _ _ h)))
 (kQ_exit (qfM_pivot_J268 _ _ _ _ h))
theorem qfM_pivot_L138 (x2 x3 x4 x5 x6 : Int) {σ0 σ : KM} (h : kFr wfM_pivot σ0 σ) : kQ wfM_pivot σ0 Prod.snd (fM_pivot_L138 x2 x3 x4 x5 x6 σ) :=
  kQ_iter (mf := fun s : Int × Int × Int × KM => s.2.2.2) (fun s h => qfM_pivot_B138 x2 x3 s.1 s.2.1 s.2.2.1 h) kF (x4, x5, x6, σ) h
theorem qfM_pivot_J129 (x2 x3 : Int) {σ0 σ : KM} (h : kFr wfM_pivot σ0 σ) : kQ wfM_pivot σ0 Prod.snd (fM_pivot_J129 x2 x3 σ) :=
  qfM_pivot_L138 _ _ _ _ _ h
theorem qfM_pivot_B99 (x2 x3 x4 : Int) {σ0 σ : KM} (h : kFr wfM_pivot σ0 σ) : kQ wfM_pivot σ0 (Sum.elim (fun s : Int × KM => s.2) Prod.snd) (fM_pivot_B99 x2 x3 x4 σ) :=
  kQ_lt
 (kQ_rd fun y1 =>
 kQ_rd fun y2 =>
 kQ_wr rfl h fun τ3 h =>
 kQ_let fun y4 =>
 kQ_inl h)
 (kQ_exit (qfM_pivot_J129 _ _ h))
theorem qfM_pivot_L99 (x2 x3 x4 : Int) {σ0 σ : KM} (h : kFr wfM_pivot σ0 σ) : kQ wfM_pivot σ0 Prod.snd (fM_pivot_L99 x2 x3 x4 σ) :=
  kQ_iter (mf := fun s : Int × KM => s.2) (fun s h => qfM_pivot_B99 x2 x3 s.1 h) kF (x4, σ) h
theorem qfM_pivot_J91 (x2 x3 : Int) {σ0 σ : KM} (h : kFr wfM_pivot σ0 σ) : kQ wfM_pivot σ0 Prod.snd (fM_pivot_J91 x2 x3 σ) :=
  kQ_call (rfM_countedIn _ _) rfl h fun _ τ1 h =>
 qfM_pivot_L99 _ _ _ h
theorem qfM_pivot_B64 (x2 x3 x4 : Int) {σ0 σ : KM} (h : kFr wfM_pivot σ0 σ) : kQ wfM_pivot σ0 (Sum.elim (fun s : Int × KM => s.2) Prod.snd) (fM_pivot_B64 x2 x3 x4 σ) :=
  kQ_lt
 (kQ_rd fun y1 =>
 kQ_wr rfl h fun τ2 h =>
 kQ_let fun y3 =>
 kQ_inl h)
 (kQ_exit (qfM_pivot_J91 _ _ h))
theorem qfM_pivot_L64 (x2 x3 x4 : Int) {σ0 σ : KM} (h : kFr wfM_pivot σ0 σ) : kQ wfM_pivot σ0 Prod.snd (fM_pivot_L64 x2 x3 x4 σ) :=
  kQ_iter (mf := fun s : Int × KM => s.2) (fun s h => qfM_pivot_B64 x2 x3 s.1 h) kF (x4, σ) h
theorem qfM_pivot (x1 x2 : Int) {σ0 σ : KM} (h : kFr wfM_pivot σ0 σ) : kQ wfM_pivot σ0 Prod.snd (fM_pivot x1 x2 σ) :=
  kQ_wf rfl h fun τ1 h =>
 kQ_call (rfM_hasPath _) rfl h fun r3 τ2 h =>
 kQ_eq
 (kQ_ri h)
 (kQ_ck <|
 kQ_call (rfM_segmentsNow _) rfl h fun r5 τ4 h =>
 kQ_ck <|
 kQ_call (rfM_isIn _ _ _ _) rfl h fun r7 τ6 h =>
 kQ_eq
 (qfM_pivot_J43  h)
 (kQ_ck <|
 kQ_call (rfM_isIn _ _ _ _) rfl h fun r9 τ8 h =>
 kQ_eq
 (qfM_pivot_J43  h)
 (kQ_call (rfM_firstOf _ _) rfl h fun r11 τ10 h =>
 kQ_call (rfM_countedIn _ _) rfl h fun _ τ12 h =>
 qfM_pivot_L64 _ _ _ h)))
theorem rfM_pivot (x1 x2 : Int) (σ : KM) : kQ wfM_pivot σ Prod.snd (fM_pivot x1 x2 σ) := qfM_pivot x1 x2 kFr.rf
abbrev wfM_progression : List (Nat × Option Int) := [(10, some 0), (10, some 27), (55, none)]
theorem qfM_progression_J86 (t0 : Int) {σ0 σ : KM} (h : kFr wfM_progression σ0 σ) : kQ wfM_progression σ0 Prod.snd (fM_progression_J86 t0 σ) :=
  kQ_ri h
theorem qfM_progression_J76 (x1 x2 : Int) {σ0 σ : KM} (h : kFr wfM_progression σ0 σ) : kQ wfM_progression σ0 Prod.snd (fM_progression_J76 x1 x2 σ) :=
  kQ_eq
 (qfM_progression_J86 _ h)
 (qfM_progression_J86 _ h)
theorem qfM_progression_J70 (x1 x2 x3 x4 : Int) {σ0 σ : KM} (h : kFr wfM_progression σ0 σ) : kQ wfM_progression σ0 (Sum.elim (fun s : Int × Int × Int × KM => s.2.2.2) Prod.snd) (fM_progression_J70 x1 x2 x3 x4 σ) :=
  kQ_let fun y1 =>
 kQ_inl h
theorem qfM_progression_J61 (x5 : Int) {σ0 σ : KM} (h : kFr wfM_progression σ0 σ) : kQ wfM_progression σ0 Prod.snd (fM_progression_J61 x5 σ) :=
  kQ_ri h
theorem qfM_progression_B20 (x1 x2 x3 x4 : Int) {σ0 σ : KM} (h : kFr wfM_progression σ0 σ) : kQ wfM_progression σ0 (Sum.elim (fun s : Int × Int × Int × KM => s.2.2.2) Prod.snd) (fM_progression_B20 x1 x2 x3 x4 σ) :=
  kQ_call (rfM_windowMany _) rfl h fun r2 τ1 h =>
 kQ_lt
 (kQ_call (rfM_countedIn _ _) rfl h fun _ τ3 h =>
 kQ_call (rfM_chordNow _) rfl h fun r5 τ4 h =>
 kQ_eq
 (qfM_progression_J70 _ _ _ _ h)
 (kQ_eq
 (qfM_progression_J70 _ _ _ _ h)
 (kQ_eq
 (kQ_exit (qfM_progression_J61 _ h))
 (kQ_let fun y6 =>
 qfM_progression_J70 _ _ _ _ h))))
 (kQ_exit (qfM_progression_J76 _ _ h))
theorem qfM_progression_L20 (x1 x2 x3 x4 : Int) {σ0 σ : KM} (h : kFr wfM_progression σ0 σ) : kQ wfM_progression σ0 Prod.snd (fM_progression_L20 x1 x2 x3 x4 σ) :=
  kQ_iter (mf := fun s : Int × Int × Int × KM => s.2.2.2) (fun s h => qfM_progression_B20 x1 s.1 s.2.1 s.2.2.1 h) kF (x2, x3, x4, σ) h
theorem qfM_progression (x1 : Int) {σ0 σ : KM} (h : kFr wfM_progression σ0 σ) : kQ wfM_progression σ0 Prod.snd (fM_progression x1 σ) :=
  kQ_wf rfl h fun τ1 h =>
 kQ_lt
 (kQ_ri h)
 (qfM_progression_L20 _ _ _ _ h)
theorem rfM_progression (x1 : Int) (σ : KM) : kQ wfM_progression σ Prod.snd (fM_progression x1 σ) := qfM_progression x1 kFr.rf
abbrev wfM_put : List (Nat × Option Int) := [(10, some 0), (10, some 7), (10, some 10), (45, none), (46, none), (47, none), (51, none)]
theorem qfM_put_J50 {σ0 σ : KM} (h : kFr wfM_put σ0 σ) : kQ wfM_put σ0 Prod.snd (fM_put_J50 σ) :=
  kQ_ri h
theorem qfM_put (x1 x2 x3 : Int) {σ0 σ : KM} (h : kFr wfM_put σ0 σ) : kQ wfM_put σ0 Prod.snd (fM_put x1 x2 x3 σ) :=
  kQ_wf rfl h fun τ1 h =>
 kQ_ck <|
 kQ_call (rfM_isIn _ _ _ _) rfl h fun r3 τ2 h =>
 kQ_eq
 (qfM_put_J50  h)
 (kQ_ck <|
 kQ_call (rfM_isIn _ _ _ _) rfl h fun r5 τ4 h =>
 kQ_eq
 (qfM_put_J50  h)
 (kQ_ck <|
 kQ_call (rfM_isIn _ _ _ _) rfl h fun r7 τ6 h =>
 kQ_eq
 (qfM_put_J50  h)
 (kQ_lt
 (qfM_put_J50  h)
 (kQ_eq
 (kQ_ri h)
 (kQ_call (rfM_notesAct _) rfl h fun _ τ8 h =>
 kQ_call (rfM_comes _ _ _ _) rfl h fun r10 τ9 h =>
 kQ_ri h)))))
theorem rfM_put (x1 x2 x3 : Int) (σ : KM) : kQ wfM_put σ Prod.snd (fM_put x1 x2 x3 σ) := qfM_put x1 x2 x3 kFr.rf
abbrev wfM_ranked : List (Nat × Option Int) := [(10, some 0), (10, some 27), (55, none)]
theorem qfM_ranked (x1 x2 : Int) {σ0 σ : KM} (h : kFr wfM_ranked σ0 σ) : kQ wfM_ranked σ0 Prod.snd (fM_ranked x1 x2 σ) :=
  kQ_wf rfl h fun τ1 h =>
 kQ_call (rfM_isWindow _ _) rfl h fun r3 τ2 h =>
 kQ_eq
 (kQ_ri h)
 (kQ_call (rfM_isKey _ _) rfl h fun r5 τ4 h =>
 kQ_eq
 (kQ_ri h)
 (kQ_call (rfM_countedIn _ _) rfl h fun _ τ6 h =>
 kQ_call (rfM_rankedNow _ _) rfl h fun r8 τ7 h =>
 kQ_ri h))
theorem rfM_ranked (x1 x2 : Int) (σ : KM) : kQ wfM_ranked σ Prod.snd (fM_ranked x1 x2 σ) := qfM_ranked x1 x2 kFr.rf
abbrev wfM_roman : List (Nat × Option Int) := [(10, some 0), (10, some 27), (10, some 37), (10, some 38), (55, none), (56, none), (57, none), (58, none), (59, none), (61, none), (62, none), (63, none), (64, none)]
theorem qfM_roman_J33 (t0 : Int) {σ0 σ : KM} (h : kFr wfM_roman σ0 σ) : kQ wfM_roman σ0 Prod.snd (fM_roman_J33 t0 σ) :=
  kQ_ri h
theorem qfM_roman (x1 : Int) {σ0 σ : KM} (h : kFr wfM_roman σ0 σ) : kQ wfM_roman σ0 Prod.snd (fM_roman x1 σ) :=
  kQ_wf rfl h fun τ1 h =>
 kQ_call (rfM_isWindow _ _) rfl h fun r3 τ2 h =>
 kQ_eq
 (kQ_ri h)
 (kQ_call (rfM_hasPath _) rfl h fun r5 τ4 h =>
 kQ_eq
 (qfM_roman_J33 _ h)
 (kQ_call (rfM_romanNow _ _) rfl h fun r7 τ6 h =>
 qfM_roman_J33 _ h))
theorem rfM_roman (x1 : Int) (σ : KM) : kQ wfM_roman σ Prod.snd (fM_roman x1 σ) := qfM_roman x1 kFr.rf
abbrev wfM_second : List (Nat × Option Int) := [(10, some 0), (10, some 27), (10, some 37), (10, some 38), (55, none), (56, none), (57, none), (58, none), (59, none), (61, none), (62, none), (63, none), (64, none)]
theorem qfM_second_J231 (t0 : Int) {σ0 σ : KM} (h : kFr wfM_second σ0 σ) : kQ wfM_second σ0 Prod.snd (fM_second_J231 t0 σ) :=
  kQ_ri h
theorem qfM_second_J212 (x1 x2 x3 : Int) {σ0 σ : KM} (h : kFr wfM_second σ0 σ) : kQ wfM_second σ0 Prod.snd (fM_second_J212 x1 x2 x3 σ) :=
  kQ_lt
 (kQ_eq
 (qfM_second_J231 _ h)
 (qfM_second_J231 _ h))
 (qfM_second_J231 _ h)
theorem qfM_second_J202 (x1 x2 x3 x5 t0 t1 t2 : Int) {σ0 σ : KM} (h : kFr wfM_second σ0 σ) : kQ wfM_second σ0 (Sum.elim (fun s : Int × Int × Int × Int × KM => s.2.2.2.2) Prod.snd) (fM_second_J202 x1 x2 x3 x5 t0 t1 t2 σ) :=
  kQ_let fun y1 =>
 kQ_let fun y2 =>
 kQ_inl h
theorem qfM_second_J147 (x1 x2 x3 x4 x5 : Int) {σ0 σ : KM} (h : kFr wfM_second σ0 σ) : kQ wfM_second σ0 (Sum.elim (fun s : Int × Int × Int × Int × KM => s.2.2.2.2) Prod.snd) (fM_second_J147 x1 x2 x3 x4 x5 σ) :=
  kQ_rd fun y1 =>
 kQ_rd fun y2 =>
 kQ_eq
 (qfM_second_J202 _ _ _ _ _ _ _ h)
 (kQ_rd fun y3 =>
 kQ_rd fun y4 =>
 kQ_call (rfM_moves _ _ _ _ _) rfl h fun r6 τ5 h =>
 qfM_second_J202 _ _ _ _ _ _ _ h)
theorem qfM_second_J141 (x1 x2 x3 x4 x5 x6 : Int) {σ0 σ : KM} (h : kFr wfM_second σ0 σ) : kQ wfM_second σ0 (Sum.elim (fun s : Int × Int × Int × KM => s.2.2.2) (Sum.elim (fun s : Int × Int × Int × Int × KM => s.2.2.2.2) Prod.snd)) (fM_second_J141 x1 x2 x3 x4 x5 x6 σ) :=
  kQ_let fun y1 =>
 kQ_inl h
theorem qfM_second_J105 (x1 x2 x3 x4 x5 x6 t0 t1 : Int) {σ0 σ : KM} (h : kFr wfM_second σ0 σ) : kQ wfM_second σ0 (Sum.elim (fun s : Int × Int × Int × KM => s.2.2.2) (Sum.elim (fun s : Int × Int × Int × Int × KM => s.2.2.2.2) Prod.snd)) (fM_second_J105 x1 x2 x3 x4 x5 x6 t0 t1 σ) :=
  kQ_call (rfM_added _ _ _) rfl h fun r2 τ1 h =>
 kQ_rd fun y3 =>
 kQ_call (rfM_added _ _ _) rfl h fun r5 τ4 h =>
 kQ_lt
 (qfM_second_J141 _ _ _ _ _ _ h)
 (qfM_second_J141 _ _ _ _ _ _ h)
theorem qfM_second_B51 (x1 x4 x5 x2 x3 x6 : Int) {σ0 σ : KM} (h : kFr wfM_second σ0 σ) : kQ wfM_second σ0 (Sum.elim (fun s : Int × Int × Int × KM => s.2.2.2) (Sum.elim (fun s : Int × Int × Int × Int × KM => s.2.2.2.2) Prod.snd)) (fM_second_B51 x1 x4 x5 x2 x3 x6 σ) :=
  kQ_lt
 (kQ_rd fun y1 =>
 kQ_eq
 (qfM_second_J141 _ _ _ _ _ _ h)
 (kQ_eq
 (qfM_second_J105 _ _ _ _ _ _ _ _ h)
 (kQ_rd fun y2 =>
 kQ_call (rfM_moves _ _ _ _ _) rfl h fun r4 τ3 h =>
 qfM_second_J105 _ _ _ _ _ _ _ _ h)))
 (kQ_exit (qfM_second_J147 _ _ _ _ _ h))
theorem qfM_second_L51 (x1 x4 x5 x2 x3 x6 : Int) {σ0 σ : KM} (h : kFr wfM_second σ0 σ) : kQ wfM_second σ0 (Sum.elim (fun s : Int × Int × Int × Int × KM => s.2.2.2.2) Prod.snd) (fM_second_L51 x1 x4 x5 x2 x3 x6 σ) :=
  kQ_iter (mf := fun s : Int × Int × Int × KM => s.2.2.2) (fun s h => qfM_second_B51 x1 x4 x5 s.1 s.2.1 s.2.2.1 h) kF (x2, x3, x6, σ) h
theorem qfM_second_B39 (x1 x2 x3 x4 x5 : Int) {σ0 σ : KM} (h : kFr wfM_second σ0 σ) : kQ wfM_second σ0 (Sum.elim (fun s : Int × Int × Int × Int × KM => s.2.2.2.2) Prod.snd) (fM_second_B39 x1 x2 x3 x4 x5 σ) :=
  kQ_lt
 (qfM_second_L51 _ _ _ _ _ _ h)
 (kQ_exit (qfM_second_J212 _ _ _ h))
theorem qfM_second_L39 (x1 x2 x3 x4 x5 : Int) {σ0 σ : KM} (h : kFr wfM_second σ0 σ) : kQ wfM_second σ0 Prod.snd (fM_second_L39 x1 x2 x3 x4 x5 σ) :=
  kQ_iter (mf := fun s : Int × Int × Int × Int × KM => s.2.2.2.2) (fun s h => qfM_second_B39 x1 s.1 s.2.1 s.2.2.1 s.2.2.2.1 h) kF (x2, x3, x4, x5, σ) h
theorem qfM_second (x1 : Int) {σ0 σ : KM} (h : kFr wfM_second σ0 σ) : kQ wfM_second σ0 Prod.snd (fM_second x1 σ) :=
  kQ_wf rfl h fun τ1 h =>
 kQ_ck <|
 kQ_call (rfM_isIn _ _ _ _) rfl h fun r3 τ2 h =>
 kQ_eq
 (kQ_ri h)
 (kQ_call (rfM_hasPath _) rfl h fun r5 τ4 h =>
 kQ_eq
 (kQ_ri h)
 (qfM_second_L39 _ _ _ _ _ h))
theorem rfM_second (x1 : Int) (σ : KM) : kQ wfM_second σ Prod.snd (fM_second x1 σ) := qfM_second x1 kFr.rf
abbrev wfM_segment : List (Nat × Option Int) := [(10, some 0), (10, some 27), (10, some 37), (10, some 38), (55, none), (56, none), (57, none), (58, none), (59, none), (61, none), (62, none), (63, none), (64, none)]
theorem qfM_segment_J43 {σ0 σ : KM} (h : kFr wfM_segment σ0 σ) : kQ wfM_segment σ0 Prod.snd (fM_segment_J43 σ) :=
  kQ_ri h
theorem qfM_segment_J97 (t0 : Int) {σ0 σ : KM} (h : kFr wfM_segment σ0 σ) : kQ wfM_segment σ0 Prod.snd (fM_segment_J97 t0 σ) :=
  kQ_ri h
theorem qfM_segment (x1 x2 : Int) {σ0 σ : KM} (h : kFr wfM_segment σ0 σ) : kQ wfM_segment σ0 Prod.snd (fM_segment x1 x2 σ) :=
  kQ_wf rfl h fun τ1 h =>
 kQ_call (rfM_hasPath _) rfl h fun r3 τ2 h =>
 kQ_eq
 (kQ_ri h)
 (kQ_ck <|
 kQ_call (rfM_segmentsNow _) rfl h fun r5 τ4 h =>
 kQ_ck <|
 kQ_call (rfM_isIn _ _ _ _) rfl h fun r7 τ6 h =>
 kQ_eq
 (qfM_segment_J43  h)
 (kQ_ck <|
 kQ_call (rfM_isIn _ _ _ _) rfl h fun r9 τ8 h =>
 kQ_eq
 (qfM_segment_J43  h)
 (kQ_call (rfM_firstOf _ _) rfl h fun r11 τ10 h =>
 kQ_eq
 (qfM_segment_J97 _ h)
 (kQ_eq
 (kQ_call (rfM_firstOf _ _) rfl h fun r14 τ13 h =>
 qfM_segment_J97 _ h)
 (kQ_eq
 (kQ_rd fun y12 =>
 qfM_segment_J97 _ h)
 (qfM_segment_J97 _ h))))))
theorem rfM_segment (x1 x2 : Int) (σ : KM) : kQ wfM_segment σ Prod.snd (fM_segment x1 x2 σ) := qfM_segment x1 x2 kFr.rf
abbrev wfM_segments : List (Nat × Option Int) := [(10, some 0), (10, some 27), (10, some 37), (10, some 38), (55, none), (56, none), (57, none), (58, none), (59, none), (61, none), (62, none), (63, none), (64, none)]
theorem qfM_segments_J21 (t0 : Int) {σ0 σ : KM} (h : kFr wfM_segments σ0 σ) : kQ wfM_segments σ0 Prod.snd (fM_segments_J21 t0 σ) :=
  kQ_ri h
theorem qfM_segments {σ0 σ : KM} (h : kFr wfM_segments σ0 σ) : kQ wfM_segments σ0 Prod.snd (fM_segments σ) :=
  kQ_wf rfl h fun τ1 h =>
 kQ_call (rfM_hasPath _) rfl h fun r3 τ2 h =>
 kQ_eq
 (qfM_segments_J21 _ h)
 (kQ_call (rfM_segmentsNow _) rfl h fun r5 τ4 h =>
 qfM_segments_J21 _ h)
theorem rfM_segments (σ : KM) : kQ wfM_segments σ Prod.snd (fM_segments σ) := qfM_segments  kFr.rf
abbrev wfM_shift : List (Nat × Option Int) := [(10, some 0), (10, some 10), (47, none), (51, none)]
theorem qfM_shift_J90 {σ0 σ : KM} (h : kFr wfM_shift σ0 σ) : kQ wfM_shift σ0 Prod.snd (fM_shift_J90 σ) :=
  kQ_ri h
theorem qfM_shift_B66 (x1 x2 : Int) {σ0 σ : KM} (h : kFr wfM_shift σ0 σ) : kQ wfM_shift σ0 (Sum.elim (fun s : Int × KM => s.2) Prod.snd) (fM_shift_B66 x1 x2 σ) :=
  kQ_lt
 (kQ_rd fun y1 =>
 kQ_wr rfl h fun τ2 h =>
 kQ_let fun y3 =>
 kQ_inl h)
 (kQ_exit (qfM_shift_J90  h))
theorem qfM_shift_L66 (x1 x2 : Int) {σ0 σ : KM} (h : kFr wfM_shift σ0 σ) : kQ wfM_shift σ0 Prod.snd (fM_shift_L66 x1 x2 σ) :=
  kQ_iter (mf := fun s : Int × KM => s.2) (fun s h => qfM_shift_B66 x1 s.1 h) kF (x2, σ) h
theorem qfM_shift_J60 (x1 : Int) {σ0 σ : KM} (h : kFr wfM_shift σ0 σ) : kQ wfM_shift σ0 Prod.snd (fM_shift_J60 x1 σ) :=
  kQ_call (rfM_notesAct _) rfl h fun _ τ1 h =>
 qfM_shift_L66 _ _ h
theorem qfM_shift_J51 {σ0 σ : KM} (h : kFr wfM_shift σ0 σ) : kQ wfM_shift σ0 Prod.snd (fM_shift_J51 σ) :=
  kQ_ri h
theorem qfM_shift_B24 (x1 x2 : Int) {σ0 σ : KM} (h : kFr wfM_shift σ0 σ) : kQ wfM_shift σ0 (Sum.elim (fun s : Int × KM => s.2) Prod.snd) (fM_shift_B24 x1 x2 σ) :=
  kQ_lt
 (kQ_rd fun y1 =>
 kQ_ck <|
 kQ_call (rfM_isIn _ _ _ _) rfl h fun r3 τ2 h =>
 kQ_eq
 (kQ_exit (qfM_shift_J51  h))
 (kQ_let fun y4 =>
 kQ_inl h))
 (kQ_exit (qfM_shift_J60 _ h))
theorem qfM_shift_L24 (x1 x2 : Int) {σ0 σ : KM} (h : kFr wfM_shift σ0 σ) : kQ wfM_shift σ0 Prod.snd (fM_shift_L24 x1 x2 σ) :=
  kQ_iter (mf := fun s : Int × KM => s.2) (fun s h => qfM_shift_B24 x1 s.1 h) kF (x2, σ) h
theorem qfM_shift (x1 : Int) {σ0 σ : KM} (h : kFr wfM_shift σ0 σ) : kQ wfM_shift σ0 Prod.snd (fM_shift x1 σ) :=
  kQ_wf rfl h fun τ1 h =>
 kQ_ck <|
 kQ_call (rfM_isIn _ _ _ _) rfl h fun r3 τ2 h =>
 kQ_eq
 (kQ_ri h)
 (qfM_shift_L24 _ _ h)
theorem rfM_shift (x1 : Int) (σ : KM) : kQ wfM_shift σ Prod.snd (fM_shift x1 σ) := qfM_shift x1 kFr.rf
abbrev wfM_laysAhead : List (Nat × Option Int) := [(60, none)]
theorem qfM_laysAhead_J131 {σ0 σ : KM} (h : kFr wfM_laysAhead σ0 σ) : kQ wfM_laysAhead σ0 Prod.snd (fM_laysAhead_J131 σ) :=
  kQ_ri h
theorem qfM_laysAhead_J125 (x1 : Int) {σ0 σ : KM} (h : kFr wfM_laysAhead σ0 σ) : kQ wfM_laysAhead σ0 (Sum.elim (fun s : Int × KM => s.2) Prod.snd) (fM_laysAhead_J125 x1 σ) :=
  kQ_let fun y1 =>
 kQ_inl h
theorem qfM_laysAhead_J93 (x1 x2 x3 : Int) {σ0 σ : KM} (h : kFr wfM_laysAhead σ0 σ) : kQ wfM_laysAhead σ0 (Sum.elim (fun s : Int × KM => s.2) (Sum.elim (fun s : Int × KM => s.2) Prod.snd)) (fM_laysAhead_J93 x1 x2 x3 σ) :=
  kQ_rd fun y1 =>
 kQ_call (rfM_added _ _ _) rfl h fun r3 τ2 h =>
 kQ_wr rfl h fun τ4 h =>
 kQ_let fun y5 =>
 kQ_inl h
theorem qfM_laysAhead_J86 (x1 x2 x4 t0 : Int) {σ0 σ : KM} (h : kFr wfM_laysAhead σ0 σ) : kQ wfM_laysAhead σ0 (Sum.elim (fun s : Int × Int × KM => s.2.2) (Sum.elim (fun s : Int × KM => s.2) (Sum.elim (fun s : Int × KM => s.2) Prod.snd))) (fM_laysAhead_J86 x1 x2 x4 t0 σ) :=
  kQ_let fun y1 =>
 kQ_inl h
theorem qfM_laysAhead_B32 (x1 x2 x3 x4 : Int) {σ0 σ : KM} (h : kFr wfM_laysAhead σ0 σ) : kQ wfM_laysAhead σ0 (Sum.elim (fun s : Int × Int × KM => s.2.2) (Sum.elim (fun s : Int × KM => s.2) (Sum.elim (fun s : Int × KM => s.2) Prod.snd))) (fM_laysAhead_B32 x1 x2 x3 x4 σ) :=
  kQ_lt
 (kQ_lt
 (kQ_rd fun y1 =>
 kQ_call (rfM_moves _ _ _ _ _) rfl h fun r3 τ2 h =>
 kQ_call (rfM_added _ _ _) rfl h fun r5 τ4 h =>
 kQ_lt
 (qfM_laysAhead_J86 _ _ _ _ h)
 (qfM_laysAhead_J86 _ _ _ _ h))
 (kQ_exit (qfM_laysAhead_J93 _ _ _ h)))
 (kQ_exit (qfM_laysAhead_J93 _ _ _ h))
theorem qfM_laysAhead_L32 (x1 x2 x3 x4 : Int) {σ0 σ : KM} (h : kFr wfM_laysAhead σ0 σ) : kQ wfM_laysAhead σ0 (Sum.elim (fun s : Int × KM => s.2) (Sum.elim (fun s : Int × KM => s.2) Prod.snd)) (fM_laysAhead_L32 x1 x2 x3 x4 σ) :=
  kQ_iter (mf := fun s : Int × Int × KM => s.2.2) (fun s h => qfM_laysAhead_B32 x1 x2 s.1 s.2.1 h) kF (x3, x4, σ) h
theorem qfM_laysAhead_J28 (x1 x2 t0 : Int) {σ0 σ : KM} (h : kFr wfM_laysAhead σ0 σ) : kQ wfM_laysAhead σ0 (Sum.elim (fun s : Int × KM => s.2) (Sum.elim (fun s : Int × KM => s.2) Prod.snd)) (fM_laysAhead_J28 x1 x2 t0 σ) :=
  qfM_laysAhead_L32 _ _ _ _ h
theorem qfM_laysAhead_B12 (x1 x2 : Int) {σ0 σ : KM} (h : kFr wfM_laysAhead σ0 σ) : kQ wfM_laysAhead σ0 (Sum.elim (fun s : Int × KM => s.2) (Sum.elim (fun s : Int × KM => s.2) Prod.snd)) (fM_laysAhead_B12 x1 x2 σ) :=
  kQ_lt
 (kQ_eq
 (qfM_laysAhead_J28 _ _ _ h)
 (qfM_laysAhead_J28 _ _ _ h))
 (kQ_exit (qfM_laysAhead_J125 _ h))
theorem qfM_laysAhead_L12 (x1 x2 : Int) {σ0 σ : KM} (h : kFr wfM_laysAhead σ0 σ) : kQ wfM_laysAhead σ0 (Sum.elim (fun s : Int × KM => s.2) Prod.snd) (fM_laysAhead_L12 x1 x2 σ) :=
  kQ_iter (mf := fun s : Int × KM => s.2) (fun s h => qfM_laysAhead_B12 x1 s.1 h) kF (x2, σ) h
theorem qfM_laysAhead_B2 (x1 : Int) {σ0 σ : KM} (h : kFr wfM_laysAhead σ0 σ) : kQ wfM_laysAhead σ0 (Sum.elim (fun s : Int × KM => s.2) Prod.snd) (fM_laysAhead_B2 x1 σ) :=
  kQ_lt
 (qfM_laysAhead_L12 _ _ h)
 (kQ_exit (qfM_laysAhead_J131  h))
theorem qfM_laysAhead_L2 (x1 : Int) {σ0 σ : KM} (h : kFr wfM_laysAhead σ0 σ) : kQ wfM_laysAhead σ0 Prod.snd (fM_laysAhead_L2 x1 σ) :=
  kQ_iter (mf := fun s : Int × KM => s.2) (fun s h => qfM_laysAhead_B2 s.1 h) kF (x1, σ) h
theorem qfM_laysAhead {σ0 σ : KM} (h : kFr wfM_laysAhead σ0 σ) : kQ wfM_laysAhead σ0 Prod.snd (fM_laysAhead σ) :=
  qfM_laysAhead_L2 _ h
theorem rfM_laysAhead (σ : KM) : kQ wfM_laysAhead σ Prod.snd (fM_laysAhead σ) := qfM_laysAhead  kFr.rf
abbrev wfM_throughNow : List (Nat × Option Int) := []
theorem qfM_throughNow_J44 (t0 : Int) {σ0 σ : KM} (h : kFr wfM_throughNow σ0 σ) : kQ wfM_throughNow σ0 Prod.snd (fM_throughNow_J44 t0 σ) :=
  kQ_ri h
theorem qfM_throughNow (x1 x2 : Int) {σ0 σ : KM} (h : kFr wfM_throughNow σ0 σ) : kQ wfM_throughNow σ0 Prod.snd (fM_throughNow x1 x2 σ) :=
  kQ_let fun y1 =>
 kQ_rd fun y2 =>
 kQ_rd fun y3 =>
 kQ_call (rfM_added _ _ _) rfl h fun r5 τ4 h =>
 kQ_lt
 (kQ_rd fun y6 =>
 qfM_throughNow_J44 _ h)
 (qfM_throughNow_J44 _ h)
theorem rfM_throughNow (x1 x2 : Int) (σ : KM) : kQ wfM_throughNow σ Prod.snd (fM_throughNow x1 x2 σ) := qfM_throughNow x1 x2 kFr.rf
abbrev wfM_through : List (Nat × Option Int) := [(10, some 0), (10, some 27), (10, some 37), (10, some 38), (55, none), (56, none), (57, none), (58, none), (59, none), (60, none), (61, none), (62, none), (63, none), (64, none)]
theorem qfM_through_J20 {σ0 σ : KM} (h : kFr wfM_through σ0 σ) : kQ wfM_through σ0 Prod.snd (fM_through_J20 σ) :=
  kQ_ri h
theorem qfM_through (x1 x2 : Int) {σ0 σ : KM} (h : kFr wfM_through σ0 σ) : kQ wfM_through σ0 Prod.snd (fM_through x1 x2 σ) :=
  kQ_wf rfl h fun τ1 h =>
 kQ_call (rfM_isWindow _ _) rfl h fun r3 τ2 h =>
 kQ_eq
 (qfM_through_J20  h)
 (kQ_call (rfM_isKey _ _) rfl h fun r5 τ4 h =>
 kQ_eq
 (qfM_through_J20  h)
 (kQ_call (rfM_hasPath _) rfl h fun r7 τ6 h =>
 kQ_eq
 (kQ_ri h)
 (kQ_call (rfM_laysAhead _) rfl h fun _ τ8 h =>
 kQ_call (rfM_throughNow _ _ _) rfl h fun r10 τ9 h =>
 kQ_ri h)))
theorem rfM_through (x1 x2 : Int) (σ : KM) : kQ wfM_through σ Prod.snd (fM_through x1 x2 σ) := qfM_through x1 x2 kFr.rf
abbrev wfM_ties : List (Nat × Option Int) := [(10, some 0), (10, some 27), (10, some 37), (10, some 38), (55, none), (56, none), (57, none), (58, none), (59, none), (61, none), (62, none), (63, none), (64, none)]
theorem qfM_ties_J87 (t0 : Int) {σ0 σ : KM} (h : kFr wfM_ties σ0 σ) : kQ wfM_ties σ0 Prod.snd (fM_ties_J87 t0 σ) :=
  kQ_ri h
theorem qfM_ties_J73 (x1 : Int) {σ0 σ : KM} (h : kFr wfM_ties σ0 σ) : kQ wfM_ties σ0 Prod.snd (fM_ties_J73 x1 σ) :=
  kQ_lt
 (qfM_ties_J87 _ h)
 (qfM_ties_J87 _ h)
theorem qfM_ties_J65 (x2 t0 t1 : Int) {σ0 σ : KM} (h : kFr wfM_ties σ0 σ) : kQ wfM_ties σ0 (Sum.elim (fun s : Int × Int × KM => s.2.2) Prod.snd) (fM_ties_J65 x2 t0 t1 σ) :=
  kQ_let fun y1 =>
 kQ_let fun y2 =>
 kQ_inl h
theorem qfM_ties_J64 (x2 t0 : Int) {σ0 σ : KM} (h : kFr wfM_ties σ0 σ) : kQ wfM_ties σ0 (Sum.elim (fun s : Int × Int × KM => s.2.2) Prod.snd) (fM_ties_J64 x2 t0 σ) :=
  qfM_ties_J65 _ _ _ h
theorem qfM_ties_B28 (x1 x2 : Int) {σ0 σ : KM} (h : kFr wfM_ties σ0 σ) : kQ wfM_ties σ0 (Sum.elim (fun s : Int × Int × KM => s.2.2) Prod.snd) (fM_ties_B28 x1 x2 σ) :=
  kQ_lt
 (kQ_rd fun y1 =>
 kQ_eq
 (kQ_lt
 (kQ_rd fun y2 =>
 qfM_ties_J65 _ _ _ h)
 (qfM_ties_J64 _ _ h))
 (qfM_ties_J64 _ _ h))
 (kQ_exit (qfM_ties_J73 _ h))
theorem qfM_ties_L28 (x1 x2 : Int) {σ0 σ : KM} (h : kFr wfM_ties σ0 σ) : kQ wfM_ties σ0 Prod.snd (fM_ties_L28 x1 x2 σ) :=
  kQ_iter (mf := fun s : Int × Int × KM => s.2.2) (fun s h => qfM_ties_B28 s.1 s.2.1 h) kF (x1, x2, σ) h
theorem qfM_ties {σ0 σ : KM} (h : kFr wfM_ties σ0 σ) : kQ wfM_ties σ0 Prod.snd (fM_ties σ) :=
  kQ_wf rfl h fun τ1 h =>
 kQ_call (rfM_hasPath _) rfl h fun r3 τ2 h =>
 kQ_eq
 (kQ_ri h)
 (kQ_eq
 (kQ_ri h)
 (qfM_ties_L28 _ _ h))
theorem rfM_ties (σ : KM) : kQ wfM_ties σ Prod.snd (fM_ties σ) := qfM_ties  kFr.rf
abbrev wfM_tones : List (Nat × Option Int) := [(10, some 0), (10, some 27), (55, none)]
theorem qfM_tones_J59 (t0 : Int) {σ0 σ : KM} (h : kFr wfM_tones σ0 σ) : kQ wfM_tones σ0 Prod.snd (fM_tones_J59 t0 σ) :=
  kQ_ri h
theorem qfM_tones_J36 (x1 x2 : Int) {σ0 σ : KM} (h : kFr wfM_tones σ0 σ) : kQ wfM_tones σ0 Prod.snd (fM_tones_J36 x1 x2 σ) :=
  kQ_call (rfM_countedIn _ _) rfl h fun _ τ1 h =>
 kQ_eq
 (qfM_tones_J59 _ h)
 (kQ_rd fun y2 =>
 qfM_tones_J59 _ h)
theorem qfM_tones (x1 x2 : Int) {σ0 σ : KM} (h : kFr wfM_tones σ0 σ) : kQ wfM_tones σ0 Prod.snd (fM_tones x1 x2 σ) :=
  kQ_wf rfl h fun τ1 h =>
 kQ_call (rfM_isWindow _ _) rfl h fun r3 τ2 h =>
 kQ_eq
 (kQ_ri h)
 (kQ_eq
 (qfM_tones_J36 _ _ h)
 (kQ_ck <|
 kQ_call (rfM_isIn _ _ _ _) rfl h fun r5 τ4 h =>
 kQ_eq
 (kQ_ri h)
 (qfM_tones_J36 _ _ h)))
theorem rfM_tones (x1 x2 : Int) (σ : KM) : kQ wfM_tones σ Prod.snd (fM_tones x1 x2 σ) := qfM_tones x1 x2 kFr.rf
abbrev wfM_undo : List (Nat × Option Int) := [(10, some 0), (10, some 7), (10, some 10), (45, none), (46, none), (47, none)]
theorem qfM_undo_J109 {σ0 σ : KM} (h : kFr wfM_undo σ0 σ) : kQ wfM_undo σ0 Prod.snd (fM_undo_J109 σ) :=
  kQ_ri h
theorem qfM_undo_B46 (x1 x2 : Int) {σ0 σ : KM} (h : kFr wfM_undo σ0 σ) : kQ wfM_undo σ0 (Sum.elim (fun s : Int × KM => s.2) Prod.snd) (fM_undo_B46 x1 x2 σ) :=
  kQ_lt
 (kQ_rd fun y1 =>
 kQ_wr rfl h fun τ2 h =>
 kQ_rd fun y3 =>
 kQ_wr rfl h fun τ4 h =>
 kQ_rd fun y5 =>
 kQ_wr rfl h fun τ6 h =>
 kQ_let fun y7 =>
 kQ_inl h)
 (kQ_exit (qfM_undo_J109  h))
theorem qfM_undo_L46 (x1 x2 : Int) {σ0 σ : KM} (h : kFr wfM_undo σ0 σ) : kQ wfM_undo σ0 Prod.snd (fM_undo_L46 x1 x2 σ) :=
  kQ_iter (mf := fun s : Int × KM => s.2) (fun s h => qfM_undo_B46 x1 s.1 h) kF (x2, σ) h
theorem qfM_undo {σ0 σ : KM} (h : kFr wfM_undo σ0 σ) : kQ wfM_undo σ0 Prod.snd (fM_undo σ) :=
  kQ_wf rfl h fun τ1 h =>
 kQ_eq
 (kQ_ri h)
 (kQ_wf rfl h fun τ2 h =>
 kQ_let fun y3 =>
 kQ_rd fun y4 =>
 kQ_wf rfl h fun τ5 h =>
 qfM_undo_L46 _ _ h)
theorem rfM_undo (σ : KM) : kQ wfM_undo σ Prod.snd (fM_undo σ) := qfM_undo  kFr.rf
abbrev wfM_unsure : List (Nat × Option Int) := [(10, some 0), (10, some 27), (10, some 37), (10, some 38), (55, none), (56, none), (57, none), (58, none), (59, none), (60, none), (61, none), (62, none), (63, none), (64, none)]
theorem qfM_unsure_J98 (x3 : Int) {σ0 σ : KM} (h : kFr wfM_unsure σ0 σ) : kQ wfM_unsure σ0 Prod.snd (fM_unsure_J98 x3 σ) :=
  kQ_ri h
theorem qfM_unsure_J90 (x1 x2 x4 t0 t1 : Int) {σ0 σ : KM} (h : kFr wfM_unsure σ0 σ) : kQ wfM_unsure σ0 (Sum.elim (fun s : Int × Int × KM => s.2.2) Prod.snd) (fM_unsure_J90 x1 x2 x4 t0 t1 σ) :=
  kQ_let fun y1 =>
 kQ_let fun y2 =>
 kQ_inl h
theorem qfM_unsure_J89 (x1 x2 x4 t0 : Int) {σ0 σ : KM} (h : kFr wfM_unsure σ0 σ) : kQ wfM_unsure σ0 (Sum.elim (fun s : Int × Int × KM => s.2.2) Prod.snd) (fM_unsure_J89 x1 x2 x4 t0 σ) :=
  qfM_unsure_J90 _ _ _ _ _ h
theorem qfM_unsure_B50 (x1 x2 x3 x4 : Int) {σ0 σ : KM} (h : kFr wfM_unsure σ0 σ) : kQ wfM_unsure σ0 (Sum.elim (fun s : Int × Int × KM => s.2.2) Prod.snd) (fM_unsure_B50 x1 x2 x3 x4 σ) :=
  kQ_lt
 (kQ_call (rfM_throughNow _ _ _) rfl h fun r2 τ1 h =>
 kQ_eq
 (qfM_unsure_J89 _ _ _ _ h)
 (kQ_call (rfM_throughNow _ _ _) rfl h fun r4 τ3 h =>
 kQ_lt
 (qfM_unsure_J89 _ _ _ _ h)
 (qfM_unsure_J90 _ _ _ _ _ h)))
 (kQ_exit (qfM_unsure_J98 _ h))
theorem qfM_unsure_L50 (x1 x2 x3 x4 : Int) {σ0 σ : KM} (h : kFr wfM_unsure σ0 σ) : kQ wfM_unsure σ0 Prod.snd (fM_unsure_L50 x1 x2 x3 x4 σ) :=
  kQ_iter (mf := fun s : Int × Int × KM => s.2.2) (fun s h => qfM_unsure_B50 x1 x2 s.1 s.2.1 h) kF (x3, x4, σ) h
theorem qfM_unsure (x1 x2 : Int) {σ0 σ : KM} (h : kFr wfM_unsure σ0 σ) : kQ wfM_unsure σ0 Prod.snd (fM_unsure x1 x2 σ) :=
  kQ_wf rfl h fun τ1 h =>
 kQ_call (rfM_isWindow _ _) rfl h fun r3 τ2 h =>
 kQ_eq
 (kQ_ri h)
 (kQ_ck <|
 kQ_call (rfM_isIn _ _ _ _) rfl h fun r5 τ4 h =>
 kQ_eq
 (kQ_ri h)
 (kQ_call (rfM_hasPath _) rfl h fun r7 τ6 h =>
 kQ_eq
 (kQ_ri h)
 (kQ_call (rfM_laysAhead _) rfl h fun _ τ8 h =>
 qfM_unsure_L50 _ _ _ _ h)))
theorem rfM_unsure (x1 x2 : Int) (σ : KM) : kQ wfM_unsure σ Prod.snd (fM_unsure x1 x2 σ) := qfM_unsure x1 x2 kFr.rf
abbrev wfM_way : List (Nat × Option Int) := [(10, some 0), (56, none), (57, none)]
theorem qfM_way_J19 {σ0 σ : KM} (h : kFr wfM_way σ0 σ) : kQ wfM_way σ0 Prod.snd (fM_way_J19 σ) :=
  kQ_ri h
theorem qfM_way_J150 (x4 : Int) {σ0 σ : KM} (h : kFr wfM_way σ0 σ) : kQ wfM_way σ0 Prod.snd (fM_way_J150 x4 σ) :=
  kQ_ri h
theorem qfM_way_J140 (x3 x5 x6 : Int) {σ0 σ : KM} (h : kFr wfM_way σ0 σ) : kQ wfM_way σ0 (Sum.elim (fun s : Int × Int × KM => s.2.2) Prod.snd) (fM_way_J140 x3 x5 x6 σ) :=
  kQ_let fun y1 =>
 kQ_inl h
theorem qfM_way_J134 (x3 x4 x5 x6 x7 : Int) {σ0 σ : KM} (h : kFr wfM_way σ0 σ) : kQ wfM_way σ0 (Sum.elim (fun s : Int × Int × KM => s.2.2) (Sum.elim (fun s : Int × Int × KM => s.2.2) Prod.snd)) (fM_way_J134 x3 x4 x5 x6 x7 σ) :=
  kQ_let fun y1 =>
 kQ_inl h
theorem qfM_way_B65 (x3 x4 x5 x6 x7 : Int) {σ0 σ : KM} (h : kFr wfM_way σ0 σ) : kQ wfM_way σ0 (Sum.elim (fun s : Int × Int × KM => s.2.2) (Sum.elim (fun s : Int × Int × KM => s.2.2) Prod.snd)) (fM_way_B65 x3 x4 x5 x6 x7 σ) :=
  kQ_lt
 (kQ_call (rfM_next _ _ _) rfl h fun r2 τ1 h =>
 kQ_rd fun y3 =>
 kQ_call (rfM_costs _ _) rfl h fun r5 τ4 h =>
 kQ_rd fun y6 =>
 kQ_eq
 (kQ_rd fun y7 =>
 kQ_rd fun y8 =>
 kQ_eq
 (kQ_lt
 (qfM_way_J134 _ _ _ _ _ h)
 (qfM_way_J134 _ _ _ _ _ h))
 (qfM_way_J134 _ _ _ _ _ h))
 (qfM_way_J134 _ _ _ _ _ h))
 (kQ_exit (qfM_way_J140 _ _ _ h))
theorem qfM_way_L65 (x3 x4 x5 x6 x7 : Int) {σ0 σ : KM} (h : kFr wfM_way σ0 σ) : kQ wfM_way σ0 (Sum.elim (fun s : Int × Int × KM => s.2.2) Prod.snd) (fM_way_L65 x3 x4 x5 x6 x7 σ) :=
  kQ_iter (mf := fun s : Int × Int × KM => s.2.2) (fun s h => qfM_way_B65 x3 x4 x5 s.1 s.2.1 h) kF (x6, x7, σ) h
theorem qfM_way_B52 (x3 x4 x5 : Int) {σ0 σ : KM} (h : kFr wfM_way σ0 σ) : kQ wfM_way σ0 (Sum.elim (fun s : Int × Int × KM => s.2.2) Prod.snd) (fM_way_B52 x3 x4 x5 σ) :=
  kQ_lt
 (qfM_way_L65 _ _ _ _ _ h)
 (kQ_exit (qfM_way_J150 _ h))
theorem qfM_way_L52 (x3 x4 x5 : Int) {σ0 σ : KM} (h : kFr wfM_way σ0 σ) : kQ wfM_way σ0 Prod.snd (fM_way_L52 x3 x4 x5 σ) :=
  kQ_iter (mf := fun s : Int × Int × KM => s.2.2) (fun s h => qfM_way_B52 x3 s.1 s.2.1 h) kF (x4, x5, σ) h
theorem qfM_way (x1 x2 x3 : Int) {σ0 σ : KM} (h : kFr wfM_way σ0 σ) : kQ wfM_way σ0 Prod.snd (fM_way x1 x2 x3 σ) :=
  kQ_wf rfl h fun τ1 h =>
 kQ_call (rfM_isKey _ _) rfl h fun r3 τ2 h =>
 kQ_eq
 (qfM_way_J19  h)
 (kQ_call (rfM_isKey _ _) rfl h fun r5 τ4 h =>
 kQ_eq
 (qfM_way_J19  h)
 (kQ_lt
 (kQ_ri h)
 (kQ_call (rfM_laysFar _ _) rfl h fun _ τ6 h =>
 kQ_rd fun y7 =>
 kQ_lt
 (kQ_ri h)
 (qfM_way_L52 _ _ _ h))))
theorem rfM_way (x1 x2 x3 : Int) (σ : KM) : kQ wfM_way σ Prod.snd (fM_way x1 x2 x3 σ) := qfM_way x1 x2 x3 kFr.rf
abbrev wfM_weight : List (Nat × Option Int) := [(10, some 0), (52, none)]
theorem qfM_weight_J24 {σ0 σ : KM} (h : kFr wfM_weight σ0 σ) : kQ wfM_weight σ0 Prod.snd (fM_weight_J24 σ) :=
  kQ_ri h
theorem qfM_weight (x1 x2 x3 : Int) {σ0 σ : KM} (h : kFr wfM_weight σ0 σ) : kQ wfM_weight σ0 Prod.snd (fM_weight x1 x2 x3 σ) :=
  kQ_wf rfl h fun τ1 h =>
 kQ_call (rfM_isMode _ _) rfl h fun r3 τ2 h =>
 kQ_eq
 (qfM_weight_J24  h)
 (kQ_ck <|
 kQ_call (rfM_isIn _ _ _ _) rfl h fun r5 τ4 h =>
 kQ_eq
 (qfM_weight_J24  h)
 (kQ_ck <|
 kQ_call (rfM_isIn _ _ _ _) rfl h fun r7 τ6 h =>
 kQ_eq
 (kQ_ri h)
 (kQ_rd fun y8 =>
 kQ_wr rfl h fun τ9 h =>
 kQ_ri h)))
theorem rfM_weight (x1 x2 x3 : Int) (σ : KM) : kQ wfM_weight σ Prod.snd (fM_weight x1 x2 x3 σ) := qfM_weight x1 x2 x3 kFr.rf
abbrev wfM_windows : List (Nat × Option Int) := [(10, some 0), (10, some 11), (10, some 12)]
theorem qfM_windows_J33 {σ0 σ : KM} (h : kFr wfM_windows σ0 σ) : kQ wfM_windows σ0 Prod.snd (fM_windows_J33 σ) :=
  kQ_ri h
theorem qfM_windows (x1 x2 : Int) {σ0 σ : KM} (h : kFr wfM_windows σ0 σ) : kQ wfM_windows σ0 Prod.snd (fM_windows x1 x2 σ) :=
  kQ_wf rfl h fun τ1 h =>
 kQ_ck <|
 kQ_call (rfM_isIn _ _ _ _) rfl h fun r3 τ2 h =>
 kQ_eq
 (qfM_windows_J33  h)
 (kQ_ck <|
 kQ_call (rfM_isIn _ _ _ _) rfl h fun r5 τ4 h =>
 kQ_eq
 (qfM_windows_J33  h)
 (kQ_call (rfM_windowsBy _ _) rfl h fun r7 τ6 h =>
 kQ_lt
 (kQ_ri h)
 (kQ_wf rfl h fun τ8 h =>
 kQ_wf rfl h fun τ9 h =>
 kQ_call (rfM_windowMany _) rfl h fun r11 τ10 h =>
 kQ_ri h)))
theorem rfM_windows (x1 x2 : Int) (σ : KM) : kQ wfM_windows σ Prod.snd (fM_windows x1 x2 σ) := qfM_windows x1 x2 kFr.rf
abbrev wfM_within : List (Nat × Option Int) := [(10, some 0), (10, some 27), (10, some 37), (10, some 38), (55, none), (56, none), (57, none), (58, none), (59, none), (61, none), (62, none), (63, none), (64, none), (65, none), (66, none)]
theorem qfM_within_J255 (x1 : Int) {σ0 σ : KM} (h : kFr wfM_within σ0 σ) : kQ wfM_within σ0 Prod.snd (fM_within_J255 x1 σ) :=
  kQ_call (rfM_leastOf _ _ _) rfl h fun r2 τ1 h =>
 kQ_ri h
theorem qfM_within_J242 (x1 x2 : Int) {σ0 σ : KM} (h : kFr wfM_within σ0 σ) : kQ wfM_within σ0 (Sum.elim (fun s : Int × KM => s.2) Prod.snd) (fM_within_J242 x1 x2 σ) :=
  kQ_call (rfM_turns _ _) rfl h fun _ τ1 h =>
 kQ_let fun y2 =>
 kQ_inl h
theorem qfM_within_J236 (x1 x2 x3 : Int) {σ0 σ : KM} (h : kFr wfM_within σ0 σ) : kQ wfM_within σ0 (Sum.elim (fun s : Int × KM => s.2) (Sum.elim (fun s : Int × KM => s.2) Prod.snd)) (fM_within_J236 x1 x2 x3 σ) :=
  kQ_let fun y1 =>
 kQ_inl h
theorem qfM_within_J201 (x1 x2 x3 x4 x5 : Int) {σ0 σ : KM} (h : kFr wfM_within σ0 σ) : kQ wfM_within σ0 (Sum.elim (fun s : Int × KM => s.2) (Sum.elim (fun s : Int × KM => s.2) (Sum.elim (fun s : Int × KM => s.2) Prod.snd))) (fM_within_J201 x1 x2 x3 x4 x5 σ) :=
  kQ_rd fun y1 =>
 kQ_call (rfM_added _ _ _) rfl h fun r3 τ2 h =>
 kQ_wr rfl h fun τ4 h =>
 kQ_let fun y5 =>
 kQ_inl h
theorem qfM_within_J193 (x1 x2 x3 x4 x6 t0 : Int) {σ0 σ : KM} (h : kFr wfM_within σ0 σ) : kQ wfM_within σ0 (Sum.elim (fun s : Int × Int × KM => s.2.2) (Sum.elim (fun s : Int × KM => s.2) (Sum.elim (fun s : Int × KM => s.2) (Sum.elim (fun s : Int × KM => s.2) Prod.snd)))) (fM_within_J193 x1 x2 x3 x4 x6 t0 σ) :=
  kQ_let fun y1 =>
 kQ_inl h
theorem qfM_within_J177 (x1 x2 x3 x4 x5 x6 t0 : Int) {σ0 σ : KM} (h : kFr wfM_within σ0 σ) : kQ wfM_within σ0 (Sum.elim (fun s : Int × Int × KM => s.2.2) (Sum.elim (fun s : Int × KM => s.2) (Sum.elim (fun s : Int × KM => s.2) (Sum.elim (fun s : Int × KM => s.2) Prod.snd)))) (fM_within_J177 x1 x2 x3 x4 x5 x6 t0 σ) :=
  kQ_lt
 (qfM_within_J193 _ _ _ _ _ _ h)
 (qfM_within_J193 _ _ _ _ _ _ h)
theorem qfM_within_B124 (x1 x2 x3 x4 x5 x6 : Int) {σ0 σ : KM} (h : kFr wfM_within σ0 σ) : kQ wfM_within σ0 (Sum.elim (fun s : Int × Int × KM => s.2.2) (Sum.elim (fun s : Int × KM => s.2) (Sum.elim (fun s : Int × KM => s.2) (Sum.elim (fun s : Int × KM => s.2) Prod.snd)))) (fM_within_B124 x1 x2 x3 x4 x5 x6 σ) :=
  kQ_lt
 (kQ_lt
 (kQ_eq
 (qfM_within_J177 _ _ _ _ _ _ _ h)
 (kQ_rd fun y1 =>
 kQ_call (rfM_moves _ _ _ _ _) rfl h fun r3 τ2 h =>
 kQ_call (rfM_added _ _ _) rfl h fun r5 τ4 h =>
 qfM_within_J177 _ _ _ _ _ _ _ h))
 (kQ_exit (qfM_within_J201 _ _ _ _ _ h)))
 (kQ_exit (qfM_within_J201 _ _ _ _ _ h))
theorem qfM_within_L124 (x1 x2 x3 x4 x5 x6 : Int) {σ0 σ : KM} (h : kFr wfM_within σ0 σ) : kQ wfM_within σ0 (Sum.elim (fun s : Int × KM => s.2) (Sum.elim (fun s : Int × KM => s.2) (Sum.elim (fun s : Int × KM => s.2) Prod.snd))) (fM_within_L124 x1 x2 x3 x4 x5 x6 σ) :=
  kQ_iter (mf := fun s : Int × Int × KM => s.2.2) (fun s h => qfM_within_B124 x1 x2 x3 x4 s.1 s.2.1 h) kF (x5, x6, σ) h
theorem qfM_within_B100 (x1 x2 x3 x4 : Int) {σ0 σ : KM} (h : kFr wfM_within σ0 σ) : kQ wfM_within σ0 (Sum.elim (fun s : Int × KM => s.2) (Sum.elim (fun s : Int × KM => s.2) (Sum.elim (fun s : Int × KM => s.2) Prod.snd))) (fM_within_B100 x1 x2 x3 x4 σ) :=
  kQ_lt
 (kQ_rd fun y1 =>
 qfM_within_L124 _ _ _ _ _ _ h)
 (kQ_exit (qfM_within_J236 _ _ _ h))
theorem qfM_within_L100 (x1 x2 x3 x4 : Int) {σ0 σ : KM} (h : kFr wfM_within σ0 σ) : kQ wfM_within σ0 (Sum.elim (fun s : Int × KM => s.2) (Sum.elim (fun s : Int × KM => s.2) Prod.snd)) (fM_within_L100 x1 x2 x3 x4 σ) :=
  kQ_iter (mf := fun s : Int × KM => s.2) (fun s h => qfM_within_B100 x1 x2 x3 s.1 h) kF (x4, σ) h
theorem qfM_within_B92 (x1 x2 x3 : Int) {σ0 σ : KM} (h : kFr wfM_within σ0 σ) : kQ wfM_within σ0 (Sum.elim (fun s : Int × KM => s.2) (Sum.elim (fun s : Int × KM => s.2) Prod.snd)) (fM_within_B92 x1 x2 x3 σ) :=
  kQ_lt
 (kQ_exit (qfM_within_J242 _ _ h))
 (qfM_within_L100 _ _ _ _ h)
theorem qfM_within_L92 (x1 x2 x3 : Int) {σ0 σ : KM} (h : kFr wfM_within σ0 σ) : kQ wfM_within σ0 (Sum.elim (fun s : Int × KM => s.2) Prod.snd) (fM_within_L92 x1 x2 x3 σ) :=
  kQ_iter (mf := fun s : Int × KM => s.2) (fun s h => qfM_within_B92 x1 x2 s.1 h) kF (x3, σ) h
theorem qfM_within_B82 (x1 x2 : Int) {σ0 σ : KM} (h : kFr wfM_within σ0 σ) : kQ wfM_within σ0 (Sum.elim (fun s : Int × KM => s.2) Prod.snd) (fM_within_B82 x1 x2 σ) :=
  kQ_lt
 (qfM_within_L92 _ _ _ h)
 (kQ_exit (qfM_within_J255 _ h))
theorem qfM_within_L82 (x1 x2 : Int) {σ0 σ : KM} (h : kFr wfM_within σ0 σ) : kQ wfM_within σ0 Prod.snd (fM_within_L82 x1 x2 σ) :=
  kQ_iter (mf := fun s : Int × KM => s.2) (fun s h => qfM_within_B82 x1 s.1 h) kF (x2, σ) h
theorem qfM_within_J80 (x1 : Int) {σ0 σ : KM} (h : kFr wfM_within σ0 σ) : kQ wfM_within σ0 Prod.snd (fM_within_J80 x1 σ) :=
  qfM_within_L82 _ _ h
theorem qfM_within_J73 (x1 x2 t0 t1 : Int) {σ0 σ : KM} (h : kFr wfM_within σ0 σ) : kQ wfM_within σ0 (Sum.elim (fun s : Int × KM => s.2) Prod.snd) (fM_within_J73 x1 x2 t0 t1 σ) :=
  kQ_wr rfl h fun τ1 h =>
 kQ_let fun y2 =>
 kQ_inl h
theorem qfM_within_B41 (x1 x2 : Int) {σ0 σ : KM} (h : kFr wfM_within σ0 σ) : kQ wfM_within σ0 (Sum.elim (fun s : Int × KM => s.2) Prod.snd) (fM_within_B41 x1 x2 σ) :=
  kQ_lt
 (kQ_lt
 (kQ_rd fun y1 =>
 qfM_within_J73 _ _ _ _ h)
 (qfM_within_J73 _ _ _ _ h))
 (kQ_exit (qfM_within_J80 _ h))
theorem qfM_within_L41 (x1 x2 : Int) {σ0 σ : KM} (h : kFr wfM_within σ0 σ) : kQ wfM_within σ0 Prod.snd (fM_within_L41 x1 x2 σ) :=
  kQ_iter (mf := fun s : Int × KM => s.2) (fun s h => qfM_within_B41 x1 s.1 h) kF (x2, σ) h
theorem qfM_within (x1 : Int) {σ0 σ : KM} (h : kFr wfM_within σ0 σ) : kQ wfM_within σ0 Prod.snd (fM_within x1 σ) :=
  kQ_wf rfl h fun τ1 h =>
 kQ_ck <|
 kQ_call (rfM_isIn _ _ _ _) rfl h fun r3 τ2 h =>
 kQ_eq
 (kQ_ri h)
 (kQ_call (rfM_hasPath _) rfl h fun r5 τ4 h =>
 kQ_eq
 (kQ_ri h)
 (kQ_eq
 (kQ_ri h)
 (qfM_within_L41 _ _ h)))
theorem rfM_within (x1 : Int) (σ : KM) : kQ wfM_within σ Prod.snd (fM_within x1 σ) := qfM_within x1 kFr.rf
