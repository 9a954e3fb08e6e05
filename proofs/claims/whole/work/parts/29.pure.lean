/-! ===== the start, and the law's rounds ===== -/
def s0 : KM := fun c i =>
  if c = 1 then (if i = 4 then -1 else 0) else
  if c = 5 then (if i = 0 then 16 else if i = 1 then 8 else if i = 6 then 1 else 0) else
  if c = 6 then (if i = 3 then 1 else 0) else
  if c = 7 then (if i = 0 then 40 else if i = 1 then 30 else if i = 2 then 60 else if i = 3 then 1 else if i = 4 then 1 else 0) else
  if c = 8 then (if i = 13 then 1 else 0) else
  if c = 10 then (if i = 11 then 16 else if i = 12 then 8 else if i = 13 then 40 else if i = 14 then 30 else if i = 15 then 60 else if i = 16 then 1 else if i = 24 then -1 else 0) else
  if c = 27 then k_s5 i.toNat else
  if c = 52 then k_s5 i.toNat else
  if c = 33 then -1 else
  if c = 53 then -1 else 0
def S0 : KSt := ((0, (fun _ => 0), (fun _ => 0), (fun _ => 0), (16, 8), ((fun i => k_s5 i.toNat), fun _ => -1), (40, 30, 60, 1)), (0, fun _ => (0, (fun _ => 0), (fun _ => 0), fun _ => 0)), (0, fun _ => 0), (0, -1))
theorem k_s5_r : ∀ j : Nat, j < 24 → 0 ≤ k_s5 j ∧ k_s5 j ≤ 99 := by decide
theorem kR_s0 : kR s0 := by
  have hv : ∀ t l p : Int → Int, kV 0 t l p := fun t l p => ⟨by decide, fun i h1 h2 => absurd h2 (by show ¬ i < ((0 : Nat) : Int); omega)⟩
  have hb : kB (sb S0) := by
    refine ⟨hv _ _ _, ⟨by decide, by decide, by decide, by decide⟩, fun i h1 h2 => ?_, fun i h1 h2 => ?_, by decide, by decide, by decide, by decide, by decide, by decide, by decide, by decide⟩
    · exact k_s5_r i.toNat (by omega)
    · exact ⟨(by decide : (-1 : Int) ≤ -1), (by decide : (-1 : Int) ≤ 23)⟩
  have hw : ∀ i : Int, s0 27 i = k_s5 i.toNat := fun _ => rfl
  refine ⟨S0, ⟨hb, ⟨by decide, rfl, fun j _ => hv _ _ _⟩, ⟨by decide, fun i h1 h2 => ⟨Int.le_refl _, (by decide : (0 : Int) < 256)⟩⟩, by decide, by decide, by decide, by decide⟩, ⟨?_, ?_, ?_, rfl, rfl⟩, ?_, ?_, ?_, rfl, rfl⟩
  · refine ⟨⟨⟨rfl, fun i h1 h2 => absurd h2 (by show ¬ i < ((0 : Nat) : Int); omega)⟩, ⟨rfl, rfl⟩, fun i h1 h2 => rfl, fun i h1 h2 => rfl, rfl, rfl, rfl, rfl⟩, Or.inr rfl, Or.inr rfl, Or.inr rfl, Or.inr rfl⟩
  · exact ⟨rfl, fun j hj => absurd hj (Nat.not_lt_zero j)⟩
  · exact ⟨rfl, fun i h1 h2 => absurd h2 (by show ¬ i < ((0 : Nat) : Int); omega)⟩
  · exact ⟨⟨rfl, fun i h1 h2 => absurd h2 (by show ¬ i < ((0 : Nat) : Int); omega)⟩, ⟨rfl, rfl⟩, fun i h1 h2 => rfl, fun i h1 h2 => rfl, rfl, rfl, rfl, rfl⟩
  · exact ⟨rfl, fun j hj => absurd hj (Nat.not_lt_zero j)⟩
  · exact ⟨rfl, fun i h1 h2 => absurd h2 (by show ¬ i < ((0 : Nat) : Int); omega)⟩
theorem kT_sc {Z : Type} {nS : Int} {xS : Int → Int} {i : Int} {G : Int → Option Z} {Φ : Z → Prop} (h : 0 ≤ i ∧ i < nS) (k : kT (G (xS i)) Φ) : kT (kSc nS xS i G) Φ := by
  unfold kSc
  rw [if_pos h]
  exact k
theorem kT_same {Z : Type} {a : Int} {F : Option Z} {Φ : Z → Prop} (k : kT F Φ) : kT (kSame a a F) Φ := by
  unfold kSame
  rw [if_pos rfl]
  exact k
def kTs {Z : Type} (Φ : Z → Prop) : List (Option Z) → Prop
  | [] => True
  | f :: fs => kT f Φ ∧ kTs Φ fs
theorem kTs_at {Z : Type} {Φ : Z → Prop} : ∀ (fs : List (Option Z)) (k : Nat), kTs Φ fs → k < fs.length → kT (fs.getD k none) Φ
  | f :: fs, 0, h, _ => h.1
  | f :: fs, k + 1, h, hk => by
    have := kTs_at fs k h.2 (by simpa using hk)
    simpa using this
theorem kTs_c {Z : Type} {Φ : Z → Prop} {f : Option Z} {fs : List (Option Z)} (h1 : kT f Φ) (h2 : kTs Φ fs) : kTs Φ (f :: fs) := ⟨h1, h2⟩
theorem kT_sws {Z : Type} {x : Int} {Fs : List (Option Z)} {E : Option Z} {Φ : Z → Prop} (hx : 0 ≤ x ∧ x < 64) (h1 : kTs Φ Fs) (h2 : kT E Φ) : kT (kSw x 0 Fs E) Φ := by
  unfold kSw
  rw [if_pos ⟨by omega, by omega⟩]
  split
  · rename_i h
    exact kTs_at Fs _ h1 (by omega)
  · exact h2
set_option maxRecDepth 100000 in
set_option maxHeartbeats 4000000 in
theorem law_round {nS : Int} {xS : Int → Int} (hx : ∀ j, i32 (xS j)) {i : Int} {σ : KM} {Φ : (Int × KM) ⊕ (Int × KM) → Prop} (h0 : 0 ≤ i) (h1 : i ≤ nS - 6) (hn : nS ≤ 3072) (hR : kR σ) (hJ : ∀ υ, kR υ → kT (fLaw_law_120_J1412 nS xS i υ) Φ) : kT (fLaw_law_120_B18 nS xS i σ) Φ := by
  unfold fLaw_law_120_B18
  refine kT_ltf (by omega) (by omega) ?_
  refine kT_sc (by omega) ?_
  refine kT_and (by omega) ?_
  refine kT_sws (by omega) (kTs_c ?_ (kTs_c ?_ (kTs_c ?_ (kTs_c ?_ (kTs_c ?_ (kTs_c ?_ (kTs_c ?_ (kTs_c ?_ (kTs_c ?_ (kTs_c ?_ (kTs_c ?_ (kTs_c ?_ (kTs_c ?_ (kTs_c ?_ (kTs_c ?_ (kTs_c ?_ (kTs_c ?_ (kTs_c ?_ (kTs_c ?_ (kTs_c ?_ (kTs_c ?_ (kTs_c ?_ (kTs_c ?_ (kTs_c ?_ (kTs_c ?_ (kTs_c ?_ (kTs_c ?_ (kTs_c ?_ (kTs_c ?_ (kTs_c ?_ (kTs_c ?_ (kTs_c ?_ (kTs_c ?_ (kTs_c ?_ (kTs_c ?_ (kTs_c ?_ (kTs_c ?_ (kTs_c ?_ (kTs_c ?_ (kTs_c ?_ (kTs_c ?_ (kTs_c ?_ (trivial))))))))))))))))))))))))))))))))))))))))))) (hJ σ hR)
  · obtain ⟨r, τ, υ, e1, e2, e3⟩ := pr_feed (hx (i + 1)) (hx (i + 2)) (hx (i + 3)) (hx (i + 4)) (hx (i + 5)) hR
    refine kT_sc (by omega) ?_
    refine kT_sc (by omega) ?_
    refine kT_sc (by omega) ?_
    refine kT_sc (by omega) ?_
    refine kT_sc (by omega) ?_
    refine kT_callE e1 ?_
    refine kT_sc (by omega) ?_
    refine kT_sc (by omega) ?_
    refine kT_sc (by omega) ?_
    refine kT_sc (by omega) ?_
    refine kT_sc (by omega) ?_
    refine kT_callE e2 ?_
    exact kT_same (hJ υ e3)
  · obtain ⟨r, τ, υ, e1, e2, e3⟩ := pr_load (hx (i + 1)) hR
    refine kT_sc (by omega) ?_
    refine kT_callE e1 ?_
    refine kT_sc (by omega) ?_
    refine kT_callE e2 ?_
    exact kT_same (hJ υ e3)
  · obtain ⟨r, τ, υ, e1, e2, e3⟩ := pr_fault (hx (i + 1)) hR
    refine kT_sc (by omega) ?_
    refine kT_callE e1 ?_
    refine kT_sc (by omega) ?_
    refine kT_callE e2 ?_
    exact kT_same (hJ υ e3)
  · obtain ⟨r, τ, υ, e1, e2, e3⟩ := pr_put (hx (i + 1)) (hx (i + 2)) (hx (i + 3)) hR
    refine kT_sc (by omega) ?_
    refine kT_sc (by omega) ?_
    refine kT_sc (by omega) ?_
    refine kT_callE e1 ?_
    refine kT_sc (by omega) ?_
    refine kT_sc (by omega) ?_
    refine kT_sc (by omega) ?_
    refine kT_callE e2 ?_
    exact kT_same (hJ υ e3)
  · obtain ⟨r, τ, υ, e1, e2, e3⟩ := pr_drop (hx (i + 1)) hR
    refine kT_sc (by omega) ?_
    refine kT_callE e1 ?_
    refine kT_sc (by omega) ?_
    refine kT_callE e2 ?_
    exact kT_same (hJ υ e3)
  · obtain ⟨r, τ, υ, e1, e2, e3⟩ := pr_shift (hx (i + 1)) hR
    refine kT_sc (by omega) ?_
    refine kT_callE e1 ?_
    refine kT_sc (by omega) ?_
    refine kT_callE e2 ?_
    exact kT_same (hJ υ e3)
  · obtain ⟨r, τ, υ, e1, e2, e3⟩ := pr_undo hR
    refine kT_callE e1 ?_
    refine kT_callE e2 ?_
    exact kT_same (hJ υ e3)
  · obtain ⟨r, τ, υ, e1, e2, e3⟩ := pr_note (hx (i + 1)) (hx (i + 2)) hR
    refine kT_sc (by omega) ?_
    refine kT_sc (by omega) ?_
    refine kT_callE e1 ?_
    refine kT_sc (by omega) ?_
    refine kT_sc (by omega) ?_
    refine kT_callE e2 ?_
    exact kT_same (hJ υ e3)
  · obtain ⟨r, τ, υ, e1, e2, e3⟩ := pr_windows (hx (i + 1)) (hx (i + 2)) hR
    refine kT_sc (by omega) ?_
    refine kT_sc (by omega) ?_
    refine kT_callE e1 ?_
    refine kT_sc (by omega) ?_
    refine kT_sc (by omega) ?_
    refine kT_callE e2 ?_
    exact kT_same (hJ υ e3)
  · obtain ⟨r, τ, υ, e1, e2, e3⟩ := pr_weight (hx (i + 1)) (hx (i + 2)) (hx (i + 3)) hR
    refine kT_sc (by omega) ?_
    refine kT_sc (by omega) ?_
    refine kT_sc (by omega) ?_
    refine kT_callE e1 ?_
    refine kT_sc (by omega) ?_
    refine kT_sc (by omega) ?_
    refine kT_sc (by omega) ?_
    refine kT_callE e2 ?_
    exact kT_same (hJ υ e3)
  · obtain ⟨r, τ, υ, e1, e2, e3⟩ := pr_net (hx (i + 1)) (hx (i + 2)) (hx (i + 3)) (hx (i + 4)) hR
    refine kT_sc (by omega) ?_
    refine kT_sc (by omega) ?_
    refine kT_sc (by omega) ?_
    refine kT_sc (by omega) ?_
    refine kT_callE e1 ?_
    refine kT_sc (by omega) ?_
    refine kT_sc (by omega) ?_
    refine kT_sc (by omega) ?_
    refine kT_sc (by omega) ?_
    refine kT_callE e2 ?_
    exact kT_same (hJ υ e3)
  · obtain ⟨r, τ, υ, e1, e2, e3⟩ := pr_pin (hx (i + 1)) (hx (i + 2)) hR
    refine kT_sc (by omega) ?_
    refine kT_sc (by omega) ?_
    refine kT_callE e1 ?_
    refine kT_sc (by omega) ?_
    refine kT_sc (by omega) ?_
    refine kT_callE e2 ?_
    exact kT_same (hJ υ e3)
  · obtain ⟨r, τ, υ, e1, e2, e3⟩ := pr_tones (hx (i + 1)) (hx (i + 2)) hR
    refine kT_sc (by omega) ?_
    refine kT_sc (by omega) ?_
    refine kT_callE e1 ?_
    refine kT_sc (by omega) ?_
    refine kT_sc (by omega) ?_
    refine kT_callE e2 ?_
    exact kT_same (hJ υ e3)
  · obtain ⟨r, τ, υ, e1, e2, e3⟩ := pr_match (hx (i + 1)) (hx (i + 2)) (hx (i + 3)) hR
    refine kT_sc (by omega) ?_
    refine kT_sc (by omega) ?_
    refine kT_sc (by omega) ?_
    refine kT_callE e1 ?_
    refine kT_sc (by omega) ?_
    refine kT_sc (by omega) ?_
    refine kT_sc (by omega) ?_
    refine kT_callE e2 ?_
    exact kT_same (hJ υ e3)
  · obtain ⟨r, τ, υ, e1, e2, e3⟩ := pr_fit (hx (i + 1)) (hx (i + 2)) hR
    refine kT_sc (by omega) ?_
    refine kT_sc (by omega) ?_
    refine kT_callE e1 ?_
    refine kT_sc (by omega) ?_
    refine kT_sc (by omega) ?_
    refine kT_callE e2 ?_
    exact kT_same (hJ υ e3)
  · obtain ⟨r, τ, υ, e1, e2, e3⟩ := pr_ranked (hx (i + 1)) (hx (i + 2)) hR
    refine kT_sc (by omega) ?_
    refine kT_sc (by omega) ?_
    refine kT_callE e1 ?_
    refine kT_sc (by omega) ?_
    refine kT_sc (by omega) ?_
    refine kT_callE e2 ?_
    exact kT_same (hJ υ e3)
  · obtain ⟨r, τ, υ, e1, e2, e3⟩ := pr_overall (hx (i + 1)) hR
    refine kT_sc (by omega) ?_
    refine kT_callE e1 ?_
    refine kT_sc (by omega) ?_
    refine kT_callE e2 ?_
    exact kT_same (hJ υ e3)
  · obtain ⟨r, τ, υ, e1, e2, e3⟩ := pr_chord (hx (i + 1)) hR
    refine kT_sc (by omega) ?_
    refine kT_callE e1 ?_
    refine kT_sc (by omega) ?_
    refine kT_callE e2 ?_
    exact kT_same (hJ υ e3)
  · obtain ⟨r, τ, υ, e1, e2, e3⟩ := pr_distance (hx (i + 1)) (hx (i + 2)) hR
    refine kT_sc (by omega) ?_
    refine kT_sc (by omega) ?_
    refine kT_callE e1 ?_
    refine kT_sc (by omega) ?_
    refine kT_sc (by omega) ?_
    refine kT_callE e2 ?_
    exact kT_same (hJ υ e3)
  · obtain ⟨r, τ, υ, e1, e2, e3⟩ := pr_way (hx (i + 1)) (hx (i + 2)) (hx (i + 3)) hR
    refine kT_sc (by omega) ?_
    refine kT_sc (by omega) ?_
    refine kT_sc (by omega) ?_
    refine kT_callE e1 ?_
    refine kT_sc (by omega) ?_
    refine kT_sc (by omega) ?_
    refine kT_sc (by omega) ?_
    refine kT_callE e2 ?_
    exact kT_same (hJ υ e3)
  · obtain ⟨r, τ, υ, e1, e2, e3⟩ := pr_cost hR
    refine kT_callE e1 ?_
    refine kT_callE e2 ?_
    exact kT_same (hJ υ e3)
  · obtain ⟨r, τ, υ, e1, e2, e3⟩ := pr_key (hx (i + 1)) hR
    refine kT_sc (by omega) ?_
    refine kT_callE e1 ?_
    refine kT_sc (by omega) ?_
    refine kT_callE e2 ?_
    exact kT_same (hJ υ e3)
  · obtain ⟨r, τ, υ, e1, e2, e3⟩ := pr_ties hR
    refine kT_callE e1 ?_
    refine kT_callE e2 ?_
    exact kT_same (hJ υ e3)
  · obtain ⟨r, τ, υ, e1, e2, e3⟩ := pr_through (hx (i + 1)) (hx (i + 2)) hR
    refine kT_sc (by omega) ?_
    refine kT_sc (by omega) ?_
    refine kT_callE e1 ?_
    refine kT_sc (by omega) ?_
    refine kT_sc (by omega) ?_
    refine kT_callE e2 ?_
    exact kT_same (hJ υ e3)
  · obtain ⟨r, τ, υ, e1, e2, e3⟩ := pr_unsure (hx (i + 1)) (hx (i + 2)) hR
    refine kT_sc (by omega) ?_
    refine kT_sc (by omega) ?_
    refine kT_callE e1 ?_
    refine kT_sc (by omega) ?_
    refine kT_sc (by omega) ?_
    refine kT_callE e2 ?_
    exact kT_same (hJ υ e3)
  · obtain ⟨r, τ, υ, e1, e2, e3⟩ := pr_second (hx (i + 1)) hR
    refine kT_sc (by omega) ?_
    refine kT_callE e1 ?_
    refine kT_sc (by omega) ?_
    refine kT_callE e2 ?_
    exact kT_same (hJ υ e3)
  · obtain ⟨r, τ, υ, e1, e2, e3⟩ := pr_within (hx (i + 1)) hR
    refine kT_sc (by omega) ?_
    refine kT_callE e1 ?_
    refine kT_sc (by omega) ?_
    refine kT_callE e2 ?_
    exact kT_same (hJ υ e3)
  · obtain ⟨r, τ, υ, e1, e2, e3⟩ := pr_lasting (hx (i + 1)) hR
    refine kT_sc (by omega) ?_
    refine kT_callE e1 ?_
    refine kT_sc (by omega) ?_
    refine kT_callE e2 ?_
    exact kT_same (hJ υ e3)
  · obtain ⟨r, τ, υ, e1, e2, e3⟩ := pr_firm hR
    refine kT_callE e1 ?_
    refine kT_callE e2 ?_
    exact kT_same (hJ υ e3)
  · obtain ⟨r, τ, υ, e1, e2, e3⟩ := pr_segments hR
    refine kT_callE e1 ?_
    refine kT_callE e2 ?_
    exact kT_same (hJ υ e3)
  · obtain ⟨r, τ, υ, e1, e2, e3⟩ := pr_segment (hx (i + 1)) (hx (i + 2)) hR
    refine kT_sc (by omega) ?_
    refine kT_sc (by omega) ?_
    refine kT_callE e1 ?_
    refine kT_sc (by omega) ?_
    refine kT_sc (by omega) ?_
    refine kT_callE e2 ?_
    exact kT_same (hJ υ e3)
  · obtain ⟨r, τ, υ, e1, e2, e3⟩ := pr_pivot (hx (i + 1)) (hx (i + 2)) hR
    refine kT_sc (by omega) ?_
    refine kT_sc (by omega) ?_
    refine kT_callE e1 ?_
    refine kT_sc (by omega) ?_
    refine kT_sc (by omega) ?_
    refine kT_callE e2 ?_
    exact kT_same (hJ υ e3)
  · obtain ⟨r, τ, υ, e1, e2, e3⟩ := pr_roman (hx (i + 1)) hR
    refine kT_sc (by omega) ?_
    refine kT_callE e1 ?_
    refine kT_sc (by omega) ?_
    refine kT_callE e2 ?_
    exact kT_same (hJ υ e3)
  · obtain ⟨r, τ, υ, e1, e2, e3⟩ := pr_outside hR
    refine kT_callE e1 ?_
    refine kT_callE e2 ?_
    exact kT_same (hJ υ e3)
  · obtain ⟨r, τ, υ, e1, e2, e3⟩ := pr_progression (hx (i + 1)) hR
    refine kT_sc (by omega) ?_
    refine kT_callE e1 ?_
    refine kT_sc (by omega) ?_
    refine kT_callE e2 ?_
    exact kT_same (hJ υ e3)
  · obtain ⟨r, τ, υ, e1, e2, e3⟩ := pr_confirmed (hx (i + 1)) hR
    refine kT_sc (by omega) ?_
    refine kT_callE e1 ?_
    refine kT_sc (by omega) ?_
    refine kT_callE e2 ?_
    exact kT_same (hJ υ e3)
  · obtain ⟨r, τ, υ, e1, e2, e3⟩ := pr_learnt (hx (i + 1)) (hx (i + 2)) hR
    refine kT_sc (by omega) ?_
    refine kT_sc (by omega) ?_
    refine kT_callE e1 ?_
    refine kT_sc (by omega) ?_
    refine kT_sc (by omega) ?_
    refine kT_callE e2 ?_
    exact kT_same (hJ υ e3)
  · obtain ⟨r, τ, υ, e1, e2, e3⟩ := pr_foreign (hx (i + 1)) (hx (i + 2)) hR
    refine kT_sc (by omega) ?_
    refine kT_sc (by omega) ?_
    refine kT_callE e1 ?_
    refine kT_sc (by omega) ?_
    refine kT_sc (by omega) ?_
    refine kT_callE e2 ?_
    exact kT_same (hJ υ e3)
  · obtain ⟨r, τ, υ, e1, e2, e3⟩ := pr_close hR
    refine kT_callE e1 ?_
    refine kT_callE e2 ?_
    exact kT_same (hJ υ e3)
  · obtain ⟨r, τ, υ, e1, e2, e3⟩ := pr_degree (hx (i + 1)) (hx (i + 2)) hR
    refine kT_sc (by omega) ?_
    refine kT_sc (by omega) ?_
    refine kT_callE e1 ?_
    refine kT_sc (by omega) ?_
    refine kT_sc (by omega) ?_
    refine kT_callE e2 ?_
    exact kT_same (hJ υ e3)
  · obtain ⟨r, τ, υ, e1, e2, e3⟩ := pr_name (hx (i + 1)) (hx (i + 2)) hR
    refine kT_sc (by omega) ?_
    refine kT_sc (by omega) ?_
    refine kT_callE e1 ?_
    refine kT_sc (by omega) ?_
    refine kT_sc (by omega) ?_
    refine kT_callE e2 ?_
    exact kT_same (hJ υ e3)
  · obtain ⟨r, τ, υ, e1, e2, e3⟩ := pr_count (hx (i + 1)) hR
    refine kT_sc (by omega) ?_
    refine kT_callE e1 ?_
    refine kT_sc (by omega) ?_
    refine kT_callE e2 ?_
    exact kT_same (hJ υ e3)
theorem law_true {nS : Int} {xS : Int → Int} (hn : 0 ≤ nS ∧ nS ≤ 3072) (hx : ∀ j, i32 (xS j)) : kT (fLaw_law_120_L18 nS xS 0 s0) (fun z => z.1 = 1) := by
  unfold fLaw_law_120_L18
  refine kT_iter (fun n s => 0 ≤ s.1 ∧ s.1 ≤ 3100 ∧ nS - s.1 ≤ 6 * (n : Int) ∧ kR s.2) (fun n s hI => ?_) kF 512 (0, s0) ⟨Int.le_refl _, by decide, by show nS - 0 ≤ _; omega, kR_s0⟩ (by decide)
  obtain ⟨i, σ⟩ := s
  obtain ⟨h1, h2, h3, h4⟩ := hI
  dsimp only at h1 h2 h3 h4 ⊢
  by_cases h : nS - 6 < i
  · unfold fLaw_law_120_B18
    refine kT_ltt h (by omega) ?_
    refine kT_exit ?_
    unfold fLaw_law_120_J1418
    exact kT_rz (Or.inr rfl) rfl
  · refine law_round hx h1 (by omega) hn.2 h4 (fun υ hυ => ?_)
    unfold fLaw_law_120_J1412
    refine kT_let ?_
    refine kT_inl ⟨n - 1, by omega, ?_⟩
    dsimp only
    exact ⟨by omega, by omega, by omega, hυ⟩
