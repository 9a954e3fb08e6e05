/-! ===== what is stored into a place of the frame ===== -/
def k_pairs (α : Nat → Nat) : Nat → List (Option KV) → List (Nat × Value)
  | _, [] => []
  | i, none :: r => k_pairs α (i + 1) r
  | i, some v :: r => (i, k_tr α v) :: k_pairs α (i + 1) r
theorem k_pairs_mem (α : Nat → Nat) : ∀ (L : List (Option KV)) (i : Nat) (q : Nat × Value), q ∈ k_pairs α i L → ∃ v, i ≤ q.1 ∧ L[q.1 - i]? = some (some v) ∧ q.2 = k_tr α v
  | [], i, q, h => by simp [k_pairs] at h
  | none :: r, i, q, h => by
    obtain ⟨v, h1, h2, h3⟩ := k_pairs_mem α r (i + 1) q h
    refine ⟨v, by omega, ?_, h3⟩
    rw [show q.1 - i = (q.1 - (i + 1)) + 1 by omega]
    simpa using h2
  | some w :: r, i, q, h => by
    rcases List.mem_cons.mp h with h | h
    · subst h
      exact ⟨w, Nat.le_refl i, by simp, rfl⟩
    · obtain ⟨v, h1, h2, h3⟩ := k_pairs_mem α r (i + 1) q h
      refine ⟨v, by omega, ?_, h3⟩
      rw [show q.1 - i = (q.1 - (i + 1)) + 1 by omega]
      simpa using h2
theorem k_pairs_in (α : Nat → Nat) : ∀ (L : List (Option KV)) (i j : Nat) (v : KV), L[j]? = some (some v) → (i + j, k_tr α v) ∈ k_pairs α i L
  | [], i, j, v, h => by simp at h
  | none :: r, i, 0, v, h => by simp at h
  | none :: r, i, j + 1, v, h => by
    have := k_pairs_in α r (i + 1) j v (by simpa using h)
    rw [show i + (j + 1) = i + 1 + j by omega]
    exact this
  | some w :: r, i, 0, v, h => by
    simp at h
    subst h
    exact List.mem_cons_self
  | some w :: r, i, j + 1, v, h => by
    have := k_pairs_in α r (i + 1) j v (by simpa using h)
    rw [show i + (j + 1) = i + 1 + j by omega]
    exact List.mem_cons_of_mem _ this
def k_nol (L : List (Option KV)) : Bool := L.all (fun o => match o with
  | some (.inr (.inl _)) => false
  | _ => true)
theorem k_lv.has {α : Nat → Nat} {nL : Nat} {ls : Array Slot} {L : List (Option KV)} (h : k_lv α nL ls L) : lv_has ls nL (k_pairs α 0 L) := by
  refine ⟨h.1, h.2.1, fun q hq => ?_⟩
  obtain ⟨v, -, h2, h3⟩ := k_pairs_mem α L 0 q hq
  rw [h3]
  exact h.2.2.2 q.1 v (by simpa using h2)
theorem k_lv.set {α : Nat → Nat} {nL : Nat} {ls' : Array Slot} {L : List (Option KV)} {i : Nat} {v : KV} (hlen : L.length = nL) (hq : k_nol L = true) (h : lv_has ls' nL ((i, k_tr α v) :: (k_pairs α 0 L).filter (fun q => !(q.1 == i) && !(q.1 + 1 == i && q.2.category == 2)))) : k_lv α nL ls' (L.set i (some v)) := by
  refine ⟨h.1, h.2.1, by simpa using hlen, fun j w hw => ?_⟩
  by_cases hj : j = i
  · subst hj
    have hl : j < L.length := by
      have := (List.getElem?_eq_some_iff.mp hw).1
      simpa using this
    rw [List.getElem?_set_self hl] at hw
    cases hw
    exact h.2.2 (j, k_tr α v) List.mem_cons_self
  · rw [List.getElem?_set_ne (Ne.symm hj)] at hw
    have hm := k_pairs_in α L 0 j w hw
    rw [Nat.zero_add] at hm
    refine h.2.2 (j, k_tr α w) (List.mem_cons_of_mem _ (List.mem_filter.mpr ⟨hm, ?_⟩))
    have hc : (k_tr α w).category ≠ 2 := by
      have h1 := List.all_eq_true.mp hq (some w) (List.mem_of_getElem? hw)
      cases w with
      | inl x => simp [k_tr, Value.category]
      | inr x =>
        cases x with
        | inl y => simp at h1
        | inr y => simp [k_tr, Value.category]
    simp [hj, hc]
section KS
variable {X : KC} {d n : Nat} {cc : ByteArray} {own : String} {pc : Nat} {L : List (Option KV)} {st : List KV} {σ : KM} {Z : Type} {F : Option Z} {Θ : Z → Prop}
theorem k_istore_n (hX : kOk X d cc n own) {j : Fin 4} {a : Int} {L' : List (Option KV)} (hd : decode cc pc = .ok (.istore_n j, 1)) (hq : k_nol L = true) (hn : (j : Nat) < n) (he : L.set (j : Nat) (some (ki a)) = L') (h : kJ X (pc + 1) L' st σ F Θ) : kJ X pc L (ki a :: st) σ F Θ := by
  obtain ⟨⟨p, l, e, R⟩, ⟨s, m, args, below⟩, ⟨meth, c⟩, ⟨D, K, α, A⟩, ⟨Q, cells, slots, nL⟩⟩ := X
  obtain ⟨hx, hb, hml, hnl, hown, hts, hR, hK, hA, hAc, hinj, hE⟩ := hX
  intro z hF hz H locs ls hP hS hL
  subst he
  exact lv_istore_n hx hb hd rfl hL.has (by omega) rfl (fun ls' h' => h z hF hz H locs ls' hP hS (k_lv.set hL.2.2.1 hq h'))
theorem k_istore (hX : kOk X d cc n own) {j : Nat} {a : Int} {L' : List (Option KV)} (hd : decode cc pc = .ok (.istore j, 2)) (hq : k_nol L = true) (hn : j < n) (he : L.set j (some (ki a)) = L') (h : kJ X (pc + 2) L' st σ F Θ) : kJ X pc L (ki a :: st) σ F Θ := by
  obtain ⟨⟨p, l, e, R⟩, ⟨s, m, args, below⟩, ⟨meth, c⟩, ⟨D, K, α, A⟩, ⟨Q, cells, slots, nL⟩⟩ := X
  obtain ⟨hx, hb, hml, hnl, hown, hts, hR, hK, hA, hAc, hinj, hE⟩ := hX
  intro z hF hz H locs ls hP hS hL
  subst he
  exact lv_istore hx hb hd hL.has (by omega) rfl (fun ls' h' => h z hF hz H locs ls' hP hS (k_lv.set hL.2.2.1 hq h'))
theorem k_iinc (hX : kOk X d cc n own) {j : Nat} {a b : Int} {L' : List (Option KV)} (hd : decode cc pc = .ok (.iinc j b, 3)) (hq : k_nol L = true) (hn : j < n) (hl : L[j]? = some (some (ki a))) (he : L.set j (some (ki (a + b))) = L') (h : kJ X (pc + 3) L' st σ F Θ) : kJ X pc L st σ F Θ := by
  obtain ⟨⟨p, l, e, R⟩, ⟨s, m, args, below⟩, ⟨meth, c⟩, ⟨D, K, α, A⟩, ⟨Q, cells, slots, nL⟩⟩ := X
  obtain ⟨hx, hb, hml, hnl, hown, hts, hR, hK, hA, hAc, hinj, hE⟩ := hX
  intro z hF hz H locs ls hP hS hL
  subst he
  have hm := k_pairs_in α L 0 j (ki a) hl
  rw [Nat.zero_add] at hm
  obtain ⟨q, hq9⟩ := List.getElem?_of_mem hm
  exact lv_iinc hx hb hd hL.has hq9 (v := c32 (a + b)) (by rw [c32_add]; rfl) (by omega) rfl (fun ls' h' => h z hF hz H locs ls' hP hS (k_lv.set (v := ki (a + b)) hL.2.2.1 hq h'))
theorem k_istoreL_n (hX : kOk X d cc n own) {j : Fin 4} {a : Int} {G : Int → Option Z} {Lf : Int → List (Option KV)} (hd : decode cc pc = .ok (.istore_n j, 1)) (hq : k_nol L = true) (hn : (j : Nat) < n) (he : ∀ y, L.set (j : Nat) (some (ki y)) = Lf y) (h : ∀ y, kJ X (pc + 1) (Lf y) st σ (G y) Θ) : kJ X pc L (ki a :: st) σ (kLet a G) Θ := k_istore_n hX hd hq hn (he a) (h a)
theorem k_istoreL (hX : kOk X d cc n own) {j : Nat} {a : Int} {G : Int → Option Z} {Lf : Int → List (Option KV)} (hd : decode cc pc = .ok (.istore j, 2)) (hq : k_nol L = true) (hn : j < n) (he : ∀ y, L.set j (some (ki y)) = Lf y) (h : ∀ y, kJ X (pc + 2) (Lf y) st σ (G y) Θ) : kJ X pc L (ki a :: st) σ (kLet a G) Θ := k_istore hX hd hq hn (he a) (h a)
theorem k_iincL (hX : kOk X d cc n own) {j : Nat} {a b : Int} {G : Int → Option Z} {Lf : Int → List (Option KV)} (hd : decode cc pc = .ok (.iinc j b, 3)) (hq : k_nol L = true) (hn : j < n) (hl : L[j]? = some (some (ki a))) (he : ∀ y, L.set j (some (ki y)) = Lf y) (h : ∀ y, kJ X (pc + 3) (Lf y) st σ (G y) Θ) : kJ X pc L st σ (kLet (a + b) G) Θ := k_iinc hX hd hq hn hl (he (a + b)) (h (a + b))
theorem k_let {a : Int} {G : Int → Option Z} (h : kJ X pc L st σ (G a) Θ) : kJ X pc L st σ (kLet a G) Θ := h
/-- fewer places of the frame are told -/
def k_mask : List Bool → List (Option KV) → List (Option KV)
  | [], L => L
  | _, [] => []
  | b :: bs, x :: r => (if b = true then x else none) :: k_mask bs r
theorem k_mask_len : ∀ (bs : List Bool) (L : List (Option KV)), (k_mask bs L).length = L.length
  | [], L => by simp [k_mask]
  | b :: bs, [] => by simp [k_mask]
  | b :: bs, x :: r => by simp [k_mask, k_mask_len bs r]
theorem k_mask_at : ∀ (bs : List Bool) (L : List (Option KV)) (i : Nat) (v : KV), (k_mask bs L)[i]? = some (some v) → L[i]? = some (some v)
  | [], L, i, v, h => by simpa [k_mask] using h
  | b :: bs, [], i, v, h => by simp [k_mask] at h
  | b :: bs, x :: r, 0, v, h => by
    cases b
    · simp [k_mask] at h
    · simpa [k_mask] using h
  | b :: bs, x :: r, i + 1, v, h => by
    have := k_mask_at bs r i v (by simpa [k_mask] using h)
    simpa using this
theorem k_less (bs : List Bool) {L' : List (Option KV)} (he : k_mask bs L = L') (h : kJ X pc L' st σ F Θ) : kJ X pc L st σ F Θ := by
  obtain ⟨⟨p, l, e, R⟩, ⟨s, m, args, below⟩, ⟨meth, c⟩, ⟨D, K, α, A⟩, ⟨Q, cells, slots, nL⟩⟩ := X
  intro z hF hz H locs ls hP hS hL
  subst he
  exact h z hF hz H locs ls hP hS ⟨hL.1, hL.2.1, by rw [k_mask_len]; exact hL.2.2.1, fun i v hi => hL.2.2.2 i v (k_mask_at bs L i v hi)⟩
/-! loops, exits -/
def k_th {S R : Type} (X : KC) (pc : Nat) (Lf : S → List (Option KV)) (mf : S → KM) (Θ : R → Prop) : S ⊕ R → Prop
  | .inl s => kW X pc (Lf s) [] (mf s)
  | .inr r => Θ r
theorem k_iter {S R : Type} {f : S → Option (S ⊕ R)} {Lf : S → List (Option KV)} {mf : S → KM} {Θ : R → Prop} (h : ∀ s : S, kJ X pc (Lf s) [] (mf s) (f s) (k_th X pc Lf mf Θ)) : ∀ (k : Nat) (s : S), kJ X pc (Lf s) [] (mf s) (kIter f k s) Θ := by
  intro k
  induction k with
  | zero => intro s z hF; cases hF
  | succ k ih =>
    intro s z hF hz
    unfold kIter at hF
    split at hF
    · cases hF
    · rename_i s' hs
      exact h s (.inl s') hs (ih s' z hF hz)
    · rename_i r hs
      cases hF
      exact h s (.inr z) hs hz
theorem k_exit {S R : Type} {G : Option R} {Θ : S ⊕ R → Prop} (h : kJ X pc L st σ G (fun r => Θ (.inr r))) : kJ X pc L st σ (kExit (S := S) G) Θ := by
  intro z hF hz
  unfold kExit at hF
  split at hF
  · cases hF
  · rename_i r
    cases hF
    exact h r rfl hz
theorem k_back {S R : Type} {s' : S} {Θ : S ⊕ R → Prop} (h : Θ (.inl s') → kW X pc L st σ) : kJ X pc L st σ (some (Sum.inl s')) Θ := by
  intro z hF hz
  cases hF
  exact h hz
end KS
