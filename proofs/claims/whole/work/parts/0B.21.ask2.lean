/-! ===== progression, degree, name, count, note, fault ===== -/
def pgT (b : KB) : Nat → Int × Int
  | 0 => (0, -1)
  | w + 1 => if hw b w = -1 ∨ hw b w = (pgT b w).2 then pgT b w else ((pgT b w).1 + 1, hw b w)
def pgR (b : KB) (k : Int) : Nat → Int
  | 0 => -1
  | w + 1 => if pgR b k w = -1 then (if ¬ (hw b w = -1 ∨ hw b w = (pgT b w).2) ∧ (pgT b w).1 = k then hw b w else -1) else pgR b k w
theorem pgR_k {b : KB} {k : Int} {i : Nat} (h : pgR b k i ≠ -1) : ∀ j : Nat, pgR b k (i + j) = pgR b k i
  | 0 => rfl
  | j + 1 => by
    have := pgR_k h j
    show pgR b k ((i + j) + 1) = _
    rw [pgR, if_neg (by rw [this]; exact h)]
    exact this
theorem pgT_r {b : KB} (hb : kB b) : ∀ w : Nat, (0 ≤ (pgT b w).1 ∧ (pgT b w).1 ≤ w) ∧ (-1 ≤ (pgT b w).2 ∧ (pgT b w).2 < 36)
  | 0 => by simp [pgT]
  | w + 1 => by
    have h1 := pgT_r hb w
    have h2 := hw_r hb w
    rw [pgT]
    split
    · omega
    · dsimp only; omega
def qProg (b : KB) (k : Int) : Int := if k < -1 then -3 else if pgR b k (wnS b).toNat = -1 then (if k = -1 then (pgT b (wnS b).toNat).1 else -1) else pgR b k (wnS b).toNat
theorem pg_out {b : KB} {k : Int} {w : Nat} (hw0 : (w : Int) < wnS b) (hb : kB b) (h : pgR b k w = -1) (c : ¬ (hw b w = -1 ∨ hw b w = (pgT b w).2)) (c2 : (pgT b w).1 = k) (hk : ¬ k < -1) : hw b w = qProg b k := by
  have r := hw_r hb w
  have e1 : pgR b k (w + 1) = hw b w := by rw [pgR, if_pos h, if_pos ⟨c, c2⟩]
  have e2 := pgR_k (b := b) (k := k) (i := w + 1) (by rw [e1]; omega) ((wnS b).toNat - (w + 1))
  rw [show w + 1 + ((wnS b).toNat - (w + 1)) = (wnS b).toNat by omega, e1] at e2
  unfold qProg
  rw [if_neg hk, e2, if_neg (by omega)]
theorem C_progression {b : KB} {σ : KM} (hb : kB b) (h : CI b σ) {k : Int} (hk : i32 k) : kT (fP_progression k σ) (fun z => z.1 = qProg b k ∧ CI b z.2) := by
  have hwr := wnS_r hb
  unfold i32 at hk
  unfold fP_progression
  refine kT_lt (by omega) (by omega) (fun c => ?_) (fun c => ?_)
  · refine kT_ri ⟨?_, h⟩
    unfold qProg
    rw [if_pos c]
  · refine kT_callT (C_freshWindows hb h) (fun r τ hz => ?_)
    obtain ⟨hC, hW⟩ := hz
    dsimp only at hC hW
    unfold fP_progression_L19
    refine kT_for (fun i s => s = ((pgT b i).1, (pgT b i).2, (i : Int), τ) ∧ pgR b k i = -1) (wnS b).toNat ?_ ?_ 0 (by omega) kF _ ⟨rfl, rfl⟩ (kF_lt (by omega))
    · rintro i s hi ⟨rfl, hp⟩
      have q := (hW.2.2.1 i (by omega) (by omega)).2
      have r1 := pgT_r hb i
      have r2 := hw_r hb i
      show kT (fP_progression_B19 k (pgT b i).1 (pgT b i).2 i τ) _
      unfold fP_progression_B19 fP_progression_J72 fP_progression_J63
      rw [hW.1]
      refine kT_ltt (by omega) (by omega) (kT_rd (by omega) ?_)
      rw [q]
      refine kT_eq (by omega) (by omega) (fun d => ?_) (fun d => ?_)
      · refine kT_let (kT_inl ⟨?_, ?_⟩)
        · rw [pgT, if_pos (Or.inl d)]; rfl
        · rw [pgR, if_pos hp, if_neg (fun h => h.1 (Or.inl d))]
      · refine kT_eq (by omega) (by omega) (fun d2 => ?_) (fun d2 => ?_)
        · refine kT_let (kT_inl ⟨?_, ?_⟩)
          · rw [pgT, if_pos (Or.inr d2)]; rfl
          · rw [pgR, if_pos hp, if_neg (fun h => h.1 (Or.inr d2))]
        · have nd : ¬ (hw b i = -1 ∨ hw b i = (pgT b i).2) := by omega
          refine kT_eq (by omega) (by omega) (fun d3 => ?_) (fun d3 => ?_)
          · exact kT_exit (kT_ri ⟨pg_out (by omega) hb hp nd d3 (by omega), hC⟩)
          · refine kT_let (kT_let (kT_inl ⟨?_, ?_⟩))
            · rw [pgT, if_neg nd]; rfl
            · rw [pgR, if_pos hp, if_neg (fun h => d3 h.2)]
    · rintro s ⟨rfl, hp⟩
      show kT (fP_progression_B19 k (pgT b (wnS b).toNat).1 (pgT b (wnS b).toNat).2 ((wnS b).toNat : Nat) τ) _
      unfold fP_progression_B19 fP_progression_J78 fP_progression_J88
      rw [hW.1]
      refine kT_ltf (by omega) (by omega) (kT_exit ?_)
      unfold qProg
      rw [if_neg (by omega), if_pos hp]
      refine kT_eq (by omega) (by omega) (fun d => ?_) (fun d => ?_)
      · rw [if_pos d]; exact kT_ri ⟨rfl, hC⟩
      · rw [if_neg d]; exact kT_ri ⟨rfl, hC⟩
theorem M_progression {b : KB} {σ : KM} (hb : kB b) (hm : mB b σ) {k : Int} (hk : i32 k) : kT (fM_progression k σ) (fun z => z.1 = qProg b k) := by
  have hwr := wnS_r hb
  unfold i32 at hk
  unfold fM_progression
  refine kT_wf ?_
  have hm1 := hm.th
  generalize ks σ 10 0 0 = M at hm1 ⊢
  refine kT_lt (by omega) (by omega) (fun c => ?_) (fun c => ?_)
  · refine kT_ri ?_
    unfold qProg
    rw [if_pos c]
  · unfold fM_progression_L20
    refine kT_for (fun i s => ∃ N, s = ((pgT b i).1, (pgT b i).2, (i : Int), N) ∧ mB b N ∧ pgR b k i = -1) (wnS b).toNat ?_ ?_ 0 (by omega) kF _ ⟨M, rfl, hm1, rfl⟩ (kF_lt (by omega))
    · rintro i s hi ⟨N, rfl, hN, hp⟩
      have r1 := pgT_r hb i
      have r2 := hw_r hb i
      have hN2 := hN.in hb (w := i) (by omega)
      show kT (fM_progression_B20 k (pgT b i).1 (pgT b i).2 i N) _
      unfold fM_progression_B20 fM_progression_J70 fM_progression_J61
      refine kT_callE (M_windowMany hb hN) (kT_ltt (by omega) (by omega) ?_)
      refine kT_callE (M_countedIn hb hN (by omega)) (kT_callE (M_chordIn hb i) ?_)
      refine kT_eq (by omega) (by omega) (fun d => ?_) (fun d => ?_)
      · refine kT_let (kT_inl ⟨_, ?_, hN2, ?_⟩)
        · rw [pgT, if_pos (Or.inl d)]; rfl
        · rw [pgR, if_pos hp, if_neg (fun h => h.1 (Or.inl d))]
      · refine kT_eq (by omega) (by omega) (fun d2 => ?_) (fun d2 => ?_)
        · refine kT_let (kT_inl ⟨_, ?_, hN2, ?_⟩)
          · rw [pgT, if_pos (Or.inr d2)]; rfl
          · rw [pgR, if_pos hp, if_neg (fun h => h.1 (Or.inr d2))]
        · have nd : ¬ (hw b i = -1 ∨ hw b i = (pgT b i).2) := by omega
          refine kT_eq (by omega) (by omega) (fun d3 => ?_) (fun d3 => ?_)
          · exact kT_exit (kT_ri (pg_out (by omega) hb hp nd d3 (by omega)))
          · refine kT_let (kT_let (kT_inl ⟨_, ?_, hN2, ?_⟩))
            · rw [pgT, if_neg nd]; rfl
            · rw [pgR, if_pos hp, if_neg (fun h => d3 h.2)]
    · rintro s ⟨N, rfl, hN, hp⟩
      show kT (fM_progression_B20 k (pgT b (wnS b).toNat).1 (pgT b (wnS b).toNat).2 ((wnS b).toNat : Nat) N) _
      unfold fM_progression_B20 fM_progression_J76 fM_progression_J86
      refine kT_callE (M_windowMany hb hN) (kT_ltf (by omega) (by omega) (kT_exit ?_))
      unfold qProg
      rw [if_neg (by omega), if_pos hp]
      refine kT_eq (by omega) (by omega) (fun d => ?_) (fun d => ?_)
      · rw [if_pos d]; exact kT_ri rfl
      · rw [if_neg d]; exact kT_ri rfl
def qDegree (t k : Int) : Int := if t < 0 ∨ 35 < t then -2 else if nK k then -2 else dgS t k
theorem C_degree {σ : KM} {t k : Int} (ht : i32 t) (hk : i32 k) : fP_degree t k σ = some (qDegree t k, σ) := by
  refine kT.eq ?_
  unfold fP_degree fP_degree_J17 qDegree
  refine kT_callE (P_outOf (by omega) (by omega) ht σ) ?_
  by_cases c : t < 0 ∨ 35 < t
  · rw [if_pos c, if_pos c]
    exact kT_eqf (by omega) (by omega) (by omega) (kT_ri rfl)
  · rw [if_neg c, if_neg c]
    refine kT_eqt rfl (by omega) (kT_callE (P_noKey hk σ) ?_)
    by_cases c2 : nK k
    · rw [if_pos c2, if_pos c2]
      exact kT_eqf (by omega) (by omega) (by omega) (kT_ri rfl)
    · rw [if_neg c2, if_neg c2]
      exact kT_eqt rfl (by omega) (kT_callE (P_degreeOf (by omega) (by omega) σ) (kT_ri rfl))
theorem M_degree {σ : KM} {t k : Int} (ht : i32 t) (hk : i32 k) : kT (fM_degree t k σ) (fun z => z.1 = qDegree t k) := by
  unfold fM_degree fM_degree_J27 fM_degree_J29 qDegree
  refine kT_wf (kT_callE (M_isTriad ht _) ?_)
  by_cases c : t < 0 ∨ 35 < t
  · rw [if_pos c, if_pos c]
    exact kT_eqt rfl (by omega) (kT_ri rfl)
  · rw [if_neg c, if_neg c]
    refine kT_eqf (by omega) (by omega) (by omega) (kT_callE (M_isKey hk _) ?_)
    by_cases c2 : nK k
    · rw [if_pos c2, if_pos c2]
      exact kT_eqt rfl (by omega) (kT_ri rfl)
    · rw [if_neg c2, if_neg c2]
      exact kT_eqf (by omega) (by omega) (by omega) (kT_callE (M_degreeOf (by omega) (by omega) _) (kT_ri rfl))
def shS (k : Int) : Int := if k % 12 = 1 ∨ k % 12 = 3 ∨ k % 12 = 6 ∨ k % 12 = 8 ∨ k % 12 = 10 then 2 else 1
def qName (k i : Int) : Int := if nK k then -2 else if i < 0 then -3 else if i = 0 then ([99, 99, 100, 100, 101, 102, 102, 103, 103, 97, 97, 98] : List Int).getD (k % 12).toNat 0 else if i < shS k then 35 else if i = shS k ∧ ¬ k < 12 then 109 else -1
theorem kT_chr {Z : Type} {t : Nat} {i : Int} {G : Int → Option Z} {Φ : Z → Prop} (h : 0 ≤ i ∧ i < 12) (h1 : kT (G (if t = 0 then ([99, 99, 100, 100, 101, 102, 102, 103, 103, 97, 97, 98] : List Int).getD i.toNat 0 else ([32, 35, 32, 35, 32, 32, 35, 32, 35, 32, 35, 32] : List Int).getD i.toNat 0)) Φ) : kT (kChr t i G) Φ := by
  unfold kChr
  rw [if_pos h]
  exact h1
theorem sh_chr {x : Int} (h : 0 ≤ x ∧ x < 12) : ([32, 35, 32, 35, 32, 32, 35, 32, 35, 32, 35, 32] : List Int).getD x.toNat 0 = if x = 1 ∨ x = 3 ∨ x = 6 ∨ x = 8 ∨ x = 10 then 35 else 32 := by
  rcases (show x = 0 ∨ x = 1 ∨ x = 2 ∨ x = 3 ∨ x = 4 ∨ x = 5 ∨ x = 6 ∨ x = 7 ∨ x = 8 ∨ x = 9 ∨ x = 10 ∨ x = 11 by omega) with rfl | rfl | rfl | rfl | rfl | rfl | rfl | rfl | rfl | rfl | rfl | rfl
  all_goals rfl
theorem C_name {σ : KM} {k i : Int} (hk : i32 k) (hi : i32 i) : fP_name k i σ = some (qName k i, σ) := by
  refine kT.eq ?_
  unfold i32 at hi
  unfold fP_name fP_name_J51 fP_name_J77 fP_name_J78 qName
  refine kT_callE (P_noKey hk σ) ?_
  by_cases c : nK k
  · rw [if_pos c, if_pos c]
    exact kT_eqf (by omega) (by omega) (by omega) (kT_ri rfl)
  · rw [if_neg c, if_neg c]
    refine kT_eqt rfl (by omega) (kT_lt (by omega) (by omega) (fun c2 => ?_) (fun c2 => ?_))
    · rw [if_pos c2]
      exact kT_ri rfl
    · rw [if_neg (by omega)]
      refine kT_eq (by omega) (by omega) (fun c3 => ?_) (fun c3 => ?_)
      · rw [if_pos c3]
        refine kT_rm (by omega) (by omega) (by omega) ?_
        rw [tmod_e (by omega)]
        exact kT_chr (by omega) (kT_ri rfl)
      · rw [if_neg c3]
        refine kT_rm (by omega) (by omega) (by omega) ?_
        rw [tmod_e (by omega)]
        refine kT_chr (by omega) ?_
        rw [if_neg (by omega), sh_chr (by omega)]
        unfold shS
        have fin : ∀ n : Int, 1 ≤ n ∧ n ≤ 2 → kT (kLt i n (kRetI 35 σ) (kEq i n (kCall (fP_modeOf k σ) fun r2 τ1 => kEq r2 1 (kRetI 109 τ1) (kRetI (-1) τ1)) (kRetI (-1) σ))) (fun y => y = (if i < n then 35 else if i = n ∧ ¬ k < 12 then 109 else -1, σ)) := by
          intro n hn
          refine kT_lt (by omega) (by omega) (fun d => ?_) (fun d => ?_)
          · rw [if_pos d]; exact kT_ri rfl
          · rw [if_neg (by omega)]
            refine kT_eq (by omega) (by omega) (fun d2 => ?_) (fun d2 => ?_)
            · refine kT_callE (P_modeOf (by omega) σ) ?_
              by_cases d3 : k < 12
              · rw [if_pos d3, if_neg (fun h => h.2 d3)]
                exact kT_eqf (by omega) (by omega) (by omega) (kT_ri rfl)
              · rw [if_neg d3, if_pos ⟨d2, d3⟩]
                exact kT_eqt rfl (by omega) (kT_ri rfl)
            · rw [if_neg (fun h => d2 h.1)]
              exact kT_ri rfl
        by_cases d : k % 12 = 1 ∨ k % 12 = 3 ∨ k % 12 = 6 ∨ k % 12 = 8 ∨ k % 12 = 10
        · rw [if_pos d, if_pos d]
          exact kT_eqt rfl (by omega) (fin 2 (by omega))
        · rw [if_neg d, if_neg d]
          exact kT_eqf (by omega) (by omega) (by omega) (fin 1 (by omega))
theorem M_letter {x : Int} (h : 0 ≤ x ∧ x < 12) (σ : KM) : fM_letter x σ = some (([99, 99, 100, 100, 101, 102, 102, 103, 103, 97, 97, 98] : List Int).getD x.toNat 0, σ) := by
  rcases (show x = 0 ∨ x = 1 ∨ x = 2 ∨ x = 3 ∨ x = 4 ∨ x = 5 ∨ x = 6 ∨ x = 7 ∨ x = 8 ∨ x = 9 ∨ x = 10 ∨ x = 11 by omega) with rfl | rfl | rfl | rfl | rfl | rfl | rfl | rfl | rfl | rfl | rfl | rfl
  all_goals rfl
theorem M_name {σ : KM} {k i : Int} (hk : i32 k) (hi : i32 i) : kT (fM_name k i σ) (fun z => z.1 = qName k i) := by
  unfold i32 at hi
  unfold fM_name qName
  refine kT_wf (kT_callE (M_isKey hk _) ?_)
  by_cases c : nK k
  · rw [if_pos c, if_pos c]
    exact kT_eqt rfl (by omega) (kT_ri rfl)
  · rw [if_neg c, if_neg c]
    generalize ks σ 10 0 0 = M
    refine kT_eqf (by omega) (by omega) (by omega) (kT_lt (by omega) (by omega) (fun c2 => ?_) (fun c2 => ?_))
    · rw [if_pos c2]
      exact kT_ri rfl
    · rw [if_neg (by omega)]
      refine kT_rm (by omega) (by omega) (by omega) ?_
      rw [tmod_e (by omega)]
      have fin : ∀ s : Int, (s = 0 ∨ s = 1) → kT (fM_name_J60 k i (k % 12) s M) (fun z => z.1 = if i = 0 then ([99, 99, 100, 100, 101, 102, 102, 103, 103, 97, 97, 98] : List Int).getD (k % 12).toNat 0 else if i < s + 1 then 35 else if i = s + 1 ∧ ¬ k < 12 then 109 else -1) := by
        intro s hs
        have f84 : i ≠ 0 → ¬ i < s + 1 → kT (fM_name_J84 k i s M) (fun z => z.1 = if i = 0 then ([99, 99, 100, 100, 101, 102, 102, 103, 103, 97, 97, 98] : List Int).getD (k % 12).toNat 0 else if i < s + 1 then 35 else if i = s + 1 ∧ ¬ k < 12 then 109 else -1) := by
          intro e1 e2
          unfold fM_name_J84 fM_name_J109 fM_name_J101 fM_name_J109 fM_name_J110
          rw [if_neg e1, if_neg e2]
          refine kT_lt (by omega) (by omega) (fun d => ?_) (fun d => ?_)
          · rw [if_neg (fun h => h.2 d)]; exact kT_ri rfl
          · refine kT_eq (by omega) (by omega) (fun d2 => ?_) (fun d2 => ?_)
            · refine kT_eq (by omega) (by omega) (fun d3 => ?_) (fun d3 => ?_)
              · rw [if_pos (by omega)]; exact kT_ri rfl
              · rw [if_neg (by omega)]; exact kT_ri rfl
            · refine kT_eq (by omega) (by omega) (fun d3 => ?_) (fun d3 => ?_)
              · rw [if_pos (by omega)]; exact kT_ri rfl
              · rw [if_neg (by omega)]; exact kT_ri rfl
        unfold fM_name_J60
        refine kT_eq (by omega) (by omega) (fun d => ?_) (fun d => ?_)
        · rw [if_pos d]
          exact kT_callE (M_letter (by omega) M) (kT_ri rfl)
        · refine kT_eq (by omega) (by omega) (fun d2 => ?_) (fun d2 => ?_)
          · refine kT_eq (by omega) (by omega) (fun d3 => ?_) (fun d3 => ?_)
            · exact f84 d (by omega)
            · rw [if_neg d, if_pos (by omega)]
              exact kT_ri rfl
          · exact f84 d (by omega)
      unfold shS fM_name_J55
      have f1 := fin 1 (by omega)
      have f0 := fin 0 (by omega)
      rw [show (1 : Int) + 1 = 2 from rfl] at f1
      rw [show (0 : Int) + 1 = 1 from rfl] at f0
      have hx : 0 ≤ k % 12 ∧ k % 12 < 12 := by omega
      generalize k % 12 = x at hx f1 f0 ⊢
      by_cases d1 : x = 1
      · rw [if_pos (show x = 1 ∨ x = 3 ∨ x = 6 ∨ x = 8 ∨ x = 10 by omega)]; exact kT_eqt d1 (by omega) f1
      refine kT_eqf d1 (by omega) (by omega) ?_
      by_cases d3 : x = 3
      · rw [if_pos (show x = 1 ∨ x = 3 ∨ x = 6 ∨ x = 8 ∨ x = 10 by omega)]; exact kT_eqt d3 (by omega) f1
      refine kT_eqf d3 (by omega) (by omega) ?_
      by_cases d6 : x = 6
      · rw [if_pos (show x = 1 ∨ x = 3 ∨ x = 6 ∨ x = 8 ∨ x = 10 by omega)]; exact kT_eqt d6 (by omega) f1
      refine kT_eqf d6 (by omega) (by omega) ?_
      by_cases d8 : x = 8
      · rw [if_pos (show x = 1 ∨ x = 3 ∨ x = 6 ∨ x = 8 ∨ x = 10 by omega)]; exact kT_eqt d8 (by omega) f1
      refine kT_eqf d8 (by omega) (by omega) ?_
      by_cases d10 : x = 10
      · rw [if_pos (show x = 1 ∨ x = 3 ∨ x = 6 ∨ x = 8 ∨ x = 10 by omega)]; exact kT_eqt d10 (by omega) f1
      refine kT_eqf d10 (by omega) (by omega) ?_
      rw [if_neg (show ¬ (x = 1 ∨ x = 3 ∨ x = 6 ∨ x = 8 ∨ x = 10) by omega)]
      exact f0
