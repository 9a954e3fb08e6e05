/-! ===== within in the reference ===== -/
theorem M_turns {σ : KM} {rows : Nat} (hr : rows ≤ 48) : kT (fM_turns rows σ) (fun z => kFr wfM_turns σ z.2 ∧ ∀ c : Int, 0 ≤ c → c < 24 * (rows : Int) → z.2 65 c = σ 66 c) := by
  unfold fM_turns fM_turns_L2
  refine kT_for (fun i s => ∃ M : KM, s = ((i : Int), M) ∧ kFr wfM_turns σ M ∧ ∀ c : Int, 0 ≤ c → c < i → M 65 c = σ 66 c) (24 * rows) ?_ ?_ 0 (by omega) kF _ ⟨σ, rfl, kFr.rf, fun c _ h => by omega⟩ (kF_lt (by omega))
  · rintro i s hi ⟨M, rfl, hf, h⟩
    have m66 : M 66 = σ 66 := hf.cell rfl
    show kT (fM_turns_B2 rows i M) _
    unfold fM_turns_B2
    refine kT_ltt (by omega) (by omega) (kT_rd (by omega) (kT_wr (by omega) (kT_let (kT_inl ⟨_, rfl, hf.put rfl, fun c c0 c1 => ?_⟩))))
    by_cases e : c = i
    · rw [e, ks_s, m66]
    · rw [ks_i e]; exact h c c0 (by omega)
  · rintro s ⟨M, rfl, hf, h⟩
    show kT (fM_turns_B2 rows ((24 * rows : Nat) : Int) M) _
    unfold fM_turns_B2 fM_turns_J28
    exact kT_ltf (by omega) (by omega) (kT_exit (kT_ri ⟨hf, fun c c0 c1 => h c c0 (by omega)⟩))
theorem M_leastOf {σ : KM} {a n : Nat} {g : Int → Int} (hn : a + n ≤ 1152) (hg : ∀ o : Int, 0 ≤ o → o < n → (0 ≤ g o ∧ g o ≤ 1000000000) ∧ σ 65 ((a : Int) + o) = g o) : fM_leastOf a ((a : Int) + n) σ = some (toS (mnS g n), σ) := by
  refine kP ?_ (rfM_leastOf _ _ σ)
  have mr : ∀ j : Nat, j ≤ n → 0 ≤ mnS g j ∧ mnS g j ≤ 1000000000 := fun j hj => by
    refine ⟨?_, mnS_le g j⟩
    rcases mnS_at g j with e | ⟨k, hk, e⟩
    · omega
    · rw [← e]; exact (hg k hk.1 (by omega)).1.1
  unfold fM_leastOf fM_leastOf_L6
  refine kT_for (fun i s => s = (mnS g i, (a : Int) + i, σ)) n ?_ ?_ 0 (by omega) kF _ (by simp [mnS]) (kF_lt (by omega))
  · rintro i s hi rfl
    have rm := mr i (by omega)
    have rg := hg i (by omega) (by omega)
    show kT (fM_leastOf_B6 ((a : Int) + n) (mnS g i) ((a : Int) + i) σ) _
    unfold fM_leastOf_B6 fM_leastOf_J34
    refine kT_ltt (by omega) (by omega) (kT_rd (by omega) ?_)
    rw [rg.2]
    refine kT_lt (by omega) (by omega) (fun c => ?_) (fun c => ?_)
    · refine kT_rd (by omega) (kT_let (kT_inl ?_))
      rw [rg.2, mnS_t c]
      refine Prod.ext rfl (Prod.ext ?_ rfl)
      dsimp only
      omega
    · refine kT_let (kT_inl ?_)
      rw [mnS_f c]
      refine Prod.ext rfl (Prod.ext ?_ rfl)
      dsimp only
      omega
  · rintro s rfl
    have rm := mr n (by omega)
    show kT (fM_leastOf_B6 ((a : Int) + n) (mnS g n) ((a : Int) + n) σ) _
    unfold fM_leastOf_B6 fM_leastOf_J41 fM_leastOf_J52 toS
    refine kT_ltf (by omega) (by omega) (kT_exit (kT_lt (by omega) (by omega) (fun c => ?_) (fun c => ?_)))
    · rw [if_pos c]; exact kT_ri rfl
    · rw [if_neg (by omega)]; exact kT_ri rfl
theorem M_within {b : KB} {σ : KM} (hb : kB b) (hm : mB b σ) {n : Int} (hx : i32 n) : kT (fM_within n σ) (fun z => z.1 = qWithin b n) := by
  have eN := nB_i hb
  have n48 := nB_48 hb
  have hv := XP_v hb
  unfold fM_within qWithin
  refine kT_wf ?_
  have hm1 := hm.th
  generalize ks σ 10 0 0 = M at hm1 ⊢
  refine kT_ck hx (kT_callE (M_isIn (by omega) (by omega) hx M) ?_)
  by_cases c2 : n < 0 ∨ 47 < n
  · rw [if_pos c2, if_pos c2]
    exact kT_eqt rfl (by omega) (kT_ri rfl)
  rw [if_neg c2, if_neg c2]
  refine kT_eqf (by omega) (by omega) (by omega) (kT_callT (M_has hb hm1) (fun r τ hz => ?_))
  obtain ⟨hr, hp⟩ := hz
  dsimp only at hr hp
  rw [hr]
  by_cases c : hP b
  · rw [if_pos c, if_pos c]
    have hl : lsS (XP b) < 1000000000 := c
    have h37 : τ 10 37 = (nB b : Int) := (hp.g hb c).1
    refine kT_eqf (by omega) (by omega) (by omega) ?_
    rw [h37]
    by_cases h0 : nB b = 0
    · rw [if_pos h0]
      exact kT_eqt (by omega) (by omega) (kT_ri rfl)
    rw [if_neg h0]
    refine kT_eqf (by omega) (by omega) (by omega) ?_
    obtain ⟨N, rfl⟩ : ∃ N : Nat, n = (N : Int) := ⟨n.toNat, by omega⟩
    rw [Int.toNat_natCast]
    have e37 : ∀ T : KM, mP b T → T 10 37 = (nB b : Int) := fun T hT => (hT.g hb c).1
    have hxx := fun (T : KM) (hT : mP b T) => hT.x hb
    have exn : xn (XP b) = nB b := rfl
    generalize hX : XP b = X at hv hl hxx exn ⊢
    unfold fM_within_L41
    refine kT_for (fun i s => ∃ T : KM, s = ((i : Int), T) ∧ mP b T ∧ ∀ c : Int, 0 ≤ c → c < i → T 65 c = rfS X 0 c) (24 * (N + 1)) ?_ ?_ 0 (by omega) kF _ ⟨τ, rfl, hp, fun c _ h => by omega⟩ (kF_lt (by omega))
    · rintro i s hi ⟨T, rfl, hT, h65⟩
      have x1 := (hxx T hT).1
      have st : ∀ v, v = rfS X 0 i → kT (fM_within_J73 N i v i T) (kS (fun s => ∃ T : KM, s = (((i + 1 : Nat) : Int), T) ∧ mP b T ∧ ∀ c : Int, 0 ≤ c → c < ((i + 1 : Nat) : Int) → T 65 c = rfS X 0 c) (fun z => z.1 = toS (mnS (cmS X (nB b - 1) N) 24))) := by
        rintro v rfl
        unfold fM_within_J73
        refine kT_wr (by omega) (kT_let (kT_inl ⟨_, rfl, hT.fr (W := [(65, none)]) (kFr.rf.put rfl) rfl rfl rfl, fun c c0 c1 => ?_⟩))
        by_cases e : c = i
        · rw [e, ks_s]
        · rw [ks_i e]; exact h65 c c0 (by omega)
      show kT (fM_within_B41 N i T) _
      unfold fM_within_B41
      refine kT_ltt (by omega) (by omega) (kT_lt (by omega) (by omega) (fun d => ?_) (fun d => ?_))
      · refine kT_rd (by omega) (st _ ?_)
        have := x1.2.1 0 i (by omega) (by omega) (by omega) (by omega)
        rw [show 24 * 0 + (i : Int) = i by omega] at this
        rw [this]
        have e := rfS_e X 0 0 (k := (i : Int)) (by omega)
        rw [show 24 * ((0 : Nat) : Int) + (i : Int) = i by omega] at e
        rw [e, rdS]
      · refine st _ ?_
        have e := rfS_e X 0 (i / 24) (k := (i : Int) % 24) (by omega)
        rw [show 24 * ((i / 24 : Nat) : Int) + (i : Int) % 24 = i by omega] at e
        rw [e]
        obtain ⟨q, hq⟩ : ∃ q, i / 24 = q + 1 := ⟨i / 24 - 1, by omega⟩
        rw [hq, rdS]
    · rintro s ⟨T0, rfl, hT0, h65⟩
      show kT (fM_within_B41 N ((24 * (N + 1) : Nat) : Int) T0) _
      unfold fM_within_B41 fM_within_J80 fM_within_L82
      refine kT_ltf (by omega) (by omega) (kT_exit ?_)
      refine kT_for (fun i s => ∃ T : KM, s = ((i : Int) + 1, T) ∧ mP b T ∧ ∀ c : Int, 0 ≤ c → c < 24 * ((N : Int) + 1) → T 65 c = rfS X i c) (nB b - 1) ?_ ?_ 0 (by omega) kF _ ⟨T0, rfl, hT0, fun c c0 c1 => h65 c c0 (by omega)⟩ (kF_lt (by omega))
      · rintro i s hi ⟨T, rfl, hT, h65⟩
        show kT (fM_within_B82 N ((i : Int) + 1) T) _
        unfold fM_within_B82 fM_within_L92
        rw [e37 T hT]
        refine kT_ltt (by omega) (by omega) ?_
        refine kT_for (fun m s => ∃ T : KM, s = ((m : Int), T) ∧ mP b T ∧ (∀ c : Int, 0 ≤ c → c < 24 * ((N : Int) + 1) → T 65 c = rfS X i c) ∧ ∀ c : Int, 0 ≤ c → c < 24 * (m : Int) → T 66 c = rfS X (i + 1) c) (N + 1) ?_ ?_ 0 (by omega) kF _ ⟨T, rfl, hT, h65, fun c c0 c1 => by omega⟩ (kF_lt (by omega))
        · rintro m s hm ⟨T, rfl, hT, h65, h66⟩
          show kT (fM_within_B92 N ((i : Int) + 1) m T) _
          unfold fM_within_B92 fM_within_L100
          refine kT_ltf (by omega) (by omega) ?_
          refine kT_for (fun j s => ∃ T : KM, s = ((j : Int), T) ∧ mP b T ∧ (∀ c : Int, 0 ≤ c → c < 24 * ((N : Int) + 1) → T 65 c = rfS X i c) ∧ ∀ c : Int, 0 ≤ c → c < 24 * (m : Int) + j → T 66 c = rfS X (i + 1) c) 24 ?_ ?_ 0 (by omega) kF _ ⟨T, rfl, hT, h65, fun c c0 c1 => h66 c c0 (by omega)⟩ (kF_lt (by omega))
          · rintro j s hj ⟨T, rfl, hT, h65, h66⟩
            obtain ⟨x1, x2, x3⟩ := hxx T hT
            have ow := hv.2.1 ((i : Int) + 1) j (by omega) (by omega)
            have e59 := x1.2.1 ((i : Int) + 1) j (by omega) (by omega) (by omega) (by omega)
            have q65 : T 65 (24 * (m : Int) + j) = rdS X i m j := by rw [h65 _ (by omega) (by omega)]; exact rfS_e X i m (by omega)
            have r65 := rd_le hv (w := i) (by omega) m (k := j) (by omega)
            have fin : ∀ v, (0 ≤ v ∧ v ≤ 1000000000) → addS v (xo X ((i : Int) + 1) j) = rdS X (i + 1) m j → kT (fM_within_J201 N ((i : Int) + 1) m j v T) (kS (fun s => ∃ T : KM, s = (((j + 1 : Nat) : Int), T) ∧ mP b T ∧ (∀ c : Int, 0 ≤ c → c < 24 * ((N : Int) + 1) → T 65 c = rfS X i c) ∧ ∀ c : Int, 0 ≤ c → c < 24 * (m : Int) + ((j + 1 : Nat) : Int) → T 66 c = rfS X (i + 1) c) (kS (fun s => ∃ T : KM, s = (((m + 1 : Nat) : Int), T) ∧ mP b T ∧ (∀ c : Int, 0 ≤ c → c < 24 * ((N : Int) + 1) → T 65 c = rfS X i c) ∧ ∀ c : Int, 0 ≤ c → c < 24 * ((m + 1 : Nat) : Int) → T 66 c = rfS X (i + 1) c) (kS (fun s => ∃ T : KM, s = (((i + 1 : Nat) : Int) + 1, T) ∧ mP b T ∧ ∀ c : Int, 0 ≤ c → c < 24 * ((N : Int) + 1) → T 65 c = rfS X (i + 1) c) (fun z => z.1 = toS (mnS (cmS X (nB b - 1) N) 24))))) := by
              intro v hv9 ev
              unfold fM_within_J201
              refine kT_rd (by omega) ?_
              rw [e59]
              refine kT_callE (M_added (by omega) (by omega) T) (kT_wr (by omega) (kT_let (kT_inl ⟨_, rfl, hT.fr (W := [(66, none)]) (kFr.rf.put rfl) rfl rfl rfl, h65, fun c c0 c1 => ?_⟩)))
              by_cases e : c = 24 * (m : Int) + j
              · rw [e, ks_s, ev, rfS_e X (i + 1) m (by omega)]
              · rw [ks_i e]; exact h66 c c0 (by omega)
            show kT (fM_within_B100 N ((i : Int) + 1) m j T) _
            unfold fM_within_B100 fM_within_L124
            refine kT_ltt (by omega) (by omega) (kT_rd (by omega) ?_)
            rw [q65]
            cases m with
            | zero =>
              refine kT_for (fun l s => s = (rdS X i 0 j, (0 : Int), T)) 0 (fun i s hi => by omega) ?_ 0 (by omega) kF _ rfl (kF_lt (by omega))
              rintro s rfl
              show kT (fM_within_B124 N ((i : Int) + 1) ((0 : Nat) : Int) j (rdS X i 0 j) 0 T) _
              unfold fM_within_B124
              refine kT_ltt (by omega) (by omega) (kT_ltf (by omega) (by omega) (kT_exit (fin _ r65 ?_)))
              rw [rdS]
            | succ m =>
              have rr : ∀ l : Nat, l ≤ 24 → 0 ≤ mnA (rdS X i (m + 1) j) (roW X (rdS X i m) ((i : Int) + 1) j) l ∧ mnA (rdS X i (m + 1) j) (roW X (rdS X i m) ((i : Int) + 1) j) l ≤ 1000000000 := fun l hl9 => fnB_le (roW_r hv (rdS_r hv i (m + 1) j (by omega) (by omega)) (fun o o0 o1 => rdS_r hv i m o o0 o1) ((i : Int) + 1) (k := j) (by omega) l hl9) (by omega)
              refine kT_for (fun l s => s = (mnA (rdS X i (m + 1) j) (roW X (rdS X i m) ((i : Int) + 1) j) l, (l : Int), T)) 24 ?_ ?_ 0 (by omega) kF _ rfl (kF_lt (by omega))
              · rintro l s hl9 rfl
                have r1 := rr l (by omega)
                have r0 := rd_le hv (w := i) (by omega) m (k := l) (by omega)
                have rv := mvS_r hv ((i : Int) + 1) (k := l) (o := j) (by omega) (by omega)
                have e0 : T 65 (24 * (((m + 1 : Nat) : Int) - 1) + l) = rdS X i m l := by
                  rw [show 24 * (((m + 1 : Nat) : Int) - 1) + (l : Int) = 24 * (m : Int) + l by omega, h65 _ (by omega) (by omega)]
                  exact rfS_e X i m (by omega)
                have go : ∀ t, t = roW X (rdS X i m) ((i : Int) + 1) j l → (0 ≤ t ∧ t ≤ 1000000000) → kT (fM_within_J177 N ((i : Int) + 1) ((m + 1 : Nat) : Int) j (mnA (rdS X i (m + 1) j) (roW X (rdS X i m) ((i : Int) + 1) j) l) l t T) (kS (fun s => s = (mnA (rdS X i (m + 1) j) (roW X (rdS X i m) ((i : Int) + 1) j) (l + 1), ((l + 1 : Nat) : Int), T)) (kS (fun s => ∃ T : KM, s = (((j + 1 : Nat) : Int), T) ∧ mP b T ∧ (∀ c : Int, 0 ≤ c → c < 24 * ((N : Int) + 1) → T 65 c = rfS X i c) ∧ ∀ c : Int, 0 ≤ c → c < 24 * ((m + 1 : Nat) : Int) + ((j + 1 : Nat) : Int) → T 66 c = rfS X (i + 1) c) (kS (fun s => ∃ T : KM, s = (((m + 1 + 1 : Nat) : Int), T) ∧ mP b T ∧ (∀ c : Int, 0 ≤ c → c < 24 * ((N : Int) + 1) → T 65 c = rfS X i c) ∧ ∀ c : Int, 0 ≤ c → c < 24 * ((m + 1 + 1 : Nat) : Int) → T 66 c = rfS X (i + 1) c) (kS (fun s => ∃ T : KM, s = (((i + 1 : Nat) : Int) + 1, T) ∧ mP b T ∧ ∀ c : Int, 0 ≤ c → c < 24 * ((N : Int) + 1) → T 65 c = rfS X (i + 1) c) (fun z => z.1 = toS (mnS (cmS X (nB b - 1) N) 24)))))) := by
                  intro t et rt
                  unfold fM_within_J177 fM_within_J193
                  refine kT_lt (by omega) (by omega) (fun d => ?_) (fun d => ?_)
                  · refine kT_let (kT_inl ?_)
                    rw [mnA_t (by rw [← et]; exact d), ← et]
                    rfl
                  · refine kT_let (kT_inl ?_)
                    rw [mnA_f (by rw [← et]; exact d)]
                    rfl
                show kT (fM_within_B124 N ((i : Int) + 1) ((m + 1 : Nat) : Int) j (mnA (rdS X i (m + 1) j) (roW X (rdS X i m) ((i : Int) + 1) j) l) l T) _
                unfold fM_within_B124
                refine kT_ltt (by omega) (by omega) (kT_ltt (by omega) (by omega) (kT_eq (by omega) (by omega) (fun d => ?_) (fun d => ?_)))
                · refine go _ ?_ (by omega)
                  unfold roW
                  rw [if_pos d]
                · refine kT_rd (by omega) ?_
                  rw [e0, x3]
                  have ra : 0 ≤ addS (rdS X i m l) (mvS X ((i : Int) + 1) l j) ∧ addS (rdS X i m l) (mvS X ((i : Int) + 1) l j) ≤ 1000000000 := fnB_le (fnB_add (rdS_r hv i m l (by omega) (by omega)) rv) (by omega)
                  refine kT_callE (M_moves hv x1 x2 (by omega) (by omega) (by omega)) (kT_callE (M_added (by omega) (by omega) T) (go _ ?_ ra))
                  unfold roW
                  rw [if_neg d]
              · rintro s rfl
                have r1 := rr 24 (by omega)
                show kT (fM_within_B124 N ((i : Int) + 1) ((m + 1 : Nat) : Int) j (mnA (rdS X i (m + 1) j) (roW X (rdS X i m) ((i : Int) + 1) j) 24) 24 T) _
                unfold fM_within_B124
                refine kT_ltf (by omega) (by omega) (kT_exit (fin _ r1 ?_))
                rw [rdS]
          · rintro s ⟨T, rfl, hT, h65, h66⟩
            show kT (fM_within_B100 N ((i : Int) + 1) m 24 T) _
            unfold fM_within_B100 fM_within_J236
            exact kT_ltf (by omega) (by omega) (kT_exit (kT_let (kT_inl ⟨T, rfl, hT, h65, fun c c0 c1 => h66 c c0 (by omega)⟩)))
        · rintro s ⟨T, rfl, hT, h65, h66⟩
          show kT (fM_within_B92 N ((i : Int) + 1) ((N + 1 : Nat) : Int) T) _
          unfold fM_within_B92 fM_within_J242
          refine kT_ltt (by omega) (by omega) (kT_exit ?_)
          refine kT_callT (M_turns (rows := N + 1) (by omega)) (fun r τ2 hz => ?_)
          obtain ⟨z1, z2⟩ := hz
          dsimp only at z1 z2
          refine kT_let (kT_inl ⟨τ2, ?_, hT.fr z1 rfl rfl rfl, fun c c0 c1 => ?_⟩)
          · refine Prod.ext ?_ rfl
            dsimp only
            omega
          · rw [z2 c c0 (by omega)]; exact h66 c c0 (by omega)
      · rintro s ⟨T, rfl, hT, h65⟩
        show kT (fM_within_B82 N (((nB b - 1 : Nat) : Int) + 1) T) _
        unfold fM_within_B82 fM_within_J255
        rw [e37 T hT]
        refine kT_ltf (by omega) (by omega) (kT_exit ?_)
        have e := M_leastOf (σ := T) (a := 0) (n := 24 * (N + 1)) (g := rfS X (nB b - 1)) (by omega) (fun o o0 o1 => ⟨?_, ?_⟩)
        · rw [show ((0 : Nat) : Int) = 0 from rfl, show (0 : Int) + ((24 * (N + 1) : Nat) : Int) = 24 * ((N : Int) + 1) by omega] at e
          refine kT_callE e (kT_ri ?_)
          rw [rf_cm hv (by omega) N]
        · exact rd_le hv (by omega) _ (by omega)
        · rw [show ((0 : Nat) : Int) + o = o by omega]
          exact h65 o o0 (by omega)
  · rw [if_neg c, if_neg c]
    exact kT_eqt rfl (by omega) (kT_ri rfl)
