/-! ===== close, pivot, count, note, fault ===== -/
def lwS (b : KB) : Nat → Int
  | 0 => -1
  | v + 1 => if hw b v = -1 then lwS b v else (v : Int)
theorem lwS_r (b : KB) : ∀ v : Nat, lwS b v = -1 ∨ (0 ≤ lwS b v ∧ lwS b v < v ∧ hw b (lwS b v) ≠ -1)
  | 0 => Or.inl rfl
  | v + 1 => by
    rw [lwS]
    by_cases c : hw b v = -1
    · rw [if_pos c]
      rcases lwS_r b v with h | h
      · exact Or.inl h
      · exact Or.inr ⟨h.1, by omega, h.2.2⟩
    · rw [if_neg c]; exact Or.inr ⟨by omega, by omega, c⟩
theorem P_lastSounding {b : KB} (hb : kB b) {σ : KM} (hW : wOK b σ) : fWi_lastSounding σ = some (lwS b (nB b), σ) := by
  refine kP ?_ (rfWi_lastSounding σ)
  have eN := nB_i hb
  have n48 := nB_48 hb
  unfold fWi_lastSounding fWi_lastSounding_L7
  rw [hW.1]
  refine kT_let ?_
  refine kT_for (fun i s => s = ((nB b : Int) - 1 - i, σ) ∧ lwS b (nB b - i) = lwS b (nB b)) (nB b) ?_ ?_ 0 (by omega) kF _ ⟨by rw [eN]; simp, rfl⟩ (kF_lt (by omega))
  · rintro i s hi0 ⟨rfl, ho⟩
    have e : nB b - i = (nB b - 1 - i) + 1 := by omega
    have ev : ((nB b - 1 - i : Nat) : Int) = (nB b : Int) - 1 - i := by omega
    have h2 := hw_r hb ((nB b : Int) - 1 - i)
    rw [e, lwS, ev] at ho
    show kT (fWi_lastSounding_B7 ((nB b : Int) - 1 - i) σ) _
    unfold fWi_lastSounding_B7 fWi_lastSounding_J27
    refine kT_ltf (by omega) (by omega) (kT_rd (by omega) ?_)
    rw [(hW.2.2.1 ((nB b : Int) - 1 - i) (by omega) (by omega)).2]
    refine kT_eq (by omega) (by omega) (fun d => ?_) (fun d => ?_)
    · rw [if_pos d] at ho
      refine kT_let (kT_inl ⟨Prod.ext (by dsimp only; omega) rfl, ?_⟩)
      rw [show nB b - (i + 1) = nB b - 1 - i by omega]; exact ho
    · rw [if_neg d] at ho
      exact kT_exit (kT_ri ho)
  · rintro s ⟨rfl, ho⟩
    rw [Nat.sub_self, lwS] at ho
    show kT (fWi_lastSounding_B7 ((nB b : Int) - 1 - (nB b : Nat)) σ) _
    unfold fWi_lastSounding_B7 fWi_lastSounding_J27
    refine kT_ltt (by omega) (by omega) (kT_exit (kT_ri ?_))
    rw [← ho]
    dsimp only
    omega
def clS (b : KB) (l : Nat) : Int := if rmS b l = 5 then 1 else if rmS b l = 1 ∧ ocS b (hw b l) 0 l ≠ -1 ∧ dgS (hw b (ocS b (hw b l) 0 l)) (pB b l) = 5 then 2 else 0
def qClose (b : KB) : Int := if hP b then (if lwS b (nB b) = -1 then -1 else clS b (lwS b (nB b)).toNat) else -5
theorem C_close {b : KB} {σ : KM} (hb : kB b) (h : CI b σ) : kT (fP_close σ) (fun z => z.1 = qClose b ∧ CI b z.2) := by
  have eN := nB_i hb
  have n48 := nB_48 hb
  unfold fP_close qClose
  refine kT_callT (C_noPath hb h) (fun r τ hz => ?_)
  obtain ⟨hr, hC, hF, hW⟩ := hz
  dsimp only at hr hC hF hW
  rw [hr]
  by_cases c : hP b
  · rw [if_pos c, if_pos c]
    refine kT_eqt rfl (by omega) (kT_callE (P_lastSounding hb hW) ?_)
    have lr := lwS_r b (nB b)
    refine kT_eq (by omega) (by omega) (fun d => ?_) (fun d => ?_)
    · rw [if_pos d]; exact kT_ri ⟨rfl, hC⟩
    · rw [if_neg d]
      have el : lwS b (nB b) = (((lwS b (nB b)).toNat : Nat) : Int) := by omega
      generalize (lwS b (nB b)).toNat = l at el
      rw [el] at lr d ⊢
      have rr := rmS_r hb c (w := (l : Int)) (by omega)
      have oc := ocS_r b (hw b l) 0 l
      have pr := pB_r hb c (w := l) (by omega)
      unfold fP_close_J58 fP_close_J90 clS
      refine kT_callE (P_romanOf hb hF hW c (by omega)) (kT_eq (by omega) (by omega) (fun k1 => ?_) (fun k1 => ?_))
      · rw [if_pos k1]; exact kT_ri ⟨rfl, hC⟩
      · rw [if_neg k1]
        refine kT_callE (P_otherChordAhead hb hW (by omega) (by omega)) (kT_eq (by omega) (by omega) (fun k2 => ?_) (fun k2 => ?_))
        · refine kT_eq (by omega) (by omega) (fun k3 => ?_) (fun k3 => ?_)
          · rw [if_neg (fun hh => hh.2.1 k3)]; exact kT_ri ⟨rfl, hC⟩
          · have oc2 := oc.resolve_left k3
            have ho := hw_r hb (ocS b (hw b l) 0 l)
            refine kT_rd (by omega) (kT_rd (by omega) ?_)
            rw [(hW.2.2.1 (ocS b (hw b l) 0 l) (by omega) (by omega)).2, (hF.p c).1 l (by omega)]
            have dr := dgS_r (hw b (ocS b (hw b l) 0 l)) (pB b l) (by omega) pr
            refine kT_callE (P_degreeOf (by omega) pr τ) (kT_eq (by omega) (by omega) (fun k4 => ?_) (fun k4 => ?_))
            · rw [if_pos ⟨k2, k3, k4⟩]; exact kT_ri ⟨rfl, hC⟩
            · rw [if_neg (fun hh => k4 hh.2.2)]; exact kT_ri ⟨rfl, hC⟩
        · rw [if_neg (fun hh => k2 hh.1)]; exact kT_ri ⟨rfl, hC⟩
  · rw [if_neg c, if_neg c]
    exact kT_eqf (by omega) (by omega) (by omega) (kT_ri ⟨rfl, hC⟩)
theorem M_close {b : KB} {σ : KM} (hb : kB b) (hm : mB b σ) : kT (fM_close σ) (fun z => z.1 = qClose b) := by
  have eN := nB_i hb
  have n48 := nB_48 hb
  unfold fM_close qClose
  refine kT_wf (kT_callT (M_has hb hm.th) (fun r τ hz => ?_))
  obtain ⟨hr, hp⟩ := hz
  dsimp only at hr hp
  rw [hr]
  by_cases c : hP b
  · rw [if_pos c, if_pos c, hp.2.1.1]
    refine kT_eqf (by omega) (by omega) (by omega) (kT_let ?_)
    have lr := lwS_r b (nB b)
    have fin : kT (fM_close_J41 (lwS b (nB b)) τ) (fun z => z.1 = if lwS b (nB b) = -1 then -1 else clS b (lwS b (nB b)).toNat) := by
      unfold fM_close_J41
      refine kT_lt (by omega) (by omega) (fun d => ?_) (fun d => ?_)
      · rw [if_pos (by omega)]; exact kT_ri rfl
      · rw [if_neg (by omega)]
        have el : lwS b (nB b) = (((lwS b (nB b)).toNat : Nat) : Int) := by omega
        generalize (lwS b (nB b)).toNat = l at el
        rw [el] at lr d ⊢
        have lr2 := lr.resolve_left (by omega)
        have hl2 := hw_r hb (l : Int)
        have pr := pB_r hb c (w := l) (by omega)
        have rr := rmS_r hb c (w := (l : Int)) (by omega)
        have er : rmS b l = dgS (hw b l) (pB b l) := by
          unfold rmS
          rw [if_neg lr2.2.2]
          rfl
        have hp1 := hp.in hb (w := (l : Int)) (by omega)
        refine kT_callE (M_countedIn hb hp.1 (by omega)) (kT_callE (M_chordIn hb l) (kT_rd (by omega) ?_))
        rw [hp1.w c (w := l) (by omega)]
        generalize mMem τ (cw b l) (tw b l) = M0 at hp1 ⊢
        have end2 : ∀ (o : Int) (M : KM), ((ocS b (hw b l) 0 l = -1 ∧ o = hw b l) ∨ (ocS b (hw b l) 0 l ≠ -1 ∧ o = hw b (ocS b (hw b l) 0 l) ∧ o ≠ hw b l ∧ 0 ≤ o ∧ o < 36)) → kT (fM_close_J105 (hw b l) (pB b l) o M) (fun z => z.1 = clS b l) := by
          intro o M ho
          have j132 : rmS b l ≠ 1 ∨ (rmS b l = 1 ∧ clS b l = 0) → kT (fM_close_J132 (hw b l) (pB b l) M) (fun z => z.1 = clS b l) := by
            intro hj
            unfold fM_close_J132 fM_close_J146
            refine kT_callE (M_degreeOf (by omega) pr M) ?_
            rw [← er]
            refine kT_eq (by omega) (by omega) (fun k1 => ?_) (fun k1 => ?_)
            · refine kT_ri ?_
              unfold clS
              rw [if_pos k1]
            · refine kT_ri ?_
              rcases hj with hj | hj
              · unfold clS
                rw [if_neg k1, if_neg (fun hh => hj hh.1)]
              · rw [hj.2]
          unfold fM_close_J105
          refine kT_callE (M_degreeOf (by omega) pr M) ?_
          rw [← er]
          refine kT_eq (by omega) (by omega) (fun k1 => ?_) (fun k1 => ?_)
          · rcases ho with ⟨ho, e⟩ | ⟨ho, e, ne, o0, o1⟩
            · refine kT_eqt e (by omega) (j132 (Or.inr ⟨k1, ?_⟩))
              unfold clS
              rw [if_neg (by omega), if_neg (fun hh => hh.2.1 ho)]
            · have dr := dgS_r o (pB b l) ⟨o0, o1⟩ pr
              refine kT_eqf ne (by omega) (by omega) (kT_callE (M_degreeOf ⟨o0, o1⟩ pr M) (kT_eq (by omega) (by omega) (fun k2 => ?_) (fun k2 => ?_)))
              · refine kT_ri ?_
                unfold clS
                rw [if_neg (by omega), if_pos ⟨k1, ho, by rw [← e]; exact k2⟩]
              · refine j132 (Or.inr ⟨k1, ?_⟩)
                unfold clS
                rw [if_neg (by omega), if_neg (fun hh => k2 (by rw [e]; exact hh.2.2))]
          · exact j132 (Or.inl k1)
        unfold fM_close_L67
        refine kT_for (fun i s => ∃ (o : Int) (M : KM), s = ((l : Int) - i, o, M) ∧ mP b M ∧ ((o = hw b l ∧ ocS b (hw b l) 0 (l - i) = ocS b (hw b l) 0 l) ∨ (ocS b (hw b l) 0 l ≠ -1 ∧ o = hw b (ocS b (hw b l) 0 l) ∧ o ≠ hw b l ∧ 0 ≤ o ∧ o < 36))) l ?_ ?_ 0 (by omega) kF _ ⟨hw b l, M0, by simp, hp1, Or.inl ⟨rfl, rfl⟩⟩ (kF_lt (by omega))
        · rintro i s hi ⟨o, M, rfl, hM, ho⟩
          show kT (fM_close_B67 (hw b l) (pB b l) ((l : Int) - i) o M) _
          unfold fM_close_B67 fM_close_J100
          refine kT_ltt (by omega) (by omega) ?_
          rcases ho with ⟨rfl, ho⟩ | ho
          · refine kT_eqt rfl (by omega) (kT_let ?_)
            have e : l - i = (l - 1 - i) + 1 := by omega
            have ev : ((l - 1 - i : Nat) : Int) = (l : Int) - 1 - i := by omega
            have h2 := hw_r hb ((l : Int) - 1 - i)
            have tr := tw_r hb ((l : Int) - 1 - i)
            rw [e, ocS, ev, if_neg (by omega)] at ho
            have eq1 : (l : Int) - i + -1 = (l : Int) - 1 - i := by omega
            rw [eq1]
            have hM1 := hM.in hb (w := (l : Int) - 1 - i) (by omega)
            refine kT_callE (M_countedIn hb hM.1 (by omega)) ?_
            rw [mMem_t]
            refine kT_eq (by omega) (by omega) (fun k1 => ?_) (fun k1 => ?_)
            · rw [if_neg (fun hh => hh.1 (h2.2.2.mpr k1))] at ho
              refine kT_inl ⟨_, _, Prod.ext (by dsimp only; omega) rfl, hM1, Or.inl ⟨rfl, ?_⟩⟩
              rw [show l - (i + 1) = l - 1 - i by omega]; exact ho
            · have n1 : hw b ((l : Int) - 1 - i) ≠ -1 := fun ee => k1 (h2.2.2.mp ee)
              refine kT_callE (M_chordIn hb ((l : Int) - 1 - i)) ?_
              by_cases k2 : hw b ((l : Int) - 1 - i) = hw b l
              · rw [if_neg (fun hh => hh.2 k2)] at ho
                refine kT_inl ⟨_, _, Prod.ext (by dsimp only; omega) rfl, hM1, Or.inl ⟨k2, ?_⟩⟩
                rw [show l - (i + 1) = l - 1 - i by omega]; exact ho
              · rw [if_pos ⟨n1, k2⟩] at ho
                refine kT_inl ⟨_, _, Prod.ext (by dsimp only; omega) rfl, hM1, Or.inr ⟨by omega, by rw [← ho], k2, by omega, by omega⟩⟩
          · refine kT_eqf ho.2.2.1 (by omega) (by omega) (kT_exit (end2 o M (Or.inr ho)))
        · rintro s ⟨o, M, rfl, hM, ho⟩
          show kT (fM_close_B67 (hw b l) (pB b l) ((l : Int) - (l : Nat)) o M) _
          unfold fM_close_B67
          refine kT_ltf (by omega) (by omega) (kT_exit (end2 o M ?_))
          rcases ho with ⟨ho1, ho2⟩ | ho
          · rw [Nat.sub_self, ocS] at ho2
            exact Or.inl ⟨ho2.symm, ho1⟩
          · exact Or.inr ho
    unfold fM_close_L22
    refine kT_for (fun i s => s = ((nB b : Int) - 1 - i, τ) ∧ lwS b (nB b - i) = lwS b (nB b)) (nB b) ?_ ?_ 0 (by omega) kF _ ⟨by rw [eN]; simp, rfl⟩ (kF_lt (by omega))
    · rintro i s hi0 ⟨rfl, ho⟩
      have e : nB b - i = (nB b - 1 - i) + 1 := by omega
      have ev : ((nB b - 1 - i : Nat) : Int) = (nB b : Int) - 1 - i := by omega
      have h2 := hw_r hb ((nB b : Int) - 1 - i)
      rw [e, lwS, ev] at ho
      show kT (fM_close_B22 ((nB b : Int) - 1 - i) τ) _
      unfold fM_close_B22
      refine kT_ltf (by omega) (by omega) (kT_rd (by omega) ?_)
      rw [hp.2.1.2.2.1 ((nB b : Int) - 1 - i) (by omega) (by omega)]
      by_cases d : tw b ((nB b : Int) - 1 - i) = 0
      · rw [if_pos (h2.2.2.mpr d)] at ho
        rw [if_pos d]
        refine kT_eqf (by omega) (by omega) (by omega) (kT_let (kT_inl ⟨Prod.ext (by dsimp only; omega) rfl, ?_⟩))
        rw [show nB b - (i + 1) = nB b - 1 - i by omega]; exact ho
      · rw [if_neg (fun ee => d (h2.2.2.mp ee))] at ho
        rw [if_neg d, ho]
        exact kT_eqt rfl (by omega) (kT_exit fin)
    · rintro s ⟨rfl, ho⟩
      rw [Nat.sub_self, lwS] at ho
      show kT (fM_close_B22 ((nB b : Int) - 1 - (nB b : Nat)) τ) _
      unfold fM_close_B22
      rw [show (nB b : Int) - 1 - (nB b : Nat) = lwS b (nB b) by omega]
      exact kT_ltt (by omega) (by omega) (kT_exit fin)
  · rw [if_neg c, if_neg c]
    exact kT_eqt rfl (by omega) (kT_ri rfl)
