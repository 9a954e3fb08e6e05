/-! ===== the relation of both sides, kept by every pair of calls ===== -/
def kR (σ : KM) : Prop := ∃ S : KSt, kSt S ∧ cS S σ ∧ mS S σ
def kPair (F G : KM → Option (Int × KM)) (σ : KM) : Prop := ∃ r τ υ, F σ = some (r, τ) ∧ G τ = some (r, υ) ∧ kR υ
theorem kR_pair {F G : KM → Option (Int × KM)} {S S' : KSt} {σ : KM} {q : Int} {Wc Wm : List (Nat × Option Int)} (hm : mS S σ) (hF : kT (F σ) (fun z => z.1 = q ∧ cS S' z.2)) (hFq : kQ Wc σ Prod.snd (F σ)) (k0 : kKeep Wc [45, 46, 47, 52, 53] [(10, 7), (10, 11), (10, 12), (10, 13), (10, 14), (10, 15), (10, 16)] = true) (k1 : kKeep Wc [51] [(10, 10)] = true) (k2 : kKeep Wc [54] [(10, 20)] = true) (k3 : kKeep Wc [] [(10, 23), (10, 24)] = true) (hG : ∀ τ, mS S τ → kT (G τ) (fun z => z.1 = q ∧ mS S' z.2)) (hGq : ∀ τ, kQ Wm τ Prod.snd (G τ)) (hW : Wm.all (fun p => p.1 == 10 || Nat.ble 45 p.1) = true) (hS : kSt S') : kPair F G σ := by
  obtain ⟨⟨r, τ⟩, e1, e2, e3⟩ := hF
  have hf := hFq _ e1
  dsimp only at e2 e3 hf
  obtain ⟨⟨r2, υ⟩, g1, g2, g3⟩ := hG τ (hm.cl hf k0 k1 k2 k3)
  have hg := hGq τ _ g1
  dsimp only at g2 g3 hg
  refine ⟨q, τ, υ, by rw [e1, e2], by rw [g1, g2], S', hS, e3.ml (fun c hc => hg.cell ?_), g3⟩
  rw [List.all_eq_true] at hW ⊢
  intro p hp
  have := hW p hp
  rw [Bool.or_eq_true, beq_iff_eq, Nat.ble_eq] at this
  rw [bne_iff_ne]
  omega
theorem pr_tones {σ : KM} {x1 x2 : Int} (h1 : i32 x1) (h2 : i32 x2) (hR : kR σ) : kPair (fP_tones x1 x2) (fM_tones x1 x2) σ := by
  obtain ⟨S, hS, hc, hm⟩ := hR
  exact kR_pair (S := S) (S' := S) (q := qTones (sb S) x1 x2) hm (cS_q (b := sb S) hc (C_tones hS.1 hc.1 h1 h2) (rfP_tones _ _ σ) rfl rfl rfl) (rfP_tones _ _ σ) rfl rfl rfl rfl (fun τ ht => mS_a ht (M_tones hS.1 ht.1 h1 h2) (rfM_tones _ _ τ) rfl rfl rfl rfl) (fun τ => rfM_tones _ _ τ) rfl hS
theorem pr_match {σ : KM} {x1 x2 x3 : Int} (h1 : i32 x1) (h2 : i32 x2) (h3 : i32 x3) (hR : kR σ) : kPair (fP_match x1 x2 x3) (fM_match x1 x2 x3) σ := by
  obtain ⟨S, hS, hc, hm⟩ := hR
  exact kR_pair (S := S) (S' := S) (q := qMatch (sb S) x1 x2 x3) hm (cS_q (b := sb S) hc (C_match hS.1 hc.1 h1 h2 h3) (rfP_match _ _ _ σ) rfl rfl rfl) (rfP_match _ _ _ σ) rfl rfl rfl rfl (fun τ ht => mS_a ht (M_match hS.1 ht.1 h1 h2 h3) (rfM_match _ _ _ τ) rfl rfl rfl rfl) (fun τ => rfM_match _ _ _ τ) rfl hS
theorem pr_fit {σ : KM} {x1 x2 : Int} (h1 : i32 x1) (h2 : i32 x2) (hR : kR σ) : kPair (fP_fit x1 x2) (fM_fit x1 x2) σ := by
  obtain ⟨S, hS, hc, hm⟩ := hR
  exact kR_pair (S := S) (S' := S) (q := qFit (sb S) x1 x2) hm (cS_q (b := sb S) hc (C_fit hS.1 hc.1 h1 h2) (rfP_fit _ _ σ) rfl rfl rfl) (rfP_fit _ _ σ) rfl rfl rfl rfl (fun τ ht => mS_a ht (M_fit hS.1 ht.1 h1 h2) (rfM_fit _ _ τ) rfl rfl rfl rfl) (fun τ => rfM_fit _ _ τ) rfl hS
theorem pr_ranked {σ : KM} {x1 x2 : Int} (h1 : i32 x1) (h2 : i32 x2) (hR : kR σ) : kPair (fP_ranked x1 x2) (fM_ranked x1 x2) σ := by
  obtain ⟨S, hS, hc, hm⟩ := hR
  exact kR_pair (S := S) (S' := S) (q := qRanked (sb S) x1 x2) hm (cS_q (b := sb S) hc (C_ranked hS.1 hc.1 h1 h2) (rfP_ranked _ _ σ) rfl rfl rfl) (rfP_ranked _ _ σ) rfl rfl rfl rfl (fun τ ht => mS_a ht (M_ranked hS.1 ht.1 h1 h2) (rfM_ranked _ _ τ) rfl rfl rfl rfl) (fun τ => rfM_ranked _ _ τ) rfl hS
theorem pr_overall {σ : KM} {x1 : Int} (h1 : i32 x1) (hR : kR σ) : kPair (fP_overall x1) (fM_overall x1) σ := by
  obtain ⟨S, hS, hc, hm⟩ := hR
  exact kR_pair (S := S) (S' := S) (q := qOverall (sb S) x1) hm (cS_q (b := sb S) hc (C_overall hS.1 hc.1 h1) (rfP_overall _ σ) rfl rfl rfl) (rfP_overall _ σ) rfl rfl rfl rfl (fun τ ht => mS_a ht (M_overall hS.1 ht.1 h1) (rfM_overall _ τ) rfl rfl rfl rfl) (fun τ => rfM_overall _ τ) rfl hS
theorem pr_chord {σ : KM} {x1 : Int} (h1 : i32 x1) (hR : kR σ) : kPair (fP_chord x1) (fM_chord x1) σ := by
  obtain ⟨S, hS, hc, hm⟩ := hR
  exact kR_pair (S := S) (S' := S) (q := qChord (sb S) x1) hm (cS_q (b := sb S) hc (C_chord hS.1 hc.1 h1) (rfP_chord _ σ) rfl rfl rfl) (rfP_chord _ σ) rfl rfl rfl rfl (fun τ ht => mS_a ht (M_chord hS.1 ht.1 h1) (rfM_chord _ τ) rfl rfl rfl rfl) (fun τ => rfM_chord _ τ) rfl hS
theorem pr_distance {σ : KM} {x1 x2 : Int} (h1 : i32 x1) (h2 : i32 x2) (hR : kR σ) : kPair (fP_distance x1 x2) (fM_distance x1 x2) σ := by
  obtain ⟨S, hS, hc, hm⟩ := hR
  exact kR_pair (S := S) (S' := S) (q := qDist (sb S) x1 x2) hm (cS_q (b := sb S) hc (C_distance hS.1 hc.1 h1 h2) (rfP_distance _ _ σ) rfl rfl rfl) (rfP_distance _ _ σ) rfl rfl rfl rfl (fun τ ht => mS_a ht (M_distance hS.1 ht.1 h1 h2) (rfM_distance _ _ τ) rfl rfl rfl rfl) (fun τ => rfM_distance _ _ τ) rfl hS
theorem pr_way {σ : KM} {x1 x2 x3 : Int} (h1 : i32 x1) (h2 : i32 x2) (h3 : i32 x3) (hR : kR σ) : kPair (fP_way x1 x2 x3) (fM_way x1 x2 x3) σ := by
  obtain ⟨S, hS, hc, hm⟩ := hR
  exact kR_pair (S := S) (S' := S) (q := qWay (sb S) x1 x2 x3) hm (cS_q (b := sb S) hc (C_way hS.1 hc.1 h1 h2 h3) (rfP_way _ _ _ σ) rfl rfl rfl) (rfP_way _ _ _ σ) rfl rfl rfl rfl (fun τ ht => mS_a ht (M_way hS.1 ht.1 h1 h2 h3) (rfM_way _ _ _ τ) rfl rfl rfl rfl) (fun τ => rfM_way _ _ _ τ) rfl hS
theorem pr_cost {σ : KM}  (hR : kR σ) : kPair (fP_cost) (fM_cost) σ := by
  obtain ⟨S, hS, hc, hm⟩ := hR
  exact kR_pair (S := S) (S' := S) (q := qCost (sb S) ) hm (cS_q (b := sb S) hc (C_cost hS.1 hc.1 ) (rfP_cost  σ) rfl rfl rfl) (rfP_cost  σ) rfl rfl rfl rfl (fun τ ht => mS_a ht (M_cost hS.1 ht.1 ) (rfM_cost  τ) rfl rfl rfl rfl) (fun τ => rfM_cost  τ) rfl hS
theorem pr_key {σ : KM} {x1 : Int} (h1 : i32 x1) (hR : kR σ) : kPair (fP_key x1) (fM_key x1) σ := by
  obtain ⟨S, hS, hc, hm⟩ := hR
  exact kR_pair (S := S) (S' := S) (q := qKey (sb S) x1) hm (cS_q (b := sb S) hc (C_key hS.1 hc.1 h1) (rfP_key _ σ) rfl rfl rfl) (rfP_key _ σ) rfl rfl rfl rfl (fun τ ht => mS_a ht (M_key hS.1 ht.1 h1) (rfM_key _ τ) rfl rfl rfl rfl) (fun τ => rfM_key _ τ) rfl hS
theorem pr_ties {σ : KM}  (hR : kR σ) : kPair (fP_ties) (fM_ties) σ := by
  obtain ⟨S, hS, hc, hm⟩ := hR
  exact kR_pair (S := S) (S' := S) (q := qTies (sb S) ) hm (cS_q (b := sb S) hc (C_ties hS.1 hc.1 ) (rfP_ties  σ) rfl rfl rfl) (rfP_ties  σ) rfl rfl rfl rfl (fun τ ht => mS_a ht (M_ties hS.1 ht.1 ) (rfM_ties  τ) rfl rfl rfl rfl) (fun τ => rfM_ties  τ) rfl hS
theorem pr_through {σ : KM} {x1 x2 : Int} (h1 : i32 x1) (h2 : i32 x2) (hR : kR σ) : kPair (fP_through x1 x2) (fM_through x1 x2) σ := by
  obtain ⟨S, hS, hc, hm⟩ := hR
  exact kR_pair (S := S) (S' := S) (q := qThrough (sb S) x1 x2) hm (cS_q (b := sb S) hc (C_through hS.1 hc.1 h1 h2) (rfP_through _ _ σ) rfl rfl rfl) (rfP_through _ _ σ) rfl rfl rfl rfl (fun τ ht => mS_a ht (M_through hS.1 ht.1 h1 h2) (rfM_through _ _ τ) rfl rfl rfl rfl) (fun τ => rfM_through _ _ τ) rfl hS
theorem pr_unsure {σ : KM} {x1 x2 : Int} (h1 : i32 x1) (h2 : i32 x2) (hR : kR σ) : kPair (fP_unsure x1 x2) (fM_unsure x1 x2) σ := by
  obtain ⟨S, hS, hc, hm⟩ := hR
  exact kR_pair (S := S) (S' := S) (q := qUnsure (sb S) x1 x2) hm (cS_q (b := sb S) hc (C_unsure hS.1 hc.1 h1 h2) (rfP_unsure _ _ σ) rfl rfl rfl) (rfP_unsure _ _ σ) rfl rfl rfl rfl (fun τ ht => mS_a ht (M_unsure hS.1 ht.1 h1 h2) (rfM_unsure _ _ τ) rfl rfl rfl rfl) (fun τ => rfM_unsure _ _ τ) rfl hS
theorem pr_second {σ : KM} {x1 : Int} (h1 : i32 x1) (hR : kR σ) : kPair (fP_second x1) (fM_second x1) σ := by
  obtain ⟨S, hS, hc, hm⟩ := hR
  exact kR_pair (S := S) (S' := S) (q := qSecond (sb S) x1) hm (cS_q (b := sb S) hc (C_second hS.1 hc.1 h1) (rfP_second _ σ) rfl rfl rfl) (rfP_second _ σ) rfl rfl rfl rfl (fun τ ht => mS_a ht (M_second hS.1 ht.1 h1) (rfM_second _ τ) rfl rfl rfl rfl) (fun τ => rfM_second _ τ) rfl hS
theorem pr_within {σ : KM} {x1 : Int} (h1 : i32 x1) (hR : kR σ) : kPair (fP_within x1) (fM_within x1) σ := by
  obtain ⟨S, hS, hc, hm⟩ := hR
  exact kR_pair (S := S) (S' := S) (q := qWithin (sb S) x1) hm (cS_q (b := sb S) hc (C_within hS.1 hc.1 h1) (rfP_within _ σ) rfl rfl rfl) (rfP_within _ σ) rfl rfl rfl rfl (fun τ ht => mS_a ht (M_within hS.1 ht.1 h1) (rfM_within _ τ) rfl rfl rfl rfl) (fun τ => rfM_within _ τ) rfl hS
theorem pr_lasting {σ : KM} {x1 : Int} (h1 : i32 x1) (hR : kR σ) : kPair (fP_lasting x1) (fM_lasting x1) σ := by
  obtain ⟨S, hS, hc, hm⟩ := hR
  exact kR_pair (S := S) (S' := S) (q := qLasting (sb S) x1) hm (cS_q (b := sb S) hc (C_lasting hS.1 hc.1 h1) (rfP_lasting _ σ) rfl rfl rfl) (rfP_lasting _ σ) rfl rfl rfl rfl (fun τ ht => mS_a ht (M_lasting hS.1 ht.1 h1) (rfM_lasting _ τ) rfl rfl rfl rfl) (fun τ => rfM_lasting _ τ) rfl hS
theorem pr_firm {σ : KM}  (hR : kR σ) : kPair (fP_firm) (fM_firm) σ := by
  obtain ⟨S, hS, hc, hm⟩ := hR
  exact kR_pair (S := S) (S' := S) (q := qFirm (sb S) ) hm (cS_q (b := sb S) hc (C_firm hS.1 hc.1 ) (rfP_firm  σ) rfl rfl rfl) (rfP_firm  σ) rfl rfl rfl rfl (fun τ ht => mS_a ht (M_firm hS.1 ht.1 ) (rfM_firm  τ) rfl rfl rfl rfl) (fun τ => rfM_firm  τ) rfl hS
theorem pr_segments {σ : KM}  (hR : kR σ) : kPair (fP_segments) (fM_segments) σ := by
  obtain ⟨S, hS, hc, hm⟩ := hR
  exact kR_pair (S := S) (S' := S) (q := qSegs (sb S) ) hm (cS_q (b := sb S) hc (C_segments hS.1 hc.1 ) (rfP_segments  σ) rfl rfl rfl) (rfP_segments  σ) rfl rfl rfl rfl (fun τ ht => mS_a ht (M_segments hS.1 ht.1 ) (rfM_segments  τ) rfl rfl rfl rfl) (fun τ => rfM_segments  τ) rfl hS
theorem pr_segment {σ : KM} {x1 x2 : Int} (h1 : i32 x1) (h2 : i32 x2) (hR : kR σ) : kPair (fP_segment x1 x2) (fM_segment x1 x2) σ := by
  obtain ⟨S, hS, hc, hm⟩ := hR
  exact kR_pair (S := S) (S' := S) (q := qSeg (sb S) x1 x2) hm (cS_q (b := sb S) hc (C_segment hS.1 hc.1 h1 h2) (rfP_segment _ _ σ) rfl rfl rfl) (rfP_segment _ _ σ) rfl rfl rfl rfl (fun τ ht => mS_a ht (M_segment hS.1 ht.1 h1 h2) (rfM_segment _ _ τ) rfl rfl rfl rfl) (fun τ => rfM_segment _ _ τ) rfl hS
theorem pr_pivot {σ : KM} {x1 x2 : Int} (h1 : i32 x1) (h2 : i32 x2) (hR : kR σ) : kPair (fP_pivot x1 x2) (fM_pivot x1 x2) σ := by
  obtain ⟨S, hS, hc, hm⟩ := hR
  exact kR_pair (S := S) (S' := S) (q := qPivot (sb S) x1 x2) hm (cS_q (b := sb S) hc (C_pivot hS.1 hc.1 h1 h2) (rfP_pivot _ _ σ) rfl rfl rfl) (rfP_pivot _ _ σ) rfl rfl rfl rfl (fun τ ht => mS_a ht (M_pivot hS.1 ht.1 h1 h2) (rfM_pivot _ _ τ) rfl rfl rfl rfl) (fun τ => rfM_pivot _ _ τ) rfl hS
theorem pr_roman {σ : KM} {x1 : Int} (h1 : i32 x1) (hR : kR σ) : kPair (fP_roman x1) (fM_roman x1) σ := by
  obtain ⟨S, hS, hc, hm⟩ := hR
  exact kR_pair (S := S) (S' := S) (q := qRoman (sb S) x1) hm (cS_q (b := sb S) hc (C_roman hS.1 hc.1 h1) (rfP_roman _ σ) rfl rfl rfl) (rfP_roman _ σ) rfl rfl rfl rfl (fun τ ht => mS_a ht (M_roman hS.1 ht.1 h1) (rfM_roman _ τ) rfl rfl rfl rfl) (fun τ => rfM_roman _ τ) rfl hS
theorem pr_outside {σ : KM}  (hR : kR σ) : kPair (fP_outside) (fM_outside) σ := by
  obtain ⟨S, hS, hc, hm⟩ := hR
  exact kR_pair (S := S) (S' := S) (q := qOutside (sb S) ) hm (cS_q (b := sb S) hc (C_outside hS.1 hc.1 ) (rfP_outside  σ) rfl rfl rfl) (rfP_outside  σ) rfl rfl rfl rfl (fun τ ht => mS_a ht (M_outside hS.1 ht.1 ) (rfM_outside  τ) rfl rfl rfl rfl) (fun τ => rfM_outside  τ) rfl hS
theorem pr_progression {σ : KM} {x1 : Int} (h1 : i32 x1) (hR : kR σ) : kPair (fP_progression x1) (fM_progression x1) σ := by
  obtain ⟨S, hS, hc, hm⟩ := hR
  exact kR_pair (S := S) (S' := S) (q := qProg (sb S) x1) hm (cS_q (b := sb S) hc (C_progression hS.1 hc.1 h1) (rfP_progression _ σ) rfl rfl rfl) (rfP_progression _ σ) rfl rfl rfl rfl (fun τ ht => mS_a ht (M_progression hS.1 ht.1 h1) (rfM_progression _ τ) rfl rfl rfl rfl) (fun τ => rfM_progression _ τ) rfl hS
theorem pr_confirmed {σ : KM} {x1 : Int} (h1 : i32 x1) (hR : kR σ) : kPair (fP_confirmed x1) (fM_confirmed x1) σ := by
  obtain ⟨S, hS, hc, hm⟩ := hR
  exact kR_pair (S := S) (S' := S) (q := qConf (sb S) x1) hm (cS_q (b := sb S) hc (C_confirmed hS.1 hc.1 h1) (rfP_confirmed _ σ) rfl rfl rfl) (rfP_confirmed _ σ) rfl rfl rfl rfl (fun τ ht => mS_a ht (M_confirmed hS.1 ht.1 h1) (rfM_confirmed _ τ) rfl rfl rfl rfl) (fun τ => rfM_confirmed _ τ) rfl hS
theorem pr_learnt {σ : KM} {x1 x2 : Int} (h1 : i32 x1) (h2 : i32 x2) (hR : kR σ) : kPair (fP_learnt x1 x2) (fM_learnt x1 x2) σ := by
  obtain ⟨S, hS, hc, hm⟩ := hR
  exact kR_pair (S := S) (S' := S) (q := qLearnt (sb S) x1 x2) hm (cS_q (b := sb S) hc (C_learnt hS.1 hc.1 h1 h2) (rfP_learnt _ _ σ) rfl rfl rfl) (rfP_learnt _ _ σ) rfl rfl rfl rfl (fun τ ht => mS_a ht (M_learnt hS.1 ht.1 h1 h2) (rfM_learnt _ _ τ) rfl rfl rfl rfl) (fun τ => rfM_learnt _ _ τ) rfl hS
theorem pr_foreign {σ : KM} {x1 x2 : Int} (h1 : i32 x1) (h2 : i32 x2) (hR : kR σ) : kPair (fP_foreign x1 x2) (fM_foreign x1 x2) σ := by
  obtain ⟨S, hS, hc, hm⟩ := hR
  exact kR_pair (S := S) (S' := S) (q := qForeign (sb S) x1 x2) hm (cS_q (b := sb S) hc (C_foreign hS.1 hc.1 h1 h2) (rfP_foreign _ _ σ) rfl rfl rfl) (rfP_foreign _ _ σ) rfl rfl rfl rfl (fun τ ht => mS_a ht (M_foreign hS.1 ht.1 h1 h2) (rfM_foreign _ _ τ) rfl rfl rfl rfl) (fun τ => rfM_foreign _ _ τ) rfl hS
theorem pr_close {σ : KM}  (hR : kR σ) : kPair (fP_close) (fM_close) σ := by
  obtain ⟨S, hS, hc, hm⟩ := hR
  exact kR_pair (S := S) (S' := S) (q := qClose (sb S) ) hm (cS_q (b := sb S) hc (C_close hS.1 hc.1 ) (rfP_close  σ) rfl rfl rfl) (rfP_close  σ) rfl rfl rfl rfl (fun τ ht => mS_a ht (M_close hS.1 ht.1 ) (rfM_close  τ) rfl rfl rfl rfl) (fun τ => rfM_close  τ) rfl hS
theorem pr_windows {σ : KM} {x1 x2 : Int} (h1 : i32 x1) (h2 : i32 x2) (hR : kR σ) : kPair (fP_windows x1 x2) (fM_windows x1 x2) σ := by
  obtain ⟨S, hS, hc, hm⟩ := hR
  have hn : nl (bWindows (sb S) x1 x2) = nl (sb S) := by
    unfold bWindows
    repeat' split
    all_goals rfl
  exact kR_pair (S := S) (S' := sSb S (bWindows (sb S) x1 x2)) (q := qWindows (sb S) x1 x2) hm (cS_q hc (C_windows hS.1 hc.1 h1 h2) (rfP_windows _ _ σ) rfl rfl rfl) (rfP_windows _ _ σ) rfl rfl rfl rfl (fun τ ht => mS_q ht (M_windows hS.1 ht.1 h1 h2) (rfM_windows _ _ τ) rfl rfl rfl) (fun τ => rfM_windows _ _ τ) rfl (kSt_B hS (kB_windows hS.1 _ _) hn)
theorem pr_weight {σ : KM} {x1 x2 x3 : Int} (h1 : i32 x1) (h2 : i32 x2) (h3 : i32 x3) (hR : kR σ) : kPair (fP_weight x1 x2 x3) (fM_weight x1 x2 x3) σ := by
  obtain ⟨S, hS, hc, hm⟩ := hR
  have hn : nl (bWeight (sb S) x1 x2 x3) = nl (sb S) := by
    unfold bWeight
    repeat' split
    all_goals rfl
  exact kR_pair (S := S) (S' := sSb S (bWeight (sb S) x1 x2 x3)) (q := qWeight (sb S) x1 x2 x3) hm (cS_q hc (C_weight hS.1 hc.1 h1 h2 h3) (rfP_weight _ _ _ σ) rfl rfl rfl) (rfP_weight _ _ _ σ) rfl rfl rfl rfl (fun τ ht => mS_q ht (M_weight hS.1 ht.1 h1 h2 h3) (rfM_weight _ _ _ τ) rfl rfl rfl) (fun τ => rfM_weight _ _ _ τ) rfl (kSt_B hS (kB_weight hS.1 _ _ _) hn)
theorem pr_net {σ : KM} {x1 x2 x3 x4 : Int} (h1 : i32 x1) (h2 : i32 x2) (h3 : i32 x3) (h4 : i32 x4) (hR : kR σ) : kPair (fP_net x1 x2 x3 x4) (fM_net x1 x2 x3 x4) σ := by
  obtain ⟨S, hS, hc, hm⟩ := hR
  have hn : nl (bNet (sb S) x1 x2 x3 x4) = nl (sb S) := by
    unfold bNet
    repeat' split
    all_goals rfl
  exact kR_pair (S := S) (S' := sSb S (bNet (sb S) x1 x2 x3 x4)) (q := qNet (sb S) x1 x2 x3 x4) hm (cS_q hc (C_net hS.1 hc.1 h1 h2 h3 h4) (rfP_net _ _ _ _ σ) rfl rfl rfl) (rfP_net _ _ _ _ σ) rfl rfl rfl rfl (fun τ ht => mS_q ht (M_net hS.1 ht.1 h1 h2 h3 h4) (rfM_net _ _ _ _ τ) rfl rfl rfl) (fun τ => rfM_net _ _ _ _ τ) rfl (kSt_B hS (kB_net hS.1 _ _ _ _) hn)
theorem pr_pin {σ : KM} {x1 x2 : Int} (h1 : i32 x1) (h2 : i32 x2) (hR : kR σ) : kPair (fP_pin x1 x2) (fM_pin x1 x2) σ := by
  obtain ⟨S, hS, hc, hm⟩ := hR
  have hn : nl (bPin (sb S) x1 x2) = nl (sb S) := by
    unfold bPin
    repeat' split
    all_goals rfl
  exact kR_pair (S := S) (S' := sSb S (bPin (sb S) x1 x2)) (q := qPin (sb S) x1 x2) hm (cS_q hc (C_pin hS.1 hc.1 h1 h2) (rfP_pin _ _ σ) rfl rfl rfl) (rfP_pin _ _ σ) rfl rfl rfl rfl (fun τ ht => mS_q ht (M_pin hS.1 ht.1 h1 h2) (rfM_pin _ _ τ) rfl rfl rfl) (fun τ => rfM_pin _ _ τ) rfl (kSt_B hS (kB_pin hS.1 _ _) hn)
theorem pr_put {σ : KM} {x1 x2 x3 : Int} (h1 : i32 x1) (h2 : i32 x2) (h3 : i32 x3) (hR : kR σ) : kPair (fP_put x1 x2 x3) (fM_put x1 x2 x3) σ := by
  obtain ⟨S, hS, hc, hm⟩ := hR
  exact kR_pair (S := S) (S' := sPut S x1 x2 x3) (q := qPut S x1 x2 x3) hm (C_put hS hc h1 h2 h3) (rfP_put _ _ _ σ) rfl rfl rfl rfl (fun τ ht => M_put hS ht h1 h2 h3) (fun τ => rfM_put _ _ _ τ) rfl (kSt_put hS _ _ _)
theorem pr_drop {σ : KM} {x1 : Int} (h1 : i32 x1) (hR : kR σ) : kPair (fP_drop x1) (fM_drop x1) σ := by
  obtain ⟨S, hS, hc, hm⟩ := hR
  exact kR_pair (S := S) (S' := sDrop S x1) (q := qDrop S x1) hm (C_drop hS hc h1) (rfP_drop _ σ) rfl rfl rfl rfl (fun τ ht => M_drop hS ht h1) (fun τ => rfM_drop _ τ) rfl (kSt_drop hS _)
theorem pr_shift {σ : KM} {x1 : Int} (h1 : i32 x1) (hR : kR σ) : kPair (fP_shift x1) (fM_shift x1) σ := by
  obtain ⟨S, hS, hc, hm⟩ := hR
  exact kR_pair (S := S) (S' := sShift S x1) (q := qShift S x1) hm (C_shift hS hc h1) (rfP_shift _ σ) rfl rfl rfl rfl (fun τ ht => M_shift hS ht h1) (fun τ => rfM_shift _ τ) rfl (kSt_shift hS _)
theorem pr_undo {σ : KM}  (hR : kR σ) : kPair (fP_undo) (fM_undo) σ := by
  obtain ⟨S, hS, hc, hm⟩ := hR
  exact kR_pair (S := S) (S' := sUndo S ) (q := qUndo S ) hm (C_undo hS hc ) (rfP_undo  σ) rfl rfl rfl rfl (fun τ ht => M_undo hS ht ) (fun τ => rfM_undo  τ) rfl (kSt_undo hS )
theorem pr_degree {σ : KM} {x1 x2 : Int} (h1 : i32 x1) (h2 : i32 x2) (hR : kR σ) : kPair (fP_degree x1 x2) (fM_degree x1 x2) σ := by
  obtain ⟨S, hS, hc, hm⟩ := hR
  exact kR_pair (S := S) (S' := S) (q := qDegree x1 x2) (Wc := []) hm (kT.of (C_degree h1 h2) ⟨rfl, hc⟩) (fun z hz => by rw [C_degree h1 h2] at hz; cases hz; exact kFr.rf) rfl rfl rfl rfl (fun τ ht => mS_a ht (M_degree h1 h2) (rfM_degree _ _ τ) rfl rfl rfl rfl) (fun τ => rfM_degree _ _ τ) rfl hS
theorem pr_name {σ : KM} {x1 x2 : Int} (h1 : i32 x1) (h2 : i32 x2) (hR : kR σ) : kPair (fP_name x1 x2) (fM_name x1 x2) σ := by
  obtain ⟨S, hS, hc, hm⟩ := hR
  exact kR_pair (S := S) (S' := S) (q := qName x1 x2) (Wc := []) hm (kT.of (C_name h1 h2) ⟨rfl, hc⟩) (fun z hz => by rw [C_name h1 h2] at hz; cases hz; exact kFr.rf) rfl rfl rfl rfl (fun τ ht => mS_a ht (M_name h1 h2) (rfM_name _ _ τ) rfl rfl rfl rfl) (fun τ => rfM_name _ _ τ) rfl hS
theorem pr_note {σ : KM} {x1 x2 : Int} (h1 : i32 x1) (h2 : i32 x2) (hR : kR σ) : kPair (fP_note x1 x2) (fM_note x1 x2) σ := by
  obtain ⟨S, hS, hc, hm⟩ := hR
  exact kR_pair (S := S) (S' := S) (q := qNote (sb S) x1 x2) (Wc := []) hm (kT.of (C_note hS.1 hc.1 h1 h2) ⟨rfl, hc⟩) (fun z hz => by rw [C_note hS.1 hc.1 h1 h2] at hz; cases hz; exact kFr.rf) rfl rfl rfl rfl (fun τ ht => mS_a ht (M_note hS.1 ht.1 h1 h2) (rfM_note _ _ τ) rfl rfl rfl rfl) (fun τ => rfM_note _ _ τ) rfl hS
theorem pr_fault {σ : KM} {x1 : Int} (h1 : i32 x1) (hR : kR σ) : kPair (fP_fault x1) (fM_fault x1) σ := by
  obtain ⟨S, hS, hc, hm⟩ := hR
  have e : fP_fault x1 σ = some (qFault (swr S) (swa S) x1, σ) := by
    rw [C_fault h1, hc.2.2.2.1, hc.2.2.2.2]
  refine kR_pair (S := S) (S' := S) (q := qFault (swr S) (swa S) x1) (Wc := []) hm (kT.of e ⟨rfl, hc⟩) (fun z hz => by rw [e] at hz; cases hz; exact kFr.rf) rfl rfl rfl rfl (fun τ ht => mS_a ht ?_ (rfM_fault _ τ) rfl rfl rfl rfl) (fun τ => rfM_fault _ τ) rfl hS
  have := M_fault (σ := τ) h1
  rw [ht.2.2.2.1, ht.2.2.2.2] at this
  exact this
theorem pr_count {σ : KM} {x1 : Int} (h1 : i32 x1) (hR : kR σ) : kPair (fP_count x1) (fM_count x1) σ := by
  obtain ⟨S, hS, hc, hm⟩ := hR
  exact kR_pair (S := S) (S' := S) (q := qCount (sb S) (shn S) (stn S) x1) hm (cS_q (b := sb S) hc (C_count hS.1 hc.1 hc.2.1.1 hc.2.2.1.1 h1) (rfP_count _ σ) rfl rfl rfl) (rfP_count _ σ) rfl rfl rfl rfl (fun τ ht => mS_a ht (M_count hS.1 ht.1 ht.2.1.1 ht.2.2.1.1 h1) (rfM_count _ τ) rfl rfl rfl rfl) (fun τ => rfM_count _ τ) rfl hS
theorem pr_feed {σ : KM} {x1 x2 x3 x4 x5 : Int} (h1 : i32 x1) (h2 : i32 x2) (h3 : i32 x3) (h4 : i32 x4) (h5 : i32 x5) (hR : kR σ) : kPair (fP_feed x1 x2 x3 x4 x5) (fM_feed x1 x2 x3 x4 x5) σ := by
  obtain ⟨S, hS, hc, hm⟩ := hR
  exact kR_pair (S := S) (S' := sFeed S x1 x2 x3 x4 x5) (q := qFeed S) hm (C_feed hS hc x1 x2 x3 x4 x5) (rfP_feed _ _ _ _ _ σ) rfl rfl rfl rfl (fun τ ht => M_feed hS ht h1 h2 h3 h4 h5) (fun τ => rfM_feed _ _ _ _ _ τ) rfl (kSt_feed hS _ _ _ _ _)
theorem pr_load {σ : KM} {x1 : Int} (h1 : i32 x1) (hR : kR σ) : kPair (fP_load x1) (fM_load x1) σ := by
  obtain ⟨S, hS, hc, hm⟩ := hR
  have q := C_load hS hc h1
  have hS' : kSt (sLoad S x1) := by
    obtain ⟨z, _, h2⟩ := q
    exact h2.2.2
  exact kR_pair (S := S) (S' := sLoad S x1) (q := qLoad S x1) hm (q.mono (fun z hz => ⟨hz.1, hz.2.1⟩)) (rfP_load _ σ) rfl rfl rfl rfl (fun τ ht => M_load hS ht h1) (fun τ => rfM_load _ τ) rfl hS'
