/-! ===== what both sides stand on: notes, windows, weights, pins, prices ===== -/
abbrev KB : Type := Nat × (Int → Int) × (Int → Int) × (Int → Int) × (Int × Int) × ((Int → Int) × (Int → Int)) × (Int × Int × Int × Int)
def bn (b : KB) : Nat := b.1
def bt (b : KB) : Int → Int := b.2.1
def bl (b : KB) : Int → Int := b.2.2.1
def bp (b : KB) : Int → Int := b.2.2.2.1
def bw (b : KB) : Int := b.2.2.2.2.1.1
def bh (b : KB) : Int := b.2.2.2.2.1.2
def bwt (b : KB) : Int → Int := b.2.2.2.2.2.1.1
def bpi (b : KB) : Int → Int := b.2.2.2.2.2.1.2
def bf (b : KB) : Int := b.2.2.2.2.2.2.1
def br (b : KB) : Int := b.2.2.2.2.2.2.2.1
def ba (b : KB) : Int := b.2.2.2.2.2.2.2.2.1
def bx (b : KB) : Int := b.2.2.2.2.2.2.2.2.2
def kB (b : KB) : Prop := kV (bn b) (bt b) (bl b) (bp b) ∧ (4 ≤ bw b ∧ bw b ≤ 128 ∧ 4 ≤ bh b ∧ bh b ≤ 128) ∧ (∀ i, 0 ≤ i → i < 24 → 0 ≤ bwt b i ∧ bwt b i ≤ 99) ∧ (∀ i, 0 ≤ i → i < 48 → -1 ≤ bpi b i ∧ bpi b i ≤ 23) ∧ (0 ≤ bf b ∧ bf b ≤ 999 ∧ 0 ≤ br b ∧ br b ≤ 999 ∧ 0 ≤ ba b ∧ ba b ≤ 999 ∧ 0 ≤ bx b ∧ bx b ≤ 100)
def cB (b : KB) (σ : KM) : Prop := kN σ 3 3 16 17 18 (bn b) (bt b) (bl b) (bp b) ∧ (σ 5 0 = bw b ∧ σ 5 1 = bh b) ∧ (∀ i, 0 ≤ i → i < 24 → σ 27 i = bwt b i) ∧ (∀ i, 0 ≤ i → i < 48 → σ 33 i = bpi b i) ∧ (σ 7 0 = bf b ∧ σ 7 1 = br b ∧ σ 7 2 = ba b ∧ σ 7 3 = bx b)
def mB (b : KB) (σ : KM) : Prop := kN σ 10 7 45 46 47 (bn b) (bt b) (bl b) (bp b) ∧ (σ 10 11 = bw b ∧ σ 10 12 = bh b) ∧ (∀ i, 0 ≤ i → i < 24 → σ 52 i = bwt b i) ∧ (∀ i, 0 ≤ i → i < 48 → σ 53 i = bpi b i) ∧ (σ 10 13 = bf b ∧ σ 10 14 = br b ∧ σ 10 15 = ba b ∧ σ 10 16 = bx b)
def kKeep (W : List (Nat × Option Int)) (cs : List Nat) (fs : List (Nat × Int)) : Bool := cs.all (fun c => W.all (fun q => q.1 != c)) && fs.all (fun f => !kWc W f.1 f.2)
theorem kKeep.cell {W : List (Nat × Option Int)} {cs : List Nat} {fs : List (Nat × Int)} (h : kKeep W cs fs = true) {σ τ : KM} (hf : kFr W σ τ) {c : Nat} (hc : c ∈ cs) : τ c = σ c := by
  unfold kKeep at h
  rw [Bool.and_eq_true] at h
  exact hf.cell (List.all_eq_true.mp h.1 c hc)
theorem kKeep.fld {W : List (Nat × Option Int)} {cs : List Nat} {fs : List (Nat × Int)} (h : kKeep W cs fs = true) {σ τ : KM} (hf : kFr W σ τ) {c : Nat} {i : Int} (hc : (c, i) ∈ fs) : τ c i = σ c i := by
  unfold kKeep at h
  rw [Bool.and_eq_true] at h
  have := List.all_eq_true.mp h.2 (c, i) hc
  exact hf.slot (by simpa using this)
theorem cB.fr {b : KB} {W : List (Nat × Option Int)} {σ τ : KM} (h : cB b σ) (hf : kFr W σ τ) (hk : kKeep W [16, 17, 18, 27, 33] [(3, 3), (5, 0), (5, 1), (7, 0), (7, 1), (7, 2), (7, 3)] = true) : cB b τ := by
  obtain ⟨⟨h1, h2⟩, ⟨h3, h4⟩, h5, h6, h7, h8, h9, h10⟩ := h
  have c16 := kKeep.cell hk hf (c := 16) (by decide)
  have c17 := kKeep.cell hk hf (c := 17) (by decide)
  have c18 := kKeep.cell hk hf (c := 18) (by decide)
  have c27 := kKeep.cell hk hf (c := 27) (by decide)
  have c33 := kKeep.cell hk hf (c := 33) (by decide)
  have f3 := kKeep.fld hk hf (c := 3) (i := 3) (by decide)
  have f50 := kKeep.fld hk hf (c := 5) (i := 0) (by decide)
  have f51 := kKeep.fld hk hf (c := 5) (i := 1) (by decide)
  have f70 := kKeep.fld hk hf (c := 7) (i := 0) (by decide)
  have f71 := kKeep.fld hk hf (c := 7) (i := 1) (by decide)
  have f72 := kKeep.fld hk hf (c := 7) (i := 2) (by decide)
  have f73 := kKeep.fld hk hf (c := 7) (i := 3) (by decide)
  unfold cB kN
  rw [c16, c17, c18, c27, c33, f3, f50, f51, f70, f71, f72, f73]
  exact ⟨⟨h1, h2⟩, ⟨h3, h4⟩, h5, h6, h7, h8, h9, h10⟩
theorem mB.fr {b : KB} {W : List (Nat × Option Int)} {σ τ : KM} (h : mB b σ) (hf : kFr W σ τ) (hk : kKeep W [45, 46, 47, 52, 53] [(10, 7), (10, 11), (10, 12), (10, 13), (10, 14), (10, 15), (10, 16)] = true) : mB b τ := by
  obtain ⟨⟨h1, h2⟩, ⟨h3, h4⟩, h5, h6, h7, h8, h9, h10⟩ := h
  have c16 := kKeep.cell hk hf (c := 45) (by decide)
  have c17 := kKeep.cell hk hf (c := 46) (by decide)
  have c18 := kKeep.cell hk hf (c := 47) (by decide)
  have c27 := kKeep.cell hk hf (c := 52) (by decide)
  have c33 := kKeep.cell hk hf (c := 53) (by decide)
  have f3 := kKeep.fld hk hf (c := 10) (i := 7) (by decide)
  have f50 := kKeep.fld hk hf (c := 10) (i := 11) (by decide)
  have f51 := kKeep.fld hk hf (c := 10) (i := 12) (by decide)
  have f70 := kKeep.fld hk hf (c := 10) (i := 13) (by decide)
  have f71 := kKeep.fld hk hf (c := 10) (i := 14) (by decide)
  have f72 := kKeep.fld hk hf (c := 10) (i := 15) (by decide)
  have f73 := kKeep.fld hk hf (c := 10) (i := 16) (by decide)
  unfold mB kN
  rw [c16, c17, c18, c27, c33, f3, f50, f51, f70, f71, f72, f73]
  exact ⟨⟨h1, h2⟩, ⟨h3, h4⟩, h5, h6, h7, h8, h9, h10⟩
/-- an answer with the frame -/
theorem kT.fr {F : Option (Int × KM)} {Φ : Int × KM → Prop} {W : List (Nat × Option Int)} {σ : KM} (h : kT F Φ) (hq : kQ W σ Prod.snd F) : kT F (fun z => Φ z ∧ kFr W σ z.2) := by
  obtain ⟨z, h1, h2⟩ := h
  exact ⟨z, h1, h2, hq z h1⟩
def eS (b : KB) : Int := endS (bt b) (bl b) (bn b)
theorem eS_r {b : KB} (hb : kB b) : 0 ≤ eS b ∧ eS b ≤ 512 := endS_r hb.1 (bn b) (Nat.le_refl _)
def wnS (b : KB) : Int := if 48 < (eS b + bh b - 1) / bh b then 48 else (eS b + bh b - 1) / bh b
theorem wq_r {e h : Int} (he : 0 ≤ e ∧ e ≤ 512) (hh : 4 ≤ h ∧ h ≤ 128) : 0 ≤ (e + h - 1) / h ∧ (e + h - 1) / h ≤ 639 := by
  constructor
  · exact Int.ediv_nonneg (by omega) (by omega)
  · have := Int.ediv_le_self (a := e + h - 1) h (by omega)
    omega
theorem wnS_r {b : KB} (hb : kB b) : 0 ≤ wnS b ∧ wnS b ≤ 48 := by
  have h1 := eS_r hb
  have h2 := hb.2.1
  have := wq_r h1 (h := bh b) (by omega)
  unfold wnS
  split <;> omega
theorem M_windowsBy {b : KB} {σ : KM} (hb : kB b) (hm : mB b σ) {h : Int} (hh : 4 ≤ h ∧ h ≤ 128) : fM_windowsBy h σ = some ((eS b + h - 1) / h, σ) := by
  refine kT.eq ?_
  have h1 := eS_r hb
  unfold fM_windowsBy
  refine kT_callE (M_theEnd hm.1 hb.1) ?_
  change kT (kDv ((eS b + h) - 1) h _) _
  refine kT_dv (by omega) (by omega) (by omega) (kT_ri ?_)
  rw [tdiv_e (by omega)]
theorem M_windowMany {b : KB} {σ : KM} (hb : kB b) (hm : mB b σ) : fM_windowMany σ = some (wnS b, σ) := by
  refine kT.eq ?_
  have h1 := eS_r hb
  have h2 := hb.2.1
  have h3 := wq_r h1 (h := bh b) (by omega)
  unfold fM_windowMany fM_windowMany_J21
  rw [hm.2.1.2]
  refine kT_callE (M_windowsBy hb hm (by omega)) ?_
  refine kT_lt (by omega) (by omega) (fun c => ?_) (fun c => ?_)
  · refine kT_ri ?_
    rw [wnS, if_pos c]
  · refine kT_ri ?_
    rw [wnS, if_neg (by omega)]
theorem P_beginsAhead {e h : Int} (he : 0 ≤ e ∧ e ≤ 512) (hh : 4 ≤ h ∧ h ≤ 128) (σ : KM) : fWi_beginsAhead e h σ = some ((e + h - 1) / h, σ) := by
  refine kT.eq ?_
  unfold fWi_beginsAhead fWi_beginsAhead_J16
  refine kT_ltf (by omega) (by omega) ?_
  refine kT_dv (by omega) (by omega) (by omega) (kT_ri ?_)
  rw [tdiv_e (by omega)]
/-! COUNTS, CHORDS of the windows -/
def cw (b : KB) (w t : Int) : Int := cntS (bt b) (bl b) (bp b) (w * bh b) (w * bh b + bw b) t (bn b)
def tw (b : KB) (w : Int) : Int := totS (bt b) (bl b) (w * bh b) (w * bh b + bw b) (bn b)
def ca (b : KB) (t : Int) : Int := cntS (bt b) (bl b) (bp b) 0 (eS b) t (bn b)
def ta (b : KB) : Int := totS (bt b) (bl b) 0 (eS b) (bn b)
theorem cw_r {b : KB} (hb : kB b) (w t : Int) : 0 ≤ cw b w t ∧ cw b w t ≤ 6400 := by
  have := cntS_r hb.1 (w * bh b) (w * bh b + bw b) t (bn b) (Nat.le_refl _)
  have := hb.1.1
  unfold cw
  omega
theorem tw_r {b : KB} (hb : kB b) (w : Int) : 0 ≤ tw b w ∧ tw b w ≤ 6400 := by
  have := totS_r hb.1 (w * bh b) (w * bh b + bw b) (bn b) (Nat.le_refl _)
  have := hb.1.1
  unfold tw
  omega
theorem ca_r {b : KB} (hb : kB b) (t : Int) : 0 ≤ ca b t ∧ ca b t ≤ 6400 := by
  have := cntS_r hb.1 0 (eS b) t (bn b) (Nat.le_refl _)
  have := hb.1.1
  unfold ca
  omega
theorem ta_r {b : KB} (hb : kB b) : 0 ≤ ta b ∧ ta b ≤ 6400 := by
  have := totS_r hb.1 0 (eS b) (bn b) (Nat.le_refl _)
  have := hb.1.1
  unfold ta
  omega
theorem cw_tw {b : KB} (hb : kB b) (w t : Int) : cw b w t ≤ tw b w := cnt_tot hb.1 _ _ t (bn b) (Nat.le_refl _)
def chG (g : Int → Int) (t : Int) : Int := g (tonS t 0) + g (tonS t 1) + g (tonS t 2)
def chB (g : Int → Int) (b0 : Int) : Nat → Int × Int
  | 0 => (b0, -1)
  | i + 1 => if (chB g b0 i).2 < chG g i then ((i : Int), chG g i) else chB g b0 i
theorem chB_t {g : Int → Int} {x : Int} {i : Nat} (h : (chB g x i).2 < chG g i) : chB g x (i + 1) = ((i : Int), chG g i) := by
  rw [chB, if_pos h]
theorem chB_f {g : Int → Int} {x : Int} {i : Nat} (h : chG g i ≤ (chB g x i).2) : chB g x (i + 1) = chB g x i := by
  rw [chB, if_neg (by omega)]
theorem chB_same {g : Int → Int} (hg : ∀ t, 0 ≤ g t) (x y : Int) : ∀ i : Nat, chB g x (i + 1) = chB g y (i + 1)
  | 0 => by
    have h1 := hg (tonS 0 0)
    have h2 := hg (tonS 0 1)
    have h3 := hg (tonS 0 2)
    have h4 : -1 < chG g (0 : Nat) := by
      show -1 < g (tonS 0 0) + g (tonS 0 1) + g (tonS 0 2)
      omega
    rw [chB_t (x := x) (i := 0) h4, chB_t (x := y) (i := 0) h4]
  | i + 1 => by
    rw [chB, chB_same hg x y i]
    rfl
theorem chB_r {g : Int → Int} (hg : ∀ t, 0 ≤ g t ∧ g t ≤ 6400) {x : Int} (hx : -1 ≤ x ∧ x < 36) : ∀ i : Nat, i ≤ 36 → (-1 ≤ (chB g x i).1 ∧ (chB g x i).1 < 36) ∧ (-1 ≤ (chB g x i).2 ∧ (chB g x i).2 ≤ 19200)
  | 0, _ => by simp [chB]; omega
  | i + 1, h => by
    have h0 := chB_r hg hx i (by omega)
    have h1 := hg (tonS i 0)
    have h2 := hg (tonS i 1)
    have h3 := hg (tonS i 2)
    unfold chB
    split
    · simp only [chG]
      omega
    · exact h0
def chS (g : Int → Int) (t : Int) : Int := if t = 0 then -1 else (chB g 0 36).1
def hw (b : KB) (w : Int) : Int := chS (cw b w) (tw b w)
theorem hw_r {b : KB} (hb : kB b) (w : Int) : -1 ≤ hw b w ∧ hw b w < 36 ∧ (hw b w = -1 ↔ tw b w = 0) := by
  unfold hw chS
  have h := chB_r (g := cw b w) (fun t => cw_r hb w t) (x := 0) (by omega) 36 (by omega)
  have h0 : 0 ≤ (chB (cw b w) 0 36).1 := by
    have key : ∀ i : Nat, 0 ≤ (chB (cw b w) 0 i).1 := by
      intro i
      induction i with
      | zero => simp [chB]
      | succ i ih =>
        unfold chB
        split
        · simp
        · exact ih
    exact key 36
  split <;> omega
theorem P_fullestTriad {σ : KM} {w : Int} {g : Int → Int} {t : Int} (hw : 0 ≤ w ∧ w < 48) (hg : ∀ y, 0 ≤ g y ∧ g y ≤ 6400) (h1 : ∀ y, 0 ≤ y → y < 12 → σ 24 (w * 12 + y) = g y) (h2 : σ 25 w = t) (ht : 0 ≤ t ∧ t ≤ 6400) : fWi_fullestTriad w σ = some (chS g t, σ) := by
  refine kP ?_ (rfWi_fullestTriad w σ)
  unfold fWi_fullestTriad
  refine kT_rd (by omega) ?_
  rw [h2]
  refine kT_eq (by omega) (by omega) (fun c => ?_) (fun c => ?_)
  · refine kT_ri ?_
    simp [chS, c]
  · unfold fWi_fullestTriad_L18
    refine kT_for (fun i s => s = ((chB g (-1) i).1, (chB g (-1) i).2, (i : Int), σ)) 36 ?_ ?_ 0 (by omega) kF _ rfl (kF_lt (by omega))
    · rintro i s hi rfl
      have b1 := chB_r hg (x := -1) (by omega) i (by omega)
      show kT (fWi_fullestTriad_B18 w (chB g (-1) i).1 (chB g (-1) i).2 i σ) _
      unfold fWi_fullestTriad_B18 fWi_fullestTriad_L31
      refine kT_ltt (by omega) (by omega) ?_
      let ac : Nat → Int := fun k => match k with
        | 0 => 0
        | 1 => g (tonS i 0)
        | 2 => g (tonS i 0) + g (tonS i 1)
        | _ => chG g i
      refine kT_for (fun k s => s = (ac k, (k : Int), σ)) 3 ?_ ?_ 0 (by omega) kF _ rfl (kF_lt (by omega))
      · rintro k s hk rfl
        have r := tonS_r i k
        have g0 := hg (tonS i k)
        have hac : ac (k + 1) = ac k + g (tonS i k) ∧ (0 ≤ ac k ∧ ac k ≤ 19200) := by
          have q0 := hg (tonS i 0)
          have q1 := hg (tonS i 1)
          rcases (show k = 0 ∨ k = 1 ∨ k = 2 by omega) with rfl | rfl | rfl
          · exact ⟨by simp [ac], by simp [ac]⟩
          · exact ⟨by simp [ac], by simp only [ac]; omega⟩
          · exact ⟨by simp [ac, chG], by simp only [ac]; omega⟩
        show kT (fWi_fullestTriad_B31 w (chB g (-1) i).1 (chB g (-1) i).2 i (ac k) k σ) _
        unfold fWi_fullestTriad_B31
        refine kT_ltt (by omega) (by omega) ?_
        refine kT_callE (P_toneOf (by omega) (by omega) σ) ?_
        refine kT_rd (by omega) ?_
        rw [h1 _ r.1 r.2]
        repeat (first | ((with_reducible refine kT_let ?_)) | ((with_reducible refine kT_rd ?_ ?_); omega) | ((with_reducible refine kT_wr ?_ ?_); omega) | ((with_reducible refine kT_wf ?_)) | ((with_reducible refine kT_wfz ?_ ?_); omega) | ((with_reducible refine kT_ltt ?_ ?_ ?_); omega; omega) | ((with_reducible refine kT_ltf ?_ ?_ ?_); omega; omega) | ((with_reducible refine kT_eqt ?_ ?_ ?_); omega; omega) | ((with_reducible refine kT_eqf ?_ ?_ ?_ ?_); omega; omega; omega) | ((with_reducible refine kT_ck ?_ ?_); omega) | ((with_reducible refine kT_ck6 ?_ ?_ ?_); omega; omega) | ((with_reducible refine kT_mx ?_ ?_ ?_); omega; omega) | ((with_reducible refine kT_mn ?_ ?_ ?_); omega; omega) | ((with_reducible refine kT_dv ?_ ?_ ?_ ?_); omega; omega; omega) | ((with_reducible refine kT_rm ?_ ?_ ?_ ?_); omega; omega; omega) | ((with_reducible refine kT_exit ?_)) | ((with_reducible refine kT_ri ?_)) | ((with_reducible refine kT_rz ?_ ?_); omega) | ((with_reducible refine kT_inl ?_)))
        rw [hac.1]
        rfl
      · rintro s rfl
        show kT (fWi_fullestTriad_B31 w (chB g (-1) i).1 (chB g (-1) i).2 i (chG g i) 3 σ) _
        have q0 := hg (tonS i 0)
        have q1 := hg (tonS i 1)
        have q2 := hg (tonS i 2)
        have q : 0 ≤ chG g i ∧ chG g i ≤ 19200 := by unfold chG; omega
        unfold fWi_fullestTriad_B31 fWi_fullestTriad_J65 fWi_fullestTriad_J77
        refine kT_ltf (by omega) (by omega) (kT_exit ?_)
        refine kT_lt (by omega) (by omega) (fun c => ?_) (fun c => ?_)
        · repeat (first | ((with_reducible refine kT_let ?_)) | ((with_reducible refine kT_rd ?_ ?_); omega) | ((with_reducible refine kT_wr ?_ ?_); omega) | ((with_reducible refine kT_wf ?_)) | ((with_reducible refine kT_wfz ?_ ?_); omega) | ((with_reducible refine kT_ltt ?_ ?_ ?_); omega; omega) | ((with_reducible refine kT_ltf ?_ ?_ ?_); omega; omega) | ((with_reducible refine kT_eqt ?_ ?_ ?_); omega; omega) | ((with_reducible refine kT_eqf ?_ ?_ ?_ ?_); omega; omega; omega) | ((with_reducible refine kT_ck ?_ ?_); omega) | ((with_reducible refine kT_ck6 ?_ ?_ ?_); omega; omega) | ((with_reducible refine kT_mx ?_ ?_ ?_); omega; omega) | ((with_reducible refine kT_mn ?_ ?_ ?_); omega; omega) | ((with_reducible refine kT_dv ?_ ?_ ?_ ?_); omega; omega; omega) | ((with_reducible refine kT_rm ?_ ?_ ?_ ?_); omega; omega; omega) | ((with_reducible refine kT_exit ?_)) | ((with_reducible refine kT_ri ?_)) | ((with_reducible refine kT_rz ?_ ?_); omega) | ((with_reducible refine kT_inl ?_)))
          rw [chB_t c]
          rfl
        · repeat (first | ((with_reducible refine kT_let ?_)) | ((with_reducible refine kT_rd ?_ ?_); omega) | ((with_reducible refine kT_wr ?_ ?_); omega) | ((with_reducible refine kT_wf ?_)) | ((with_reducible refine kT_wfz ?_ ?_); omega) | ((with_reducible refine kT_ltt ?_ ?_ ?_); omega; omega) | ((with_reducible refine kT_ltf ?_ ?_ ?_); omega; omega) | ((with_reducible refine kT_eqt ?_ ?_ ?_); omega; omega) | ((with_reducible refine kT_eqf ?_ ?_ ?_ ?_); omega; omega; omega) | ((with_reducible refine kT_ck ?_ ?_); omega) | ((with_reducible refine kT_ck6 ?_ ?_ ?_); omega; omega) | ((with_reducible refine kT_mx ?_ ?_ ?_); omega; omega) | ((with_reducible refine kT_mn ?_ ?_ ?_); omega; omega) | ((with_reducible refine kT_dv ?_ ?_ ?_ ?_); omega; omega; omega) | ((with_reducible refine kT_rm ?_ ?_ ?_ ?_); omega; omega; omega) | ((with_reducible refine kT_exit ?_)) | ((with_reducible refine kT_ri ?_)) | ((with_reducible refine kT_rz ?_ ?_); omega) | ((with_reducible refine kT_inl ?_)))
          rw [chB_f c]
          rfl
    · rintro s rfl
      have b1 := chB_r hg (x := -1) (by omega) 36 (by omega)
      show kT (fWi_fullestTriad_B18 w (chB g (-1) 36).1 (chB g (-1) 36).2 36 σ) _
      unfold fWi_fullestTriad_B18 fWi_fullestTriad_J83
      refine kT_ltf (by omega) (by omega) (kT_exit (kT_ri ?_))
      rw [chB_same (fun y => (hg y).1) (-1) 0 35, chS, if_neg c]
theorem M_chordNow {σ : KM} {g : Int → Int} {t : Int} (hg : ∀ y, 0 ≤ g y ∧ g y ≤ 6400) (h1 : ∀ y, 0 ≤ y → y < 12 → σ 55 y = g y) (h2 : σ 10 27 = t) (ht : 0 ≤ t ∧ t ≤ 6400) : fM_chordNow σ = some (chS g t, σ) := by
  refine kP ?_ (rfM_chordNow σ)
  unfold fM_chordNow
  rw [h2]
  refine kT_eq (by omega) (by omega) (fun c => ?_) (fun c => ?_)
  · refine kT_ri ?_
    simp [chS, c]
  · unfold fM_chordNow_L15
    refine kT_for (fun i s => s = ((chB g 0 i).1, (chB g 0 i).2, (i : Int), σ)) 36 ?_ ?_ 0 (by omega) kF _ rfl (kF_lt (by omega))
    · rintro i s hi rfl
      have b1 := chB_r hg (x := 0) (by omega) i (by omega)
      have r0 := tonS_r i 0
      have r1 := tonS_r i 1
      have r2 := tonS_r i 2
      have q0 := hg (tonS i 0)
      have q1 := hg (tonS i 1)
      have q2 := hg (tonS i 2)
      show kT (fM_chordNow_B15 (chB g 0 i).1 (chB g 0 i).2 i σ) _
      unfold fM_chordNow_B15 fM_chordNow_J69
      refine kT_ltt (by omega) (by omega) ?_
      refine kT_callE (M_toneOf (by omega) (by omega) σ) (kT_rd (by omega) ?_)
      refine kT_callE (M_toneOf (by omega) (by omega) σ) (kT_rd (by omega) ?_)
      refine kT_callE (M_toneOf (by omega) (by omega) σ) (kT_rd (by omega) ?_)
      rw [h1 _ r0.1 r0.2, h1 _ r1.1 r1.2, h1 _ r2.1 r2.2]
      refine kT_let ?_
      refine kT_lt (by omega) (by omega) (fun c => ?_) (fun c => ?_)
      · repeat (first | ((with_reducible refine kT_let ?_)) | ((with_reducible refine kT_rd ?_ ?_); omega) | ((with_reducible refine kT_wr ?_ ?_); omega) | ((with_reducible refine kT_wf ?_)) | ((with_reducible refine kT_wfz ?_ ?_); omega) | ((with_reducible refine kT_ltt ?_ ?_ ?_); omega; omega) | ((with_reducible refine kT_ltf ?_ ?_ ?_); omega; omega) | ((with_reducible refine kT_eqt ?_ ?_ ?_); omega; omega) | ((with_reducible refine kT_eqf ?_ ?_ ?_ ?_); omega; omega; omega) | ((with_reducible refine kT_ck ?_ ?_); omega) | ((with_reducible refine kT_ck6 ?_ ?_ ?_); omega; omega) | ((with_reducible refine kT_mx ?_ ?_ ?_); omega; omega) | ((with_reducible refine kT_mn ?_ ?_ ?_); omega; omega) | ((with_reducible refine kT_dv ?_ ?_ ?_ ?_); omega; omega; omega) | ((with_reducible refine kT_rm ?_ ?_ ?_ ?_); omega; omega; omega) | ((with_reducible refine kT_exit ?_)) | ((with_reducible refine kT_ri ?_)) | ((with_reducible refine kT_rz ?_ ?_); omega) | ((with_reducible refine kT_inl ?_)))
        rw [chB_t (show (chB g 0 i).2 < chG g i from c)]
        rfl
      · repeat (first | ((with_reducible refine kT_let ?_)) | ((with_reducible refine kT_rd ?_ ?_); omega) | ((with_reducible refine kT_wr ?_ ?_); omega) | ((with_reducible refine kT_wf ?_)) | ((with_reducible refine kT_wfz ?_ ?_); omega) | ((with_reducible refine kT_ltt ?_ ?_ ?_); omega; omega) | ((with_reducible refine kT_ltf ?_ ?_ ?_); omega; omega) | ((with_reducible refine kT_eqt ?_ ?_ ?_); omega; omega) | ((with_reducible refine kT_eqf ?_ ?_ ?_ ?_); omega; omega; omega) | ((with_reducible refine kT_ck ?_ ?_); omega) | ((with_reducible refine kT_ck6 ?_ ?_ ?_); omega; omega) | ((with_reducible refine kT_mx ?_ ?_ ?_); omega; omega) | ((with_reducible refine kT_mn ?_ ?_ ?_); omega; omega) | ((with_reducible refine kT_dv ?_ ?_ ?_ ?_); omega; omega; omega) | ((with_reducible refine kT_rm ?_ ?_ ?_ ?_); omega; omega; omega) | ((with_reducible refine kT_exit ?_)) | ((with_reducible refine kT_ri ?_)) | ((with_reducible refine kT_rz ?_ ?_); omega) | ((with_reducible refine kT_inl ?_)))
        rw [chB_f (show chG g i ≤ (chB g 0 i).2 from c)]
        rfl
    · rintro s rfl
      have b1 := chB_r hg (x := 0) (by omega) 36 (by omega)
      show kT (fM_chordNow_B15 (chB g 0 36).1 (chB g 0 36).2 36 σ) _
      unfold fM_chordNow_B15 fM_chordNow_J75
      refine kT_ltf (by omega) (by omega) (kT_exit (kT_ri ?_))
      rw [chS, if_neg c]
