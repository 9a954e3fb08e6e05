/-! ===== calls that change: weight, net, pin, windows ===== -/
abbrev NL : Type := Nat × (Int → Int) × (Int → Int) × (Int → Int)
def nl (b : KB) : NL := (bn b, bt b, bl b, bp b)
def vN (A : NL) : Prop := kV A.1 A.2.1 A.2.2.1 A.2.2.2
def bN (b : KB) (A : NL) : KB := (A.1, A.2.1, A.2.2.1, A.2.2.2, b.2.2.2.2)
def bSW (b : KB) (i v : Int) : KB := (b.1, b.2.1, b.2.2.1, b.2.2.2.1, b.2.2.2.2.1, ((fun j => if j = i then v else bwt b j), bpi b), b.2.2.2.2.2.2)
def bSP (b : KB) (w k : Int) : KB := (b.1, b.2.1, b.2.2.1, b.2.2.2.1, b.2.2.2.2.1, (bwt b, fun j => if j = w then k else bpi b j), b.2.2.2.2.2.2)
def bSN (b : KB) (f r a x : Int) : KB := (b.1, b.2.1, b.2.2.1, b.2.2.2.1, b.2.2.2.2.1, b.2.2.2.2.2.1, (f, r, a, x))
def bSH (b : KB) (w h : Int) : KB := (b.1, b.2.1, b.2.2.1, b.2.2.2.1, (w, h), b.2.2.2.2.2)
theorem kB_N {b : KB} (hb : kB b) {A : NL} (hA : vN A) : kB (bN b A) := ⟨hA, hb.2⟩
theorem kB_W {b : KB} (hb : kB b) {i v : Int} (hv : 0 ≤ v ∧ v ≤ 99) : kB (bSW b i v) := by
  refine ⟨hb.1, hb.2.1, fun j a c => ?_, hb.2.2.2.1, hb.2.2.2.2⟩
  show 0 ≤ (if j = i then v else bwt b j) ∧ (if j = i then v else bwt b j) ≤ 99
  split
  · exact hv
  · exact hb.2.2.1 j a c
theorem kB_P {b : KB} (hb : kB b) {i v : Int} (hv : -1 ≤ v ∧ v ≤ 23) : kB (bSP b i v) := by
  refine ⟨hb.1, hb.2.1, hb.2.2.1, fun j a c => ?_, hb.2.2.2.2⟩
  show -1 ≤ (if j = i then v else bpi b j) ∧ (if j = i then v else bpi b j) ≤ 23
  split
  · exact hv
  · exact hb.2.2.2.1 j a c
theorem kB_S {b : KB} (hb : kB b) {f r a x : Int} (h : 0 ≤ f ∧ f ≤ 999 ∧ 0 ≤ r ∧ r ≤ 999 ∧ 0 ≤ a ∧ a ≤ 999 ∧ 0 ≤ x ∧ x ≤ 100) : kB (bSN b f r a x) := ⟨hb.1, hb.2.1, hb.2.2.1, hb.2.2.2.1, h⟩
theorem kB_H {b : KB} (hb : kB b) {w h : Int} (hq : 4 ≤ w ∧ w ≤ 128 ∧ 4 ≤ h ∧ h ≤ 128) : kB (bSH b w h) := ⟨hb.1, hq, hb.2.2⟩
theorem C_weightsChanged {σ : KM} : fP_weightsChanged σ = some (0, ks (ks σ 6 3 1) 8 13 1) := rfl
theorem C_notesChanged {σ : KM} : fP_notesChanged σ = some (0, ks (ks (ks σ 5 6 1) 6 3 1) 8 13 1) := rfl
theorem C_pathChanged {σ : KM} : fP_pathChanged σ = some (0, ks σ 8 13 1) := rfl
/-! weight -/
def qWeight (b : KB) (m s v : Int) : Int := if m < 0 ∨ 1 < m then -2 else if s < 0 ∨ 11 < s then -2 else if v < 0 ∨ 99 < v then -3 else bwt b (m * 12 + s)
def bWeight (b : KB) (m s v : Int) : KB := if m < 0 ∨ 1 < m then b else if s < 0 ∨ 11 < s then b else if v < 0 ∨ 99 < v then b else bSW b (m * 12 + s) v
theorem kB_weight {b : KB} (hb : kB b) (m s v : Int) : kB (bWeight b m s v) := by
  unfold bWeight
  split
  · exact hb
  · split
    · exact hb
    · split
      · exact hb
      · exact kB_W hb (by omega)
theorem C_weight {b : KB} {σ : KM} (hb : kB b) (h : CI b σ) {m s v : Int} (hm : i32 m) (hs : i32 s) (hv : i32 v) : kT (fP_weight m s v σ) (fun z => z.1 = qWeight b m s v ∧ CI (bWeight b m s v) z.2) := by
  unfold fP_weight fP_weight_J14 qWeight bWeight
  refine kT_callE (P_noMode hm σ) ?_
  by_cases c1 : m < 0 ∨ 1 < m
  · rw [if_pos c1, if_pos c1, if_pos c1]
    exact kT_eqf (by omega) (by omega) (by omega) (kT_ri ⟨rfl, h⟩)
  rw [if_neg c1, if_neg c1, if_neg c1]
  refine kT_eqt rfl (by omega) (kT_callE (P_noTone hs σ) ?_)
  by_cases c2 : s < 0 ∨ 11 < s
  · rw [if_pos c2, if_pos c2, if_pos c2]
    exact kT_eqf (by omega) (by omega) (by omega) (kT_ri ⟨rfl, h⟩)
  rw [if_neg c2, if_neg c2, if_neg c2]
  refine kT_eqt rfl (by omega) (kT_callE (P_outOf (by omega) (by omega) hv σ) ?_)
  by_cases c3 : v < 0 ∨ 99 < v
  · rw [if_pos c3, if_pos c3, if_pos c3]
    exact kT_eqf (by omega) (by omega) (by omega) (kT_ri ⟨rfl, h⟩)
  rw [if_neg c3, if_neg c3, if_neg c3]
  refine kT_eqt rfl (by omega) (kT_rd (by omega) (kT_wr (by omega) (kT_callE C_weightsChanged (kT_ri ⟨h.1.2.2.1 _ (by omega) (by omega), ?_⟩))))
  dsimp only
  obtain ⟨h1, h2, h3, h4, h5⟩ := h
  have hf : kFr [(27, none), (6, some 3), (8, some 13)] σ (ks (ks (ks σ 27 (m * 12 + s) v) 6 3 1) 8 13 1) := ((kFr.rf.put rfl).putf rfl).putf rfl
  refine ⟨⟨h1.1, h1.2.1, fun i a c => ?_, h1.2.2.2.1, h1.2.2.2.2⟩, ?_, Or.inr ?_, ?_, Or.inr (ks_s _ _ _ _)⟩
  · show ks σ 27 (m * 12 + s) v 27 i = if i = m * 12 + s then v else bwt b i
    by_cases e : i = m * 12 + s
    · rw [e, ks_s, if_pos rfl]
    · rw [ks_i e, if_neg e]; exact h1.2.2.1 i a c
  · rcases h2 with g | g
    · exact Or.inl ⟨g.1, g.2.fr hf rfl⟩
    · exact Or.inr g
  · rw [ks_c (by decide), ks_s]
  · rcases h4 with g | g
    · exact Or.inl ⟨g.1, g.2.fr hf rfl⟩
    · exact Or.inr g
theorem M_weight {b : KB} {σ : KM} (hb : kB b) (hm : mB b σ) {m s v : Int} (h1 : i32 m) (h2 : i32 s) (h3 : i32 v) : kT (fM_weight m s v σ) (fun z => z.1 = qWeight b m s v ∧ mB (bWeight b m s v) z.2) := by
  unfold fM_weight fM_weight_J24 qWeight bWeight
  refine kT_wf ?_
  have hm1 := hm.th
  generalize ks σ 10 0 0 = M at hm1 ⊢
  refine kT_callE (M_isMode h1 M) ?_
  by_cases c1 : m < 0 ∨ 1 < m
  · rw [if_pos c1, if_pos c1, if_pos c1]
    exact kT_eqt rfl (by omega) (kT_ri ⟨rfl, hm1⟩)
  rw [if_neg c1, if_neg c1, if_neg c1]
  refine kT_eqf (by omega) (by omega) (by omega) (kT_ck h2 (kT_callE (M_isIn (by omega) (by omega) h2 M) ?_))
  by_cases c2 : s < 0 ∨ 11 < s
  · rw [if_pos c2, if_pos c2, if_pos c2]
    exact kT_eqt rfl (by omega) (kT_ri ⟨rfl, hm1⟩)
  rw [if_neg c2, if_neg c2, if_neg c2]
  refine kT_eqf (by omega) (by omega) (by omega) (kT_ck h3 (kT_callE (M_isIn (by omega) (by omega) h3 M) ?_))
  by_cases c3 : v < 0 ∨ 99 < v
  · rw [if_pos c3, if_pos c3, if_pos c3]
    exact kT_eqt rfl (by omega) (kT_ri ⟨rfl, hm1⟩)
  rw [if_neg c3, if_neg c3, if_neg c3]
  rw [show 12 * m + s = m * 12 + s by omega]
  refine kT_eqf (by omega) (by omega) (by omega) (kT_rd (by omega) (kT_wr (by omega) (kT_ri ⟨hm1.2.2.1 _ (by omega) (by omega), ?_⟩)))
  dsimp only
  refine ⟨hm1.1, hm1.2.1, fun i a c => ?_, hm1.2.2.2.1, hm1.2.2.2.2⟩
  show ks M 52 (m * 12 + s) v 52 i = if i = m * 12 + s then v else bwt b i
  by_cases e : i = m * 12 + s
  · rw [e, ks_s, if_pos rfl]
  · rw [ks_i e, if_neg e]; exact hm1.2.2.1 i a c
/-! net -/
def noN (f r a x : Int) : Prop := (f < 0 ∨ 999 < f) ∨ (r < 0 ∨ 999 < r) ∨ (a < 0 ∨ 999 < a) ∨ (x < 0 ∨ 100 < x)
def qNet (b : KB) (f r a x : Int) : Int := if f < 0 ∨ 999 < f then -3 else if r < 0 ∨ 999 < r then -3 else if a < 0 ∨ 999 < a then -3 else if x < 0 ∨ 100 < x then -3 else bx b
def bNet (b : KB) (f r a x : Int) : KB := if f < 0 ∨ 999 < f then b else if r < 0 ∨ 999 < r then b else if a < 0 ∨ 999 < a then b else if x < 0 ∨ 100 < x then b else bSN b f r a x
theorem kB_net {b : KB} (hb : kB b) (f r a x : Int) : kB (bNet b f r a x) := by
  unfold bNet
  split
  · exact hb
  · split
    · exact hb
    · split
      · exact hb
      · split
        · exact hb
        · exact kB_S hb (by omega)
theorem C_net {b : KB} {σ : KM} (hb : kB b) (h : CI b σ) {f r a x : Int} (hf : i32 f) (hr : i32 r) (ha : i32 a) (hx : i32 x) : kT (fP_net f r a x σ) (fun z => z.1 = qNet b f r a x ∧ CI (bNet b f r a x) z.2) := by
  unfold fP_net fP_net_J44 qNet bNet
  refine kT_callE (P_outOf (by omega) (by omega) hf σ) ?_
  by_cases c1 : f < 0 ∨ 999 < f
  · rw [if_pos c1, if_pos c1, if_pos c1]
    exact kT_eqf (by omega) (by omega) (by omega) (kT_ri ⟨rfl, h⟩)
  rw [if_neg c1, if_neg c1, if_neg c1]
  refine kT_eqt rfl (by omega) (kT_callE (P_outOf (by omega) (by omega) hr σ) ?_)
  by_cases c2 : r < 0 ∨ 999 < r
  · rw [if_pos c2, if_pos c2, if_pos c2]
    exact kT_eqf (by omega) (by omega) (by omega) (kT_ri ⟨rfl, h⟩)
  rw [if_neg c2, if_neg c2, if_neg c2]
  refine kT_eqt rfl (by omega) (kT_callE (P_outOf (by omega) (by omega) ha σ) ?_)
  by_cases c3 : a < 0 ∨ 999 < a
  · rw [if_pos c3, if_pos c3, if_pos c3]
    exact kT_eqf (by omega) (by omega) (by omega) (kT_ri ⟨rfl, h⟩)
  rw [if_neg c3, if_neg c3, if_neg c3]
  refine kT_eqt rfl (by omega) (kT_callE (P_outOf (by omega) (by omega) hx σ) ?_)
  by_cases c4 : x < 0 ∨ 100 < x
  · rw [if_pos c4, if_pos c4, if_pos c4]
    exact kT_eqf (by omega) (by omega) (by omega) (kT_ri ⟨rfl, h⟩)
  rw [if_neg c4, if_neg c4, if_neg c4]
  refine kT_eqt rfl (by omega) (kT_let (kT_wf (kT_wf (kT_wf (kT_wf (kT_wfz (by omega) (kT_callE C_pathChanged (kT_ri ⟨h.1.2.2.2.2.2.2.2, ?_⟩))))))))
  dsimp only
  obtain ⟨h1, h2, h3, h4, h5⟩ := h
  have hfr : kFr [(7, some 0), (7, some 1), (7, some 2), (7, some 3), (7, some 4), (8, some 13)] σ (ks (ks (ks (ks (ks (ks σ 7 0 f) 7 1 r) 7 2 a) 7 3 x) 7 4 1) 8 13 1) := (((((kFr.rf.putf rfl).putf rfl).putf rfl).putf rfl).putf rfl).putf rfl
  refine ⟨⟨h1.1, h1.2.1, h1.2.2.1, h1.2.2.2.1, ?_, ?_, ?_, ?_⟩, ?_, ?_, Or.inr ?_, Or.inr (ks_s _ _ _ _)⟩
  · rw [ks_c (by decide), ks_i (by decide), ks_i (by decide), ks_i (by decide), ks_i (by decide), ks_s]; rfl
  · rw [ks_c (by decide), ks_i (by decide), ks_i (by decide), ks_i (by decide), ks_s]; rfl
  · rw [ks_c (by decide), ks_i (by decide), ks_i (by decide), ks_s]; rfl
  · rw [ks_c (by decide), ks_i (by decide), ks_s]; rfl
  · rcases h2 with g | g
    · exact Or.inl ⟨g.1, g.2.fr hfr rfl⟩
    · exact Or.inr g
  · rcases h3 with g | g
    · exact Or.inl ⟨g.1, g.2.1.fr hfr rfl, g.2.2⟩
    · exact Or.inr g
  · rw [ks_c (by decide), ks_s]
theorem M_net {b : KB} {σ : KM} (hb : kB b) (hm : mB b σ) {f r a x : Int} (hf : i32 f) (hr : i32 r) (ha : i32 a) (hx : i32 x) : kT (fM_net f r a x σ) (fun z => z.1 = qNet b f r a x ∧ mB (bNet b f r a x) z.2) := by
  unfold fM_net fM_net_J54 qNet bNet
  refine kT_wf ?_
  have hm1 := hm.th
  generalize ks σ 10 0 0 = M at hm1 ⊢
  refine kT_ck hf (kT_callE (M_isIn (by omega) (by omega) hf M) ?_)
  by_cases c1 : f < 0 ∨ 999 < f
  · rw [if_pos c1, if_pos c1, if_pos c1]
    exact kT_eqt rfl (by omega) (kT_ri ⟨rfl, hm1⟩)
  rw [if_neg c1, if_neg c1, if_neg c1]
  refine kT_eqf (by omega) (by omega) (by omega) (kT_ck hr (kT_callE (M_isIn (by omega) (by omega) hr M) ?_))
  by_cases c2 : r < 0 ∨ 999 < r
  · rw [if_pos c2, if_pos c2, if_pos c2]
    exact kT_eqt rfl (by omega) (kT_ri ⟨rfl, hm1⟩)
  rw [if_neg c2, if_neg c2, if_neg c2]
  refine kT_eqf (by omega) (by omega) (by omega) (kT_ck ha (kT_callE (M_isIn (by omega) (by omega) ha M) ?_))
  by_cases c3 : a < 0 ∨ 999 < a
  · rw [if_pos c3, if_pos c3, if_pos c3]
    exact kT_eqt rfl (by omega) (kT_ri ⟨rfl, hm1⟩)
  rw [if_neg c3, if_neg c3, if_neg c3]
  refine kT_eqf (by omega) (by omega) (by omega) (kT_ck hx (kT_callE (M_isIn (by omega) (by omega) hx M) ?_))
  by_cases c4 : x < 0 ∨ 100 < x
  · rw [if_pos c4, if_pos c4, if_pos c4]
    exact kT_eqt rfl (by omega) (kT_ri ⟨rfl, hm1⟩)
  rw [if_neg c4, if_neg c4, if_neg c4]
  refine kT_eqf (by omega) (by omega) (by omega) (kT_let (kT_wf (kT_wf (kT_wf (kT_wf (kT_ri ⟨hm1.2.2.2.2.2.2.2, ?_⟩))))))
  dsimp only
  obtain ⟨⟨k1, k2⟩, ⟨k3, k4⟩, k5, k6, k7⟩ := hm1
  refine ⟨⟨?_, k2⟩, ⟨?_, ?_⟩, k5, k6, ?_, ?_, ?_, ?_⟩
  · rw [ks_i (by decide), ks_i (by decide), ks_i (by decide), ks_i (by decide)]; exact k1
  · rw [ks_i (by decide), ks_i (by decide), ks_i (by decide), ks_i (by decide)]; exact k3
  · rw [ks_i (by decide), ks_i (by decide), ks_i (by decide), ks_i (by decide)]; exact k4
  · rw [ks_i (by decide), ks_i (by decide), ks_i (by decide), ks_s]; rfl
  · rw [ks_i (by decide), ks_i (by decide), ks_s]; rfl
  · rw [ks_i (by decide), ks_s]; rfl
  · rw [ks_s]; rfl
/-! pin -/
def qPin (b : KB) (w k : Int) : Int := if w < 0 ∨ 47 < w then -2 else if k < -1 ∨ 23 < k then -2 else bpi b w
def bPin (b : KB) (w k : Int) : KB := if w < 0 ∨ 47 < w then b else if k < -1 ∨ 23 < k then b else bSP b w k
theorem kB_pin {b : KB} (hb : kB b) (w k : Int) : kB (bPin b w k) := by
  unfold bPin
  split
  · exact hb
  · split
    · exact hb
    · exact kB_P hb (by omega)
theorem C_pin {b : KB} {σ : KM} (hb : kB b) (h : CI b σ) {w k : Int} (hw : i32 w) (hk : i32 k) : kT (fP_pin w k σ) (fun z => z.1 = qPin b w k ∧ CI (bPin b w k) z.2) := by
  unfold fP_pin fP_pin_J22 qPin bPin
  refine kT_callE (P_outOf (by omega) (by omega) hw σ) ?_
  by_cases c1 : w < 0 ∨ 47 < w
  · rw [if_pos c1, if_pos c1, if_pos c1]
    exact kT_eqf (by omega) (by omega) (by omega) (kT_ri ⟨rfl, h⟩)
  rw [if_neg c1, if_neg c1, if_neg c1]
  refine kT_eqt rfl (by omega) ?_
  have main : kT (fP_pin_J25 w k σ) (fun z => z.1 = bpi b w ∧ CI (bSP b w k) z.2) := by
    unfold fP_pin_J25
    refine kT_rd (by omega) (kT_wr (by omega) (kT_callE C_pathChanged (kT_ri ⟨h.1.2.2.2.1 _ (by omega) (by omega), ?_⟩)))
    dsimp only
    obtain ⟨h1, h2, h3, h4, h5⟩ := h
    have hfr : kFr [(33, none), (8, some 13)] σ (ks (ks σ 33 w k) 8 13 1) := (kFr.rf.put rfl).putf rfl
    refine ⟨⟨h1.1, h1.2.1, h1.2.2.1, fun i a c => ?_, h1.2.2.2.2⟩, ?_, ?_, ?_, Or.inr (ks_s _ _ _ _)⟩
    · show ks σ 33 w k 33 i = if i = w then k else bpi b i
      by_cases e : i = w
      · rw [e, ks_s, if_pos rfl]
      · rw [ks_i e, if_neg e]; exact h1.2.2.2.1 i a c
    · rcases h2 with g | g
      · exact Or.inl ⟨g.1, g.2.fr hfr rfl⟩
      · exact Or.inr g
    · rcases h3 with g | g
      · exact Or.inl ⟨g.1, g.2.1.fr hfr rfl, g.2.2⟩
      · exact Or.inr g
    · rcases h4 with g | g
      · exact Or.inl ⟨g.1, g.2.fr hfr rfl⟩
      · exact Or.inr g
  refine kT_eq hk (by omega) (fun c => ?_) (fun c => ?_)
  · rw [if_neg (by omega), if_neg (by omega)]; exact main
  · refine kT_callE (P_noKey hk σ) ?_
    by_cases c2 : k < 0 ∨ 23 < k
    · rw [if_pos c2, if_pos (by omega), if_pos (by omega)]
      exact kT_eqf (by omega) (by omega) (by omega) (kT_ri ⟨rfl, h⟩)
    · rw [if_neg c2, if_neg (by omega), if_neg (by omega)]
      exact kT_eqt rfl (by omega) main
theorem M_pin {b : KB} {σ : KM} (hb : kB b) (hm : mB b σ) {w k : Int} (hw : i32 w) (hk : i32 k) : kT (fM_pin w k σ) (fun z => z.1 = qPin b w k ∧ mB (bPin b w k) z.2) := by
  unfold fM_pin fM_pin_J29 qPin bPin
  refine kT_wf ?_
  have hm1 := hm.th
  generalize ks σ 10 0 0 = M at hm1 ⊢
  refine kT_ck hw (kT_callE (M_isIn (by omega) (by omega) hw M) ?_)
  by_cases c1 : w < 0 ∨ 47 < w
  · rw [if_pos c1, if_pos c1, if_pos c1]
    exact kT_eqt rfl (by omega) (kT_ri ⟨rfl, hm1⟩)
  rw [if_neg c1, if_neg c1, if_neg c1]
  refine kT_eqf (by omega) (by omega) (by omega) ?_
  have main : kT (fM_pin_J32 w k M) (fun z => z.1 = bpi b w ∧ mB (bSP b w k) z.2) := by
    unfold fM_pin_J32
    refine kT_rd (by omega) (kT_wr (by omega) (kT_ri ⟨hm1.2.2.2.1 _ (by omega) (by omega), ?_⟩))
    dsimp only
    refine ⟨hm1.1, hm1.2.1, hm1.2.2.1, fun i a c => ?_, hm1.2.2.2.2⟩
    show ks M 53 w k 53 i = if i = w then k else bpi b i
    by_cases e : i = w
    · rw [e, ks_s, if_pos rfl]
    · rw [ks_i e, if_neg e]; exact hm1.2.2.2.1 i a c
  refine kT_eq hk (by omega) (fun c => ?_) (fun c => ?_)
  · rw [if_neg (by omega), if_neg (by omega)]; exact main
  · refine kT_callE (M_isKey hk M) ?_
    by_cases c2 : k < 0 ∨ 23 < k
    · rw [if_pos c2, if_pos (by omega), if_pos (by omega)]
      exact kT_eqt rfl (by omega) (kT_ri ⟨rfl, hm1⟩)
    · rw [if_neg c2, if_neg (by omega), if_neg (by omega)]
      exact kT_eqf (by omega) (by omega) (by omega) main
/-! windows -/
def qWindows (b : KB) (w h : Int) : Int := if w < 4 ∨ 128 < w then -3 else if h < 4 ∨ 128 < h then -3 else if 48 < (eS b + h - 1) / h then -4 else (eS b + h - 1) / h
def bWindows (b : KB) (w h : Int) : KB := if w < 4 ∨ 128 < w then b else if h < 4 ∨ 128 < h then b else if 48 < (eS b + h - 1) / h then b else bSH b w h
theorem kB_windows {b : KB} (hb : kB b) (w h : Int) : kB (bWindows b w h) := by
  unfold bWindows
  split
  · exact hb
  · split
    · exact hb
    · split
      · exact hb
      · exact kB_H hb (by omega)
theorem wnS_H {b : KB} {w h : Int} (c : ¬ 48 < (eS b + h - 1) / h) : wnS (bSH b w h) = (eS b + h - 1) / h := by
  show (if 48 < (eS b + h - 1) / h then 48 else (eS b + h - 1) / h) = _
  rw [if_neg c]
theorem C_windows {b : KB} {σ : KM} (hb : kB b) (h : CI b σ) {w k : Int} (hw : i32 w) (hk : i32 k) : kT (fP_windows w k σ) (fun z => z.1 = qWindows b w k ∧ CI (bWindows b w k) z.2) := by
  have er := eS_r hb
  unfold fP_windows fP_windows_J22 qWindows bWindows
  refine kT_callE (P_outOf (by omega) (by omega) hw σ) ?_
  by_cases c1 : w < 4 ∨ 128 < w
  · rw [if_pos c1, if_pos c1, if_pos c1]
    exact kT_eqf (by omega) (by omega) (by omega) (kT_ri ⟨rfl, h⟩)
  rw [if_neg c1, if_neg c1, if_neg c1]
  refine kT_eqt rfl (by omega) (kT_callE (P_outOf (by omega) (by omega) hk σ) ?_)
  by_cases c2 : k < 4 ∨ 128 < k
  · rw [if_pos c2, if_pos c2, if_pos c2]
    exact kT_eqf (by omega) (by omega) (by omega) (kT_ri ⟨rfl, h⟩)
  rw [if_neg c2, if_neg c2, if_neg c2]
  have q := wq_r er (h := k) (by omega)
  refine kT_eqt rfl (by omega) (kT_callE (P_end h.1.1 hb.1) (kT_callE (P_beginsAhead er (by omega) σ) ?_))
  change kT (kLt 48 ((eS b + k - 1) / k) _ _) _
  by_cases c3 : 48 < (eS b + k - 1) / k
  · rw [if_pos c3, if_pos c3]
    exact kT_ltt c3 (by omega) (kT_ri ⟨rfl, h⟩)
  rw [if_neg c3, if_neg c3]
  refine kT_ltf (by omega) (by omega) (kT_wf (kT_wf (kT_callE C_notesChanged ?_)))
  have hC : CI (bSH b w k) (ks (ks (ks (ks (ks σ 5 0 w) 5 1 k) 5 6 1) 6 3 1) 8 13 1) := by
    obtain ⟨h1, h2, h3, h4, h5⟩ := h
    have hfr : kFr [(5, some 0), (5, some 1), (5, some 6), (6, some 3), (8, some 13)] σ (ks (ks (ks (ks (ks σ 5 0 w) 5 1 k) 5 6 1) 6 3 1) 8 13 1) := ((((kFr.rf.putf rfl).putf rfl).putf rfl).putf rfl).putf rfl
    refine ⟨⟨h1.1, ⟨?_, ?_⟩, h1.2.2.1, h1.2.2.2.1, h1.2.2.2.2⟩, Or.inr ?_, Or.inr ?_, ?_, Or.inr (ks_s _ _ _ _)⟩
    · rw [ks_c (by decide), ks_c (by decide), ks_i (by decide), ks_i (by decide), ks_s]; rfl
    · rw [ks_c (by decide), ks_c (by decide), ks_i (by decide), ks_s]; rfl
    · rw [ks_c (by decide), ks_c (by decide), ks_s]
    · rw [ks_c (by decide), ks_s]
    · rcases h4 with g | g
      · exact Or.inl ⟨g.1, g.2.fr hfr rfl⟩
      · exact Or.inr g
  have hb2 : kB (bSH b w k) := kB_H hb (by omega)
  refine kT_callT (C_freshWindows hb2 hC) (fun r τ hz => ?_)
  dsimp only at hz
  refine kT_ri ⟨?_, hz.1⟩
  dsimp only
  rw [hz.2.1, wnS_H c3]
theorem M_windows {b : KB} {σ : KM} (hb : kB b) (hm : mB b σ) {w k : Int} (hw : i32 w) (hk : i32 k) : kT (fM_windows w k σ) (fun z => z.1 = qWindows b w k ∧ mB (bWindows b w k) z.2) := by
  have er := eS_r hb
  unfold fM_windows fM_windows_J33 qWindows bWindows
  refine kT_wf ?_
  have hm1 := hm.th
  generalize ks σ 10 0 0 = M at hm1 ⊢
  refine kT_ck hw (kT_callE (M_isIn (by omega) (by omega) hw M) ?_)
  by_cases c1 : w < 4 ∨ 128 < w
  · rw [if_pos c1, if_pos c1, if_pos c1]
    exact kT_eqt rfl (by omega) (kT_ri ⟨rfl, hm1⟩)
  rw [if_neg c1, if_neg c1, if_neg c1]
  refine kT_eqf (by omega) (by omega) (by omega) (kT_ck hk (kT_callE (M_isIn (by omega) (by omega) hk M) ?_))
  by_cases c2 : k < 4 ∨ 128 < k
  · rw [if_pos c2, if_pos c2, if_pos c2]
    exact kT_eqt rfl (by omega) (kT_ri ⟨rfl, hm1⟩)
  rw [if_neg c2, if_neg c2, if_neg c2]
  have q := wq_r er (h := k) (by omega)
  refine kT_eqf (by omega) (by omega) (by omega) (kT_callE (M_windowsBy hb hm1 (by omega)) ?_)
  by_cases c3 : 48 < (eS b + k - 1) / k
  · rw [if_pos c3, if_pos c3]
    exact kT_ltt c3 (by omega) (kT_ri ⟨rfl, hm1⟩)
  rw [if_neg c3, if_neg c3]
  refine kT_ltf (by omega) (by omega) (kT_wf (kT_wf ?_))
  have hm2 : mB (bSH b w k) (ks (ks M 10 11 w) 10 12 k) := by
    obtain ⟨⟨k1, k2⟩, ⟨k3, k4⟩, k5, k6, k7, k8, k9, k10⟩ := hm1
    refine ⟨⟨?_, k2⟩, ⟨?_, ?_⟩, k5, k6, ?_, ?_, ?_, ?_⟩
    · rw [ks_i (by decide), ks_i (by decide)]; exact k1
    · rw [ks_i (by decide), ks_s]; rfl
    · rw [ks_s]; rfl
    · rw [ks_i (by decide), ks_i (by decide)]; exact k7
    · rw [ks_i (by decide), ks_i (by decide)]; exact k8
    · rw [ks_i (by decide), ks_i (by decide)]; exact k9
    · rw [ks_i (by decide), ks_i (by decide)]; exact k10
  refine kT_callE (M_windowMany (kB_H hb (by omega)) hm2) (kT_ri ⟨?_, hm2⟩)
  exact wnS_H c3
