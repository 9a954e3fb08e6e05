/-! ===== the methods as pure functions: by program ===== -/
def kChr {Z : Type} (t : Nat) (i : Int) (G : Int → Option Z) : Option Z := if 0 ≤ i ∧ i < 12 then G (if t = 0 then ([99, 99, 100, 100, 101, 102, 102, 103, 103, 97, 97, 98] : List Int).getD i.toNat 0 else ([32, 35, 32, 35, 32, 32, 35, 32, 35, 32, 35, 32] : List Int).getD i.toNat 0) else none
def fNo_end_J36 (x1 : Int) (σ : KM) : Option (Int × KM) :=
  kRetI x1 σ
def fNo_end_B4 (x1 x2 : Int) (σ : KM) : Option ((Int × Int × KM) ⊕ (Int × KM)) :=
  kLt x2 (σ 3 3)
    (kRd σ 16 100 x2 fun y1 =>
     kRd σ 17 100 x2 fun y2 =>
     kMx x1 (y1 + y2) fun y3 =>
     kLet (x2 + 1) fun y4 =>
     some (.inl (y3, y4, σ)))
    (kExit (fNo_end_J36 x1 σ))
def fNo_end_L4 (x1 x2 : Int) (σ : KM) : Option (Int × KM) := kIter (fun s => fNo_end_B4 s.1 s.2.1 s.2.2) kF (x1, x2, σ)
def fNo_end (σ : KM) : Option (Int × KM) :=
  fNo_end_L4 0 0 σ
def fWi_beginsAhead_J16 (t0 : Int) (σ : KM) : Option (Int × KM) :=
  kRetI t0 σ
def fWi_beginsAhead (x0 x1 : Int) (σ : KM) : Option (Int × KM) :=
  kLt x1 1
    (fWi_beginsAhead_J16 0 σ)
    (kDv ((x0 + x1) - 1) x1 fun y1 =>
     fWi_beginsAhead_J16 y1 σ)
def fAr_rangeCheck (x0 x1 x2 : Int) (σ : KM) : Option (Int × KM) :=
  kLt x2 x1
    (none)
    (kLt x1 0
       (none)
       (kLt x0 x2
          (none)
          (kRetI 0 σ)))
def fAr_fill4_24_J27 (σ : KM) : Option (Int × KM) :=
  kRetI 0 σ
def fAr_fill4_24_B10 (x2 x3 x4 : Int) (σ : KM) : Option ((Int × KM) ⊕ (Int × KM)) :=
  kLt x4 x2
    (kWr σ 24 588 x4 x3 fun τ1 =>
     kLet (x4 + 1) fun y2 =>
     some (.inl (y2, τ1)))
    (kExit (fAr_fill4_24_J27 σ))
def fAr_fill4_24_L10 (x2 x3 x4 : Int) (σ : KM) : Option (Int × KM) := kIter (fun s => fAr_fill4_24_B10 x2 x3 s.1 s.2) kF (x4, σ)
def fAr_fill4_24 (x1 x2 x3 : Int) (σ : KM) : Option (Int × KM) :=
  kCall (fAr_rangeCheck 588 x1 x2 σ) fun _ τ1 =>
  fAr_fill4_24_L10 x2 x3 x1 τ1
def fWi_countSpan_J127 (σ : KM) : Option (Int × KM) :=
  kRetI 0 σ
def fWi_countSpan_J121 (x2 x3 x4 x5 : Int) (σ : KM) : Option ((Int × KM) ⊕ (Int × KM)) :=
  kLet (x5 + 1) fun y1 =>
  some (.inl (y1, σ))
def fWi_countSpan_B28 (x2 x3 x4 x5 : Int) (σ : KM) : Option ((Int × KM) ⊕ (Int × KM)) :=
  kLt x5 (σ 3 3)
    (kRd σ 16 100 x5 fun y1 =>
     kMx x3 y1 fun y2 =>
     kRd σ 16 100 x5 fun y3 =>
     kRd σ 17 100 x5 fun y4 =>
     kMn x4 (y3 + y4) fun y5 =>
     kLt y2 y5
       (kRd σ 18 100 x5 fun y6 =>
        kRm y6 12 fun y7 =>
        kRd σ 24 588 ((x2 * 12) + y7) fun y8 =>
        kWr σ 24 588 ((x2 * 12) + y7) (y8 + (y5 - y2)) fun τ9 =>
        kRd τ9 25 49 x2 fun y10 =>
        kWr τ9 25 49 x2 (y10 + (y5 - y2)) fun τ11 =>
        fWi_countSpan_J121 x2 x3 x4 x5 τ11)
       (fWi_countSpan_J121 x2 x3 x4 x5 σ))
    (kExit (fWi_countSpan_J127 σ))
def fWi_countSpan_L28 (x2 x3 x4 x5 : Int) (σ : KM) : Option (Int × KM) := kIter (fun s => fWi_countSpan_B28 x2 x3 x4 s.1 s.2) kF (x5, σ)
def fWi_countSpan (x2 x3 x4 : Int) (σ : KM) : Option (Int × KM) :=
  kCall (fAr_fill4_24 (x2 * 12) ((x2 + 1) * 12) 0 σ) fun _ τ1 =>
  kWr τ1 25 49 x2 0 fun τ2 =>
  fWi_countSpan_L28 x2 x3 x4 0 τ2
def fP_toneOf_J33 (t0 t1 : Int) (σ : KM) : Option (Int × KM) :=
  kRm (t1 + t0) 12 fun y1 =>
  kRetI y1 σ
def fP_toneOf (x0 x1 : Int) (σ : KM) : Option (Int × KM) :=
  kDv x0 3 fun y1 =>
  kEq x1 0
    (kRetI y1 σ)
    (kEq x1 1
       (kRm x0 3 fun y4 =>
        kRs 2 3 y4 fun y5 =>
        fP_toneOf_J33 y5 y1 σ)
       (kRm x0 3 fun y2 =>
        kRs 3 3 y2 fun y3 =>
        fP_toneOf_J33 y3 y1 σ))
def fWi_fullestTriad_J83 (x2 : Int) (σ : KM) : Option (Int × KM) :=
  kRetI x2 σ
def fWi_fullestTriad_J77 (x1 x2 x3 x4 : Int) (σ : KM) : Option ((Int × Int × Int × KM) ⊕ (Int × KM)) :=
  kLet (x4 + 1) fun y1 =>
  some (.inl (x2, x3, y1, σ))
def fWi_fullestTriad_J65 (x1 x2 x3 x4 x5 : Int) (σ : KM) : Option ((Int × Int × Int × KM) ⊕ (Int × KM)) :=
  kLt x3 x5
    (fWi_fullestTriad_J77 x1 x4 x5 x4 σ)
    (fWi_fullestTriad_J77 x1 x2 x3 x4 σ)
def fWi_fullestTriad_B31 (x1 x2 x3 x4 x5 x6 : Int) (σ : KM) : Option ((Int × Int × KM) ⊕ ((Int × Int × Int × KM) ⊕ (Int × KM))) :=
  kLt x6 3
    (kCall (fP_toneOf x4 x6 σ) fun r2 τ1 =>
     kRd τ1 24 588 ((x1 * 12) + r2) fun y3 =>
     kLet (x5 + y3) fun y4 =>
     kLet (x6 + 1) fun y5 =>
     some (.inl (y4, y5, τ1)))
    (kExit (fWi_fullestTriad_J65 x1 x2 x3 x4 x5 σ))
def fWi_fullestTriad_L31 (x1 x2 x3 x4 x5 x6 : Int) (σ : KM) : Option ((Int × Int × Int × KM) ⊕ (Int × KM)) := kIter (fun s => fWi_fullestTriad_B31 x1 x2 x3 x4 s.1 s.2.1 s.2.2) kF (x5, x6, σ)
def fWi_fullestTriad_B18 (x1 x2 x3 x4 : Int) (σ : KM) : Option ((Int × Int × Int × KM) ⊕ (Int × KM)) :=
  kLt x4 36
    (fWi_fullestTriad_L31 x1 x2 x3 x4 0 0 σ)
    (kExit (fWi_fullestTriad_J83 x2 σ))
def fWi_fullestTriad_L18 (x1 x2 x3 x4 : Int) (σ : KM) : Option (Int × KM) := kIter (fun s => fWi_fullestTriad_B18 x1 s.1 s.2.1 s.2.2.1 s.2.2.2) kF (x2, x3, x4, σ)
def fWi_fullestTriad (x1 : Int) (σ : KM) : Option (Int × KM) :=
  kRd σ 25 49 x1 fun y1 =>
  kEq y1 0
    (kRetI (-1) σ)
    (fWi_fullestTriad_L18 x1 (-1) (-1) 0 σ)
def fWi_recount_J72 (x2 : Int) (σ : KM) : Option (Int × KM) :=
  kCall (fWi_countSpan 48 0 x2 σ) fun _ τ1 =>
  kWfz τ1 5 6 0 fun τ2 =>
  kRetI 0 τ2
def fWi_recount_B24 (x2 x3 : Int) (σ : KM) : Option ((Int × KM) ⊕ (Int × KM)) :=
  kLt x3 (σ 5 2)
    (kCall (fWi_countSpan x3 (x3 * (σ 5 1)) ((x3 * (σ 5 1)) + (σ 5 0)) σ) fun _ τ1 =>
     kCall (fWi_fullestTriad x3 τ1) fun r3 τ2 =>
     kWr τ2 26 48 x3 r3 fun τ4 =>
     kLet (x3 + 1) fun y5 =>
     some (.inl (y5, τ4)))
    (kExit (fWi_recount_J72 x2 σ))
def fWi_recount_L24 (x2 x3 : Int) (σ : KM) : Option (Int × KM) := kIter (fun s => fWi_recount_B24 x2 s.1 s.2) kF (x3, σ)
def fWi_recount (σ : KM) : Option (Int × KM) :=
  kCall (fNo_end σ) fun r2 τ1 =>
  kCall (fWi_beginsAhead r2 (τ1 5 1) τ1) fun r4 τ3 =>
  kMn 48 r4 fun y5 =>
  kWf τ3 5 2 y5 fun τ6 =>
  fWi_recount_L24 r2 0 τ6
def fP_freshWindows_J21 (σ : KM) : Option (Int × KM) :=
  kRetI 0 σ
def fP_freshWindows (σ : KM) : Option (Int × KM) :=
  kEq (σ 5 6) 0
    (fP_freshWindows_J21 σ)
    (kCall (fWi_recount σ) fun _ τ1 =>
     fP_freshWindows_J21 τ1)
def fP_noWindow_J24 (t0 : Int) (σ : KM) : Option (Int × KM) :=
  kRetZ t0 σ
def fP_noWindow_J19 (σ : KM) : Option (Int × KM) :=
  fP_noWindow_J24 1 σ
def fP_noWindow (x1 : Int) (σ : KM) : Option (Int × KM) :=
  kCall (fP_freshWindows σ) fun _ τ1 =>
  kLt x1 0
    (fP_noWindow_J19 τ1)
    (kLt x1 (τ1 5 2)
       (fP_noWindow_J24 0 τ1)
       (fP_noWindow_J19 τ1))
def fP_chord_J22 (t0 : Int) (σ : KM) : Option (Int × KM) :=
  kRetI t0 σ
def fP_chord (x1 : Int) (σ : KM) : Option (Int × KM) :=
  kCall (fP_noWindow x1 σ) fun r2 τ1 =>
  kEq r2 0
    (kRd τ1 26 48 x1 fun y3 =>
     fP_chord_J22 y3 τ1)
    (fP_chord_J22 (-2) τ1)
def fP_modeOf_J11 (t0 : Int) (σ : KM) : Option (Int × KM) :=
  kRetI t0 σ
def fP_modeOf (x0 : Int) (σ : KM) : Option (Int × KM) :=
  kLt x0 12
    (fP_modeOf_J11 0 σ)
    (fP_modeOf_J11 1 σ)
def fPr_weigh_J61 (x5 : Int) (σ : KM) : Option (Int × KM) :=
  kRetI x5 σ
def fPr_weigh_B15 (x2 x3 x4 x5 x6 : Int) (σ : KM) : Option ((Int × Int × KM) ⊕ (Int × KM)) :=
  kLt x6 12
    (kRd σ 27 24 (x4 + x6) fun y1 =>
     kRm (x3 + x6) 12 fun y2 =>
     kRd σ 24 588 ((x2 * 12) + y2) fun y3 =>
     kLet (x5 + (y1 * y3)) fun y4 =>
     kLet (x6 + 1) fun y5 =>
     some (.inl (y4, y5, σ)))
    (kExit (fPr_weigh_J61 x5 σ))
def fPr_weigh_L15 (x2 x3 x4 x5 x6 : Int) (σ : KM) : Option (Int × KM) := kIter (fun s => fPr_weigh_B15 x2 x3 x4 s.1 s.2.1 s.2.2) kF (x5, x6, σ)
def fPr_weigh (x2 x3 : Int) (σ : KM) : Option (Int × KM) :=
  kCall (fP_modeOf x3 σ) fun r2 τ1 =>
  kLet (r2 * 12) fun y3 =>
  fPr_weigh_L15 x2 x3 y3 0 0 τ1
def fPr_judgeRow_J84 (σ : KM) : Option (Int × KM) :=
  kRetI 0 σ
def fPr_judgeRow_J45 (x2 x3 x4 t0 : Int) (σ : KM) : Option ((Int × KM) ⊕ (Int × KM)) :=
  kWr σ 28 1176 ((x2 * 24) + x4) t0 fun τ1 =>
  kRd τ1 29 49 x2 fun y2 =>
  kMx y2 t0 fun y3 =>
  kWr τ1 29 49 x2 y3 fun τ4 =>
  kLet (x4 + 1) fun y5 =>
  some (.inl (y5, τ4))
def fPr_judgeRow_B17 (x2 x3 x4 : Int) (σ : KM) : Option ((Int × KM) ⊕ (Int × KM)) :=
  kLt x4 24
    (kEq x3 0
       (fPr_judgeRow_J45 x2 x3 x4 0 σ)
       (kCall (fPr_weigh x2 x4 σ) fun r2 τ1 =>
        kDv (100 * r2) x3 fun y3 =>
        fPr_judgeRow_J45 x2 x3 x4 y3 τ1))
    (kExit (fPr_judgeRow_J84 σ))
def fPr_judgeRow_L17 (x2 x3 x4 : Int) (σ : KM) : Option (Int × KM) := kIter (fun s => fPr_judgeRow_B17 x2 x3 s.1 s.2) kF (x4, σ)
def fPr_judgeRow (x2 : Int) (σ : KM) : Option (Int × KM) :=
  kRd σ 25 49 x2 fun y1 =>
  kWr σ 29 49 x2 0 fun τ2 =>
  fPr_judgeRow_L17 x2 y1 0 τ2
def fPr_judge_J22 (σ : KM) : Option (Int × KM) :=
  kCall (fPr_judgeRow 48 σ) fun _ τ1 =>
  kWfz τ1 6 3 0 fun τ2 =>
  kRetI 0 τ2
def fPr_judge_B2 (x2 : Int) (σ : KM) : Option ((Int × KM) ⊕ (Int × KM)) :=
  kLt x2 (σ 5 2)
    (kCall (fPr_judgeRow x2 σ) fun _ τ1 =>
     kLet (x2 + 1) fun y2 =>
     some (.inl (y2, τ1)))
    (kExit (fPr_judge_J22 σ))
def fPr_judge_L2 (x2 : Int) (σ : KM) : Option (Int × KM) := kIter (fun s => fPr_judge_B2 s.1 s.2) kF (x2, σ)
def fPr_judge (σ : KM) : Option (Int × KM) :=
  fPr_judge_L2 0 σ
def fP_freshFits_J25 (σ : KM) : Option (Int × KM) :=
  kRetI 0 σ
def fP_freshFits (σ : KM) : Option (Int × KM) :=
  kCall (fP_freshWindows σ) fun _ τ1 =>
  kEq (τ1 6 3) 0
    (fP_freshFits_J25 τ1)
    (kCall (fPr_judge τ1) fun _ τ2 =>
     fP_freshFits_J25 τ2)
def fAr_fill2_32_J20 (σ : KM) : Option (Int × KM) :=
  kRetI 0 σ
def fAr_fill2_32_B5 (x1 x3 x2 : Int) (σ : KM) : Option ((Int × KM) ⊕ (Int × KM)) :=
  kLt x2 x3
    (kWr σ 32 24 x2 x1 fun τ1 =>
     kLet (x2 + 1) fun y2 =>
     some (.inl (y2, τ1)))
    (kExit (fAr_fill2_32_J20 σ))
def fAr_fill2_32_L5 (x1 x3 x2 : Int) (σ : KM) : Option (Int × KM) := kIter (fun s => fAr_fill2_32_B5 x1 x3 s.1 s.2) kF (x2, σ)
def fAr_fill2_32 (x1 : Int) (σ : KM) : Option (Int × KM) :=
  fAr_fill2_32_L5 x1 24 0 σ
def fNe_raised (x0 x1 x2 : Int) (σ : KM) : Option (Int × KM) :=
  kRm (x0 + x1) 12 fun y1 =>
  kRetI ((x2 * 12) + y1) σ
def fNe_neighbour_J45 (x2 t0 t1 : Int) (σ : KM) : Option (Int × KM) :=
  kCall (fNe_raised t1 t0 (1 - x2) σ) fun r2 τ1 =>
  kRetI r2 τ1
def fNe_neighbour (x0 x1 : Int) (σ : KM) : Option (Int × KM) :=
  kCall (fP_modeOf x0 σ) fun r2 τ1 =>
  kEq x1 0
    (kCall (fNe_raised x0 7 r2 τ1) fun r8 τ7 =>
     kRetI r8 τ7)
    (kEq x1 1
       (kCall (fNe_raised x0 5 r2 τ1) fun r6 τ5 =>
        kRetI r6 τ5)
       (kEq x1 2
          (kEq r2 0
             (fNe_neighbour_J45 r2 9 x0 τ1)
             (fNe_neighbour_J45 r2 3 x0 τ1))
          (kCall (fNe_raised x0 0 (1 - r2) τ1) fun r4 τ3 =>
           kRetI r4 τ3)))
def fNe_rankOfStep_J32 (x2 : Int) (σ : KM) : Option (Int × KM) :=
  kRetI ((64 * x2) + 1) σ
def fNe_rankOfStep_J14 (σ : KM) : Option (Int × KM) :=
  kLet (σ 7 0) fun y1 =>
  fNe_rankOfStep_J32 y1 σ
def fNe_rankOfStep (x1 : Int) (σ : KM) : Option (Int × KM) :=
  kLet (σ 7 2) fun y1 =>
  kEq x1 0
    (fNe_rankOfStep_J14 σ)
    (kEq x1 1
       (fNe_rankOfStep_J14 σ)
       (kEq x1 2
          (kLet (σ 7 1) fun y2 =>
           fNe_rankOfStep_J32 y2 σ)
          (fNe_rankOfStep_J32 y1 σ)))
def fNe_reachFrom_J117 (σ : KM) : Option (Int × KM) :=
  kRetI 0 σ
def fNe_reachFrom_J111 (x2 x3 : Int) (σ : KM) : Option ((Int × Int × KM) ⊕ (Int × KM)) :=
  kLet (x3 + 1) fun y1 =>
  some (.inl (x2, y1, σ))
def fNe_reachFrom_J105 (x2 x3 x4 : Int) (σ : KM) : Option ((Int × Int × KM) ⊕ ((Int × Int × KM) ⊕ (Int × KM))) :=
  kLet (x4 + 1) fun y1 =>
  some (.inl (x2, y1, σ))
def fNe_reachFrom_J99 (x2 x3 x4 x5 : Int) (σ : KM) : Option ((Int × Int × KM) ⊕ ((Int × Int × KM) ⊕ ((Int × Int × KM) ⊕ (Int × KM)))) :=
  kLet (x5 + 1) fun y1 =>
  some (.inl (x2, y1, σ))
def fNe_reachFrom_B45 (x3 x4 x2 x5 : Int) (σ : KM) : Option ((Int × Int × KM) ⊕ ((Int × Int × KM) ⊕ ((Int × Int × KM) ⊕ (Int × KM)))) :=
  kLt x5 4
    (kCall (fNe_neighbour x4 x5 σ) fun r2 τ1 =>
     kRd τ1 32 24 x4 fun y3 =>
     kCall (fNe_rankOfStep x5 τ1) fun r5 τ4 =>
     kLet (y3 + r5) fun y6 =>
     kRd τ4 32 24 r2 fun y7 =>
     kLt y6 y7
       (kWr τ4 32 24 r2 y6 fun τ8 =>
        fNe_reachFrom_J99 1 x3 x4 x5 τ8)
       (fNe_reachFrom_J99 x2 x3 x4 x5 τ4))
    (kExit (fNe_reachFrom_J105 x2 x3 x4 σ))
def fNe_reachFrom_L45 (x3 x4 x2 x5 : Int) (σ : KM) : Option ((Int × Int × KM) ⊕ ((Int × Int × KM) ⊕ (Int × KM))) := kIter (fun s => fNe_reachFrom_B45 x3 x4 s.1 s.2.1 s.2.2) kF (x2, x5, σ)
def fNe_reachFrom_B35 (x3 x2 x4 : Int) (σ : KM) : Option ((Int × Int × KM) ⊕ ((Int × Int × KM) ⊕ (Int × KM))) :=
  kLt x4 24
    (fNe_reachFrom_L45 x3 x4 x2 0 σ)
    (kExit (fNe_reachFrom_J111 x2 x3 σ))
def fNe_reachFrom_L35 (x3 x2 x4 : Int) (σ : KM) : Option ((Int × Int × KM) ⊕ (Int × KM)) := kIter (fun s => fNe_reachFrom_B35 x3 s.1 s.2.1 s.2.2) kF (x2, x4, σ)
def fNe_reachFrom_B20 (x2 x3 : Int) (σ : KM) : Option ((Int × Int × KM) ⊕ (Int × KM)) :=
  kLt x3 24
    (kEq x2 0
       (kExit (fNe_reachFrom_J117 σ))
       (fNe_reachFrom_L35 x3 0 0 σ))
    (kExit (fNe_reachFrom_J117 σ))
def fNe_reachFrom_L20 (x2 x3 : Int) (σ : KM) : Option (Int × KM) := kIter (fun s => fNe_reachFrom_B20 s.1 s.2.1 s.2.2) kF (x2, x3, σ)
def fNe_reachFrom (x1 : Int) (σ : KM) : Option (Int × KM) :=
  kCall (fAr_fill2_32 1000000000 σ) fun _ τ1 =>
  kWr τ1 32 24 x1 0 fun τ2 =>
  fNe_reachFrom_L20 1 0 τ2
def fNe_copyRow_J59 (σ : KM) : Option (Int × KM) :=
  kRetI 0 σ
def fNe_copyRow_B2 (x1 x2 x3 : Int) (σ : KM) : Option ((Int × KM) ⊕ (Int × KM)) :=
  kLt x3 24
    (kCall (fP_modeOf x3 σ) fun r2 τ1 =>
     kCall (fNe_raised x3 x2 r2 τ1) fun r4 τ3 =>
     kLet ((x1 * 24) + r4) fun y5 =>
     kRd τ3 32 24 x3 fun y6 =>
     kWr τ3 31 576 y5 y6 fun τ7 =>
     kRd τ7 32 24 x3 fun y8 =>
     kDv y8 64 fun y9 =>
     kWr τ7 30 576 y5 y9 fun τ10 =>
     kLet (x3 + 1) fun y11 =>
     some (.inl (y11, τ10)))
    (kExit (fNe_copyRow_J59 σ))
def fNe_copyRow_L2 (x1 x2 x3 : Int) (σ : KM) : Option (Int × KM) := kIter (fun s => fNe_copyRow_B2 x1 x2 s.1 s.2) kF (x3, σ)
def fNe_copyRow (x1 x2 : Int) (σ : KM) : Option (Int × KM) :=
  fNe_copyRow_L2 x1 x2 0 σ
def fNe_refresh_J54 (σ : KM) : Option (Int × KM) :=
  kWfz σ 7 4 0 fun τ1 =>
  kRetI 0 τ1
def fNe_refresh_J48 (x1 : Int) (σ : KM) : Option ((Int × KM) ⊕ (Int × KM)) :=
  kLet (x1 + 1) fun y1 =>
  some (.inl (y1, σ))
def fNe_refresh_B25 (x1 x2 : Int) (σ : KM) : Option ((Int × KM) ⊕ ((Int × KM) ⊕ (Int × KM))) :=
  kLt x2 12
    (kCall (fNe_copyRow ((x1 * 12) + x2) x2 σ) fun _ τ1 =>
     kLet (x2 + 1) fun y2 =>
     some (.inl (y2, τ1)))
    (kExit (fNe_refresh_J48 x1 σ))
def fNe_refresh_L25 (x1 x2 : Int) (σ : KM) : Option ((Int × KM) ⊕ (Int × KM)) := kIter (fun s => fNe_refresh_B25 x1 s.1 s.2) kF (x2, σ)
def fNe_refresh_B10 (x1 : Int) (σ : KM) : Option ((Int × KM) ⊕ (Int × KM)) :=
  kLt x1 2
    (kCall (fNe_reachFrom (x1 * 12) σ) fun _ τ1 =>
     fNe_refresh_L25 x1 0 τ1)
    (kExit (fNe_refresh_J54 σ))
def fNe_refresh_L10 (x1 : Int) (σ : KM) : Option (Int × KM) := kIter (fun s => fNe_refresh_B10 s.1 s.2) kF (x1, σ)
def fNe_refresh (σ : KM) : Option (Int × KM) :=
  kEq (σ 7 4) 0
    (kRetI 0 σ)
    (fNe_refresh_L10 0 σ)
def fFi_judge_J132 (σ : KM) : Option (Int × KM) :=
  kRetI 0 σ
def fFi_judge_J126 (x3 : Int) (σ : KM) : Option ((Int × KM) ⊕ (Int × KM)) :=
  kLet (x3 + 1) fun y1 =>
  some (.inl (y1, σ))
def fFi_judge_J119 (x3 x4 t0 t1 : Int) (σ : KM) : Option ((Int × KM) ⊕ ((Int × KM) ⊕ (Int × KM))) :=
  kWr σ 34 1152 t1 t0 fun τ1 =>
  kLet (x4 + 1) fun y2 =>
  some (.inl (y2, τ1))
def fFi_judge_J87 (x3 x4 x5 t0 : Int) (σ : KM) : Option ((Int × KM) ⊕ ((Int × KM) ⊕ (Int × KM))) :=
  kEq t0 0
    (fFi_judge_J119 x3 x4 1000000000 x5 σ)
    (kRd σ 29 49 x3 fun y1 =>
     kRd σ 28 1176 x5 fun y2 =>
     fFi_judge_J119 x3 x4 (y1 - y2) x5 σ)
def fFi_judge_J82 (x3 x4 x5 : Int) (σ : KM) : Option ((Int × KM) ⊕ ((Int × KM) ⊕ (Int × KM))) :=
  fFi_judge_J87 x3 x4 x5 1 σ
def fFi_judge_B45 (x3 x4 : Int) (σ : KM) : Option ((Int × KM) ⊕ ((Int × KM) ⊕ (Int × KM))) :=
  kLt x4 24
    (kLet ((x3 * 24) + x4) fun y1 =>
     kRd σ 33 48 x3 fun y2 =>
     kEq y2 (-1)
       (fFi_judge_J82 x3 x4 y1 σ)
       (kRd σ 33 48 x3 fun y3 =>
        kEq y3 x4
          (fFi_judge_J82 x3 x4 y1 σ)
          (fFi_judge_J87 x3 x4 y1 0 σ)))
    (kExit (fFi_judge_J126 x3 σ))
def fFi_judge_L45 (x3 x4 : Int) (σ : KM) : Option ((Int × KM) ⊕ (Int × KM)) := kIter (fun s => fFi_judge_B45 x3 s.1 s.2) kF (x4, σ)
def fFi_judge_J41 (x3 t0 t1 : Int) (σ : KM) : Option ((Int × KM) ⊕ (Int × KM)) :=
  kWz σ 35 48 t1 t0 fun τ1 =>
  fFi_judge_L45 x3 0 τ1
def fFi_judge_J40 (x3 t0 : Int) (σ : KM) : Option ((Int × KM) ⊕ (Int × KM)) :=
  fFi_judge_J41 x3 0 t0 σ
def fFi_judge_B10 (x3 : Int) (σ : KM) : Option ((Int × KM) ⊕ (Int × KM)) :=
  kLt x3 (σ 8 1)
    (kLt 0 x3
       (kRd σ 25 49 x3 fun y1 =>
        kEq y1 0
          (fFi_judge_J41 x3 1 x3 σ)
          (fFi_judge_J40 x3 x3 σ))
       (fFi_judge_J40 x3 x3 σ))
    (kExit (fFi_judge_J132 σ))
def fFi_judge_L10 (x3 : Int) (σ : KM) : Option (Int × KM) := kIter (fun s => fFi_judge_B10 s.1 s.2) kF (x3, σ)
def fFi_judge (σ : KM) : Option (Int × KM) :=
  kWf σ 8 1 (σ 5 2) fun τ1 =>
  fFi_judge_L10 0 τ1
def fFi_findLeast_J138 (t0 : Int) (σ : KM) : Option (Int × KM) :=
  kWfz σ 8 7 t0 fun τ1 =>
  kRetI 0 τ1
def fFi_findLeast_J123 (σ : KM) : Option (Int × KM) :=
  kLt (σ 8 8) 1000000000
    (fFi_findLeast_J138 1 σ)
    (fFi_findLeast_J138 0 σ)
def fFi_findLeast_J117 (x1 : Int) (σ : KM) : Option ((Int × KM) ⊕ (Int × KM)) :=
  kLet (x1 + 1) fun y1 =>
  some (.inl (y1, σ))
def fFi_findLeast_B35 (x1 : Int) (σ : KM) : Option ((Int × KM) ⊕ (Int × KM)) :=
  kLt x1 24
    (kLt 0 (σ 8 1)
       (kRd σ 37 1152 x1 fun y1 =>
        kLt y1 (σ 8 8)
          (kRd σ 37 1152 x1 fun y6 =>
           kWf σ 8 8 y6 fun τ7 =>
           kRd τ7 38 1152 x1 fun y8 =>
           kWf τ7 8 9 y8 fun τ9 =>
           fFi_findLeast_J117 x1 τ9)
          (kRd σ 37 1152 x1 fun y2 =>
           kEq y2 (σ 8 8)
             (kRd σ 38 1152 x1 fun y3 =>
              kMn 1000000 ((σ 8 9) + y3) fun y4 =>
              kWf σ 8 9 y4 fun τ5 =>
              fFi_findLeast_J117 x1 τ5)
             (fFi_findLeast_J117 x1 σ)))
       (kExit (fFi_findLeast_J123 σ)))
    (kExit (fFi_findLeast_J123 σ))
def fFi_findLeast_L35 (x1 : Int) (σ : KM) : Option (Int × KM) := kIter (fun s => fFi_findLeast_B35 s.1 s.2) kF (x1, σ)
def fFi_findLeast_J30 (t0 : Int) (σ : KM) : Option (Int × KM) :=
  kWf σ 8 9 t0 fun τ1 =>
  fFi_findLeast_L35 0 τ1
def fFi_findLeast_J14 (t0 : Int) (σ : KM) : Option (Int × KM) :=
  kWf σ 8 8 t0 fun τ1 =>
  kEq (τ1 8 1) 0
    (fFi_findLeast_J30 1 τ1)
    (fFi_findLeast_J30 0 τ1)
def fFi_findLeast (σ : KM) : Option (Int × KM) :=
  kEq (σ 8 1) 0
    (fFi_findLeast_J14 0 σ)
    (fFi_findLeast_J14 1000000000 σ)
def fFi_splitSegments_J69 (σ : KM) : Option (Int × KM) :=
  kRetI 0 σ
def fFi_splitSegments_J63 (x1 : Int) (σ : KM) : Option ((Int × KM) ⊕ (Int × KM)) :=
  kLet (x1 + 1) fun y1 =>
  some (.inl (y1, σ))
def fFi_splitSegments_J43 (x1 : Int) (σ : KM) : Option ((Int × KM) ⊕ (Int × KM)) :=
  kWr σ 40 48 (σ 8 12) x1 fun τ1 =>
  kWf τ1 8 12 ((τ1 8 12) + 1) fun τ2 =>
  fFi_splitSegments_J63 x1 τ2
def fFi_splitSegments_B7 (x1 : Int) (σ : KM) : Option ((Int × KM) ⊕ (Int × KM)) :=
  kLt x1 (σ 8 1)
    (kEq (σ 8 7) 0
       (kExit (fFi_splitSegments_J69 σ))
       (kEq x1 0
          (fFi_splitSegments_J43 x1 σ)
          (kRd σ 39 48 x1 fun y1 =>
           kRd σ 39 48 (x1 - 1) fun y2 =>
           kEq y1 y2
             (fFi_splitSegments_J63 x1 σ)
             (fFi_splitSegments_J43 x1 σ))))
    (kExit (fFi_splitSegments_J69 σ))
def fFi_splitSegments_L7 (x1 : Int) (σ : KM) : Option (Int × KM) := kIter (fun s => fFi_splitSegments_B7 s.1 s.2) kF (x1, σ)
def fFi_splitSegments (σ : KM) : Option (Int × KM) :=
  kWf σ 8 12 0 fun τ1 =>
  fFi_splitSegments_L7 0 τ1
def fFi_nextKey_J93 (x2 : Int) (σ : KM) : Option (Int × KM) :=
  kRetI x2 σ
def fFi_nextKey_J84 (x5 : Int) (σ : KM) : Option (Int × KM) :=
  kRetI x5 σ
def fFi_nextKey_B47 (x1 x2 x4 x5 : Int) (σ : KM) : Option ((Int × KM) ⊕ (Int × KM)) :=
  kLt x5 24
    (kRd σ 37 1152 ((x1 * 24) + x5) fun y1 =>
     kRd σ 36 576 ((x2 * 24) + x5) fun y2 =>
     kEq (y1 + y2) x4
       (kExit (fFi_nextKey_J84 x5 σ))
       (kLet (x5 + 1) fun y3 =>
        some (.inl (y3, σ))))
    (kExit (fFi_nextKey_J93 x2 σ))
def fFi_nextKey_L47 (x1 x2 x4 x5 : Int) (σ : KM) : Option (Int × KM) := kIter (fun s => fFi_nextKey_B47 x1 x2 x4 s.1 s.2) kF (x5, σ)
def fFi_nextKey (x1 : Int) (σ : KM) : Option (Int × KM) :=
  kRd σ 39 48 (x1 - 1) fun y1 =>
  kRd σ 35 48 x1 fun y2 =>
  kEq y2 0
    (kLet (((x1 - 1) * 24) + y1) fun y3 =>
     kRd σ 37 1152 y3 fun y4 =>
     kRd σ 34 1152 y3 fun y5 =>
     kLet (y4 - y5) fun y6 =>
     fFi_nextKey_L47 x1 y1 y6 0 σ)
    (kRetI y1 σ)
def fFi_firstKey_J29 (σ : KM) : Option (Int × KM) :=
  kRetI 0 σ
def fFi_firstKey_J21 (x1 : Int) (σ : KM) : Option (Int × KM) :=
  kRetI x1 σ
def fFi_firstKey_B2 (x1 : Int) (σ : KM) : Option ((Int × KM) ⊕ (Int × KM)) :=
  kLt x1 24
    (kRd σ 37 1152 x1 fun y1 =>
     kEq y1 (σ 8 8)
       (kExit (fFi_firstKey_J21 x1 σ))
       (kLet (x1 + 1) fun y2 =>
        some (.inl (y2, σ))))
    (kExit (fFi_firstKey_J29 σ))
def fFi_firstKey_L2 (x1 : Int) (σ : KM) : Option (Int × KM) := kIter (fun s => fFi_firstKey_B2 s.1 s.2) kF (x1, σ)
def fFi_firstKey (σ : KM) : Option (Int × KM) :=
  fFi_firstKey_L2 0 σ
def fFi_follow_J38 (σ : KM) : Option (Int × KM) :=
  kRetI 0 σ
def fFi_follow_J31 (x1 t0 t1 : Int) (σ : KM) : Option ((Int × KM) ⊕ (Int × KM)) :=
  kWr σ 39 48 t1 t0 fun τ1 =>
  kLet (x1 + 1) fun y2 =>
  some (.inl (y2, τ1))
def fFi_follow_B2 (x1 : Int) (σ : KM) : Option ((Int × KM) ⊕ (Int × KM)) :=
  kLt x1 (σ 8 1)
    (kEq x1 0
       (kCall (fFi_firstKey σ) fun r4 τ3 =>
        fFi_follow_J31 x1 r4 x1 τ3)
       (kCall (fFi_nextKey x1 σ) fun r2 τ1 =>
        fFi_follow_J31 x1 r2 x1 τ1))
    (kExit (fFi_follow_J38 σ))
def fFi_follow_L2 (x1 : Int) (σ : KM) : Option (Int × KM) := kIter (fun s => fFi_follow_B2 s.1 s.2) kF (x1, σ)
def fFi_follow (σ : KM) : Option (Int × KM) :=
  fFi_follow_L2 0 σ
def fP_plus (x0 x1 : Int) (σ : KM) : Option (Int × KM) :=
  kMn 1000000000 (x0 + x1) fun y1 =>
  kRetI y1 σ
def fFi_lookBehind_J47 (σ : KM) : Option (Int × KM) :=
  kRetI 0 σ
def fFi_lookBehind_J208 (x3 x5 x6 : Int) (σ : KM) : Option (Int × KM) :=
  kRd σ 34 1152 x3 fun y1 =>
  kCall (fP_plus y1 x5 σ) fun r3 τ2 =>
  kWr τ2 37 1152 x3 r3 fun τ4 =>
  kWr τ4 38 1152 x3 x6 fun τ5 =>
  kRetI 0 τ5
def fFi_lookBehind_J202 (x2 x3 x4 x5 x6 x7 : Int) (σ : KM) : Option ((Int × Int × Int × KM) ⊕ (Int × KM)) :=
  kLet (x7 + 1) fun y1 =>
  some (.inl (x5, x6, y1, σ))
def fFi_lookBehind_B117 (x2 x3 x4 x5 x6 x7 : Int) (σ : KM) : Option ((Int × Int × Int × KM) ⊕ (Int × KM)) :=
  kLt x7 24
    (kRd σ 37 1152 (x4 + x7) fun y1 =>
     kRd σ 36 576 ((x2 * 24) + x7) fun y2 =>
     kLet (y1 + y2) fun y3 =>
     kLt y3 x5
       (kRd σ 38 1152 (x4 + x7) fun y6 =>
        fFi_lookBehind_J202 x2 x3 x4 y3 y6 x7 σ)
       (kEq y3 x5
          (kRd σ 38 1152 (x4 + x7) fun y4 =>
           kMn 1000000 (x6 + y4) fun y5 =>
           fFi_lookBehind_J202 x2 x3 x4 x5 y5 x7 σ)
          (fFi_lookBehind_J202 x2 x3 x4 x5 x6 x7 σ)))
    (kExit (fFi_lookBehind_J208 x3 x5 x6 σ))
def fFi_lookBehind_L117 (x2 x3 x4 x5 x6 x7 : Int) (σ : KM) : Option (Int × KM) := kIter (fun s => fFi_lookBehind_B117 x2 x3 x4 s.1 s.2.1 s.2.2.1 s.2.2.2) kF (x5, x6, x7, σ)
def fFi_lookBehind (x1 x2 : Int) (σ : KM) : Option (Int × KM) :=
  kLet ((x1 * 24) + x2) fun y1 =>
  kRd σ 34 1152 y1 fun y2 =>
  kWr σ 37 1152 y1 y2 fun τ3 =>
  kWr τ3 38 1152 y1 1 fun τ4 =>
  kRd τ4 34 1152 y1 fun y5 =>
  kLt y5 1000000000
    (kEq x1 ((τ4 8 1) - 1)
       (fFi_lookBehind_J47 τ4)
       (kRd τ4 35 48 (x1 + 1) fun y6 =>
        kEq y6 0
          (kLet ((x1 + 1) * 24) fun y7 =>
           fFi_lookBehind_L117 x2 y1 y7 1000000000 0 0 τ4)
          (kRd τ4 34 1152 y1 fun y8 =>
           kRd τ4 37 1152 (y1 + 24) fun y9 =>
           kCall (fP_plus y8 y9 τ4) fun r11 τ10 =>
           kWr τ10 37 1152 y1 r11 fun τ12 =>
           kRd τ12 38 1152 (y1 + 24) fun y13 =>
           kWr τ12 38 1152 y1 y13 fun τ14 =>
           kRetI 0 τ14)))
    (fFi_lookBehind_J47 τ4)
def fFi_solve_J84 (σ : KM) : Option (Int × KM) :=
  kCall (fFi_splitSegments σ) fun _ τ1 =>
  kRetI 0 τ1
def fFi_solve_J69 (σ : KM) : Option (Int × KM) :=
  kCall (fFi_findLeast σ) fun _ τ1 =>
  kEq (τ1 8 7) 0
    (fFi_solve_J84 τ1)
    (kCall (fFi_follow τ1) fun _ τ2 =>
     fFi_solve_J84 τ2)
def fFi_solve_J63 (x3 : Int) (σ : KM) : Option ((Int × KM) ⊕ (Int × KM)) :=
  kLet (x3 + (-1)) fun y1 =>
  some (.inl (y1, σ))
def fFi_solve_B43 (x3 x4 : Int) (σ : KM) : Option ((Int × KM) ⊕ ((Int × KM) ⊕ (Int × KM))) :=
  kLt x4 24
    (kCall (fFi_lookBehind x3 x4 σ) fun _ τ1 =>
     kLet (x4 + 1) fun y2 =>
     some (.inl (y2, τ1)))
    (kExit (fFi_solve_J63 x3 σ))
def fFi_solve_L43 (x3 x4 : Int) (σ : KM) : Option ((Int × KM) ⊕ (Int × KM)) := kIter (fun s => fFi_solve_B43 x3 s.1 s.2) kF (x4, σ)
def fFi_solve_B36 (x3 : Int) (σ : KM) : Option ((Int × KM) ⊕ (Int × KM)) :=
  kLt x3 0
    (kExit (fFi_solve_J69 σ))
    (fFi_solve_L43 x3 0 σ)
def fFi_solve_L36 (x3 : Int) (σ : KM) : Option (Int × KM) := kIter (fun s => fFi_solve_B36 s.1 s.2) kF (x3, σ)
def fFi_solve_J29 (σ : KM) : Option (Int × KM) :=
  kLet ((σ 8 1) - 1) fun y1 =>
  fFi_solve_L36 y1 σ
def fFi_solve_B2 (x2 x3 : Int) (σ : KM) : Option ((Int × KM) ⊕ (Int × KM)) :=
  kLt x3 576
    (kRd σ 30 576 x3 fun y1 =>
     kWr σ 36 576 x3 (x2 * y1) fun τ2 =>
     kLet (x3 + 1) fun y3 =>
     some (.inl (y3, τ2)))
    (kExit (fFi_solve_J29 σ))
def fFi_solve_L2 (x2 x3 : Int) (σ : KM) : Option (Int × KM) := kIter (fun s => fFi_solve_B2 x2 s.1 s.2) kF (x3, σ)
def fFi_solve (x2 : Int) (σ : KM) : Option (Int × KM) :=
  fFi_solve_L2 x2 0 σ
def fDe_forget (σ : KM) : Option (Int × KM) :=
  kWfz σ 9 1 0 fun τ1 =>
  kWfz τ1 9 4 0 fun τ2 =>
  kRetI 0 τ2
def fP_noPath_J92 (t0 : Int) (σ : KM) : Option (Int × KM) :=
  kRetZ t0 σ
def fP_noPath_J77 (σ : KM) : Option (Int × KM) :=
  kEq (σ 8 7) 0
    (fP_noPath_J92 1 σ)
    (fP_noPath_J92 0 σ)
def fP_noPath (σ : KM) : Option (Int × KM) :=
  kEq (σ 8 13) 0
    (fP_noPath_J77 σ)
    (kCall (fP_freshFits σ) fun _ τ1 =>
     kCall (fNe_refresh τ1) fun _ τ2 =>
     kCall (fFi_judge τ2) fun _ τ3 =>
     kCall (fFi_solve (τ3 7 3) τ3) fun _ τ4 =>
     kWfz τ4 8 13 0 fun τ5 =>
     kWfz τ5 8 14 0 fun τ6 =>
     kCall (fDe_forget τ6) fun _ τ7 =>
     fP_noPath_J77 τ7)
def fWi_lastSounding_J27 (x1 : Int) (σ : KM) : Option (Int × KM) :=
  kRetI x1 σ
def fWi_lastSounding_B7 (x1 : Int) (σ : KM) : Option ((Int × KM) ⊕ (Int × KM)) :=
  kLt x1 0
    (kExit (fWi_lastSounding_J27 x1 σ))
    (kRd σ 26 48 x1 fun y1 =>
     kEq y1 (-1)
       (kLet (x1 + (-1)) fun y2 =>
        some (.inl (y2, σ)))
       (kExit (fWi_lastSounding_J27 x1 σ)))
def fWi_lastSounding_L7 (x1 : Int) (σ : KM) : Option (Int × KM) := kIter (fun s => fWi_lastSounding_B7 s.1 s.2) kF (x1, σ)
def fWi_lastSounding (σ : KM) : Option (Int × KM) :=
  kLet ((σ 5 2) - 1) fun y1 =>
  fWi_lastSounding_L7 y1 σ
def fP_degreeOn_J48 (σ : KM) : Option (Int × KM) :=
  kRetI (-1) σ
def fP_degreeOn_J38 (x3 : Int) (σ : KM) : Option (Int × KM) :=
  kRetI (x3 + 1) σ
def fP_degreeOn_B15 (x1 x2 x3 : Int) (σ : KM) : Option ((Int × KM) ⊕ (Int × KM)) :=
  kLt x3 7
    (kCall (fP_modeOf x1 σ) fun r2 τ1 =>
     kRs 0 14 ((r2 * 7) + x3) fun y3 =>
     kEq y3 x2
       (kExit (fP_degreeOn_J38 x3 τ1))
       (kLet (x3 + 1) fun y4 =>
        some (.inl (y4, τ1))))
    (kExit (fP_degreeOn_J48 σ))
def fP_degreeOn_L15 (x1 x2 x3 : Int) (σ : KM) : Option (Int × KM) := kIter (fun s => fP_degreeOn_B15 x1 x2 s.1 s.2) kF (x3, σ)
def fP_degreeOn (x0 x1 : Int) (σ : KM) : Option (Int × KM) :=
  kRm x1 12 fun y1 =>
  kRm ((x0 + 12) - y1) 12 fun y2 =>
  fP_degreeOn_L15 x1 y2 0 σ
def fP_degreeOf_J72 (t0 : Int) (σ : KM) : Option (Int × KM) :=
  kRetI t0 σ
def fP_degreeOf_J67 (x3 : Int) (σ : KM) : Option (Int × KM) :=
  fP_degreeOf_J72 x3 σ
def fP_degreeOf_J41 (x1 x2 x3 t0 : Int) (σ : KM) : Option (Int × KM) :=
  kEq t0 0
    (kCall (fP_modeOf x1 σ) fun r2 τ1 =>
     kRs 1 14 (((r2 * 7) + x3) - 1) fun y3 =>
     kEq y3 x2
       (fP_degreeOf_J67 x3 τ1)
       (fP_degreeOf_J72 (-1) τ1))
    (fP_degreeOf_J67 x3 σ)
def fP_degreeOf_J40 (x1 x2 x3 : Int) (σ : KM) : Option (Int × KM) :=
  fP_degreeOf_J41 x1 x2 x3 0 σ
def fP_degreeOf (x0 x1 : Int) (σ : KM) : Option (Int × KM) :=
  kRm x0 3 fun y1 =>
  kDv x0 3 fun y2 =>
  kCall (fP_degreeOn y2 x1 σ) fun r4 τ3 =>
  kEq r4 (-1)
    (kRetI (-1) τ3)
    (kCall (fP_modeOf x1 τ3) fun r6 τ5 =>
     kEq r6 1
       (kEq r4 5
          (kEq y1 0
             (fP_degreeOf_J41 x1 y1 r4 1 τ5)
             (fP_degreeOf_J40 x1 y1 r4 τ5))
          (fP_degreeOf_J40 x1 y1 r4 τ5))
       (fP_degreeOf_J40 x1 y1 r4 τ5))
def fP_romanOf_J32 (t0 : Int) (σ : KM) : Option (Int × KM) :=
  kRetI t0 σ
def fP_romanOf (x1 : Int) (σ : KM) : Option (Int × KM) :=
  kRd σ 26 48 x1 fun y1 =>
  kEq y1 (-1)
    (fP_romanOf_J32 (-1) σ)
    (kRd σ 39 48 x1 fun y2 =>
     kCall (fP_degreeOf y1 y2 σ) fun r4 τ3 =>
     fP_romanOf_J32 r4 τ3)
def fWi_otherChordAhead_J42 (σ : KM) : Option (Int × KM) :=
  kRetI (-1) σ
def fWi_otherChordAhead_J36 (x1 x2 x3 : Int) (σ : KM) : Option ((Int × KM) ⊕ (Int × KM)) :=
  kLet (x3 + (-1)) fun y1 =>
  some (.inl (y1, σ))
def fWi_otherChordAhead_J34 (x3 : Int) (σ : KM) : Option (Int × KM) :=
  kRetI x3 σ
def fWi_otherChordAhead_B4 (x1 x2 x3 : Int) (σ : KM) : Option ((Int × KM) ⊕ (Int × KM)) :=
  kLt x3 x2
    (kExit (fWi_otherChordAhead_J42 σ))
    (kRd σ 26 48 x3 fun y1 =>
     kEq y1 (-1)
       (fWi_otherChordAhead_J36 x1 x2 x3 σ)
       (kRd σ 26 48 x3 fun y2 =>
        kRd σ 26 48 x1 fun y3 =>
        kEq y2 y3
          (fWi_otherChordAhead_J36 x1 x2 x3 σ)
          (kExit (fWi_otherChordAhead_J34 x3 σ))))
def fWi_otherChordAhead_L4 (x1 x2 x3 : Int) (σ : KM) : Option (Int × KM) := kIter (fun s => fWi_otherChordAhead_B4 x1 x2 s.1 s.2) kF (x3, σ)
def fWi_otherChordAhead (x1 x2 : Int) (σ : KM) : Option (Int × KM) :=
  kLet (x1 - 1) fun y1 =>
  fWi_otherChordAhead_L4 x1 x2 y1 σ
def fP_close_J58 (σ : KM) : Option (Int × KM) :=
  kRetI 0 σ
def fP_close_J90 (t0 : Int) (σ : KM) : Option (Int × KM) :=
  kRetI t0 σ
def fP_close (σ : KM) : Option (Int × KM) :=
  kCall (fP_noPath σ) fun r2 τ1 =>
  kEq r2 0
    (kCall (fWi_lastSounding τ1) fun r4 τ3 =>
     kEq r4 (-1)
       (kRetI (-1) τ3)
       (kCall (fP_romanOf r4 τ3) fun r6 τ5 =>
        kEq r6 5
          (kRetI 1 τ5)
          (kCall (fWi_otherChordAhead r4 0 τ5) fun r8 τ7 =>
           kEq r6 1
             (kEq r8 (-1)
                (fP_close_J58 τ7)
                (kRd τ7 26 48 r8 fun y9 =>
                 kRd τ7 39 48 r4 fun y10 =>
                 kCall (fP_degreeOf y9 y10 τ7) fun r12 τ11 =>
                 kEq r12 5
                   (fP_close_J90 2 τ11)
                   (fP_close_J90 0 τ11)))
             (fP_close_J58 τ7))))
    (kRetI (-5) τ1)
def fFi_lastOf_J29 (t0 : Int) (σ : KM) : Option (Int × KM) :=
  kRetI t0 σ
def fFi_lastOf (x1 : Int) (σ : KM) : Option (Int × KM) :=
  kLt (x1 + 1) (σ 8 12)
    (kRd σ 40 48 (x1 + 1) fun y1 =>
     fFi_lastOf_J29 (y1 - 1) σ)
    (fFi_lastOf_J29 ((σ 8 1) - 1) σ)
def fP_confirmed_J25 (σ : KM) : Option (Int × KM) :=
  kRetI (-2) σ
def fP_confirmed_J103 (σ : KM) : Option (Int × KM) :=
  kRetI (-1) σ
def fP_confirmed_J97 (x2 x3 x4 : Int) (σ : KM) : Option ((Int × KM) ⊕ (Int × KM)) :=
  kLet (x4 + 1) fun y1 =>
  some (.inl (y1, σ))
def fP_confirmed_J94 (x4 : Int) (σ : KM) : Option (Int × KM) :=
  kRetI x4 σ
def fP_confirmed_B50 (x2 x3 x4 : Int) (σ : KM) : Option ((Int × KM) ⊕ (Int × KM)) :=
  kLt x3 x4
    (kExit (fP_confirmed_J103 σ))
    (kCall (fWi_otherChordAhead x4 x2 σ) fun r2 τ1 =>
     kCall (fP_romanOf x4 τ1) fun r4 τ3 =>
     kEq r4 1
       (kEq r2 (-1)
          (fP_confirmed_J97 x2 x3 x4 τ3)
          (kCall (fP_romanOf r2 τ3) fun r6 τ5 =>
           kEq r6 5
             (kExit (fP_confirmed_J94 x4 τ5))
             (fP_confirmed_J97 x2 x3 x4 τ5)))
       (fP_confirmed_J97 x2 x3 x4 τ3))
def fP_confirmed_L50 (x2 x3 x4 : Int) (σ : KM) : Option (Int × KM) := kIter (fun s => fP_confirmed_B50 x2 x3 s.1 s.2) kF (x4, σ)
def fP_confirmed (x1 : Int) (σ : KM) : Option (Int × KM) :=
  kCall (fP_noPath σ) fun r2 τ1 =>
  kEq r2 0
    (kLt x1 0
       (fP_confirmed_J25 τ1)
       (kLt x1 (τ1 8 12)
          (kRd τ1 40 48 x1 fun y3 =>
           kCall (fFi_lastOf x1 τ1) fun r5 τ4 =>
           fP_confirmed_L50 y3 r5 y3 τ4)
          (fP_confirmed_J25 τ1)))
    (kRetI (-5) τ1)
def fP_cost_J19 (t0 : Int) (σ : KM) : Option (Int × KM) :=
  kRetI t0 σ
def fP_cost (σ : KM) : Option (Int × KM) :=
  kCall (fP_noPath σ) fun r2 τ1 =>
  kEq r2 0
    (fP_cost_J19 (τ1 8 8) τ1)
    (fP_cost_J19 (-5) τ1)
def fWi_silentOnes_J30 (x1 : Int) (σ : KM) : Option (Int × KM) :=
  kRetI x1 σ
def fWi_silentOnes_J24 (x1 x2 : Int) (σ : KM) : Option ((Int × Int × KM) ⊕ (Int × KM)) :=
  kLet (x2 + 1) fun y1 =>
  some (.inl (x1, y1, σ))
def fWi_silentOnes_B4 (x1 x2 : Int) (σ : KM) : Option ((Int × Int × KM) ⊕ (Int × KM)) :=
  kLt x2 (σ 5 2)
    (kRd σ 25 49 x2 fun y1 =>
     kEq y1 0
       (kLet (x1 + 1) fun y2 =>
        fWi_silentOnes_J24 y2 x2 σ)
       (fWi_silentOnes_J24 x1 x2 σ))
    (kExit (fWi_silentOnes_J30 x1 σ))
def fWi_silentOnes_L4 (x1 x2 : Int) (σ : KM) : Option (Int × KM) := kIter (fun s => fWi_silentOnes_B4 s.1 s.2.1 s.2.2) kF (x1, x2, σ)
def fWi_silentOnes (σ : KM) : Option (Int × KM) :=
  fWi_silentOnes_L4 0 0 σ
def fP_count (x1 : Int) (σ : KM) : Option (Int × KM) :=
  kCall (fP_freshWindows σ) fun _ τ1 =>
  kSw x1 0 [
    kRetI (τ1 3 3) τ1,
    kRetI (τ1 5 2) τ1,
    kCall (fNo_end τ1) fun r3 τ2 =>
    kRetI r3 τ2,
    kRetI (τ1 4 5) τ1,
    kRetI (τ1 1 1) τ1,
    kRetI (τ1 5 0) τ1,
    kRetI (τ1 5 1) τ1,
    kCall (fWi_silentOnes τ1) fun r5 τ4 =>
    kRetI r5 τ4,
    kRetI (τ1 7 0) τ1,
    kRetI (τ1 7 1) τ1,
    kRetI (τ1 7 2) τ1,
    kRetI (τ1 7 3) τ1
    ]
    (kRetI (-1) τ1)
def fP_outOf_J15 (t0 : Int) (σ : KM) : Option (Int × KM) :=
  kRetZ t0 σ
def fP_outOf_J10 (σ : KM) : Option (Int × KM) :=
  fP_outOf_J15 1 σ
def fP_outOf (x0 x1 x2 : Int) (σ : KM) : Option (Int × KM) :=
  kLt x2 x0
    (fP_outOf_J10 σ)
    (kLt x1 x2
       (fP_outOf_J10 σ)
       (fP_outOf_J15 0 σ))
def fP_noKey (x0 : Int) (σ : KM) : Option (Int × KM) :=
  kCall (fP_outOf 0 23 x0 σ) fun r2 τ1 =>
  kRetZ r2 τ1
def fP_degree_J17 (σ : KM) : Option (Int × KM) :=
  kRetI (-2) σ
def fP_degree (x1 x2 : Int) (σ : KM) : Option (Int × KM) :=
  kCall (fP_outOf 0 35 x1 σ) fun r2 τ1 =>
  kEq r2 0
    (kCall (fP_noKey x2 τ1) fun r4 τ3 =>
     kEq r4 0
       (kCall (fP_degreeOf x1 x2 τ3) fun r6 τ5 =>
        kRetI r6 τ5)
       (fP_degree_J17 τ3))
    (fP_degree_J17 τ1)
def fP_distance_J14 (σ : KM) : Option (Int × KM) :=
  kRetI (-2) σ
def fP_distance (x1 x2 : Int) (σ : KM) : Option (Int × KM) :=
  kCall (fP_noKey x1 σ) fun r2 τ1 =>
  kEq r2 0
    (kCall (fP_noKey x2 τ1) fun r4 τ3 =>
     kEq r4 0
       (kCall (fNe_refresh τ3) fun _ τ5 =>
        kRd τ5 30 576 ((x1 * 24) + x2) fun y6 =>
        kRetI ((τ5 7 3) * y6) τ5)
       (fP_distance_J14 τ3))
    (fP_distance_J14 τ1)
def fHi_forgetOldest (σ : KM) : Option (Int × KM) :=
  kWf σ 4 5 9 fun τ1 =>
  kCpy τ1 19 10 1 19 10 0 (τ1 4 5) fun τ2 =>
  kCpy τ2 20 10 1 20 10 0 (τ2 4 5) fun τ3 =>
  kCpy τ3 21 10 1 21 10 0 (τ3 4 5) fun τ4 =>
  kCpy τ4 22 10 1 22 10 0 (τ4 4 5) fun τ5 =>
  kCpy τ5 23 10 1 23 10 0 (τ5 4 5) fun τ6 =>
  kRetI 0 τ6
def fHi_remember_J13 (x1 x2 x3 x4 x5 : Int) (σ : KM) : Option (Int × KM) :=
  kWr σ 19 10 (σ 4 5) x1 fun τ1 =>
  kWr τ1 20 10 (τ1 4 5) x2 fun τ2 =>
  kWr τ2 21 10 (τ2 4 5) x3 fun τ3 =>
  kWr τ3 22 10 (τ3 4 5) x4 fun τ4 =>
  kWr τ4 23 10 (τ4 4 5) x5 fun τ5 =>
  kWf τ5 4 5 ((τ5 4 5) + 1) fun τ6 =>
  kRetI 0 τ6
def fHi_remember (x1 x2 x3 x4 x5 : Int) (σ : KM) : Option (Int × KM) :=
  kLt (σ 4 5) 10
    (fHi_remember_J13 x1 x2 x3 x4 x5 σ)
    (kCall (fHi_forgetOldest σ) fun _ τ1 =>
     fHi_remember_J13 x1 x2 x3 x4 x5 τ1)
def fNo_remove_J12 (σ : KM) : Option (Int × KM) :=
  kRetI 0 σ
def fNo_remove (x1 : Int) (σ : KM) : Option (Int × KM) :=
  kLt x1 0
    (fNo_remove_J12 σ)
    (kLt x1 (σ 3 3)
       (kLet (((σ 3 3) - x1) - 1) fun y1 =>
        kCpy σ 16 100 (x1 + 1) 16 100 x1 y1 fun τ2 =>
        kCpy τ2 17 100 (x1 + 1) 17 100 x1 y1 fun τ3 =>
        kCpy τ3 18 100 (x1 + 1) 18 100 x1 y1 fun τ4 =>
        kWf τ4 3 3 ((τ4 3 3) - 1) fun τ5 =>
        kRetI 0 τ5)
       (fNo_remove_J12 σ))
def fP_pathChanged (σ : KM) : Option (Int × KM) :=
  kWfz σ 8 13 1 fun τ1 =>
  kRetI 0 τ1
def fP_weightsChanged (σ : KM) : Option (Int × KM) :=
  kWfz σ 6 3 1 fun τ1 =>
  kCall (fP_pathChanged τ1) fun _ τ2 =>
  kRetI 0 τ2
def fP_notesChanged (σ : KM) : Option (Int × KM) :=
  kWfz σ 5 6 1 fun τ1 =>
  kCall (fP_weightsChanged τ1) fun _ τ2 =>
  kRetI 0 τ2
def fP_drop_J15 (σ : KM) : Option (Int × KM) :=
  kRetI (-2) σ
def fP_drop (x1 : Int) (σ : KM) : Option (Int × KM) :=
  kLt x1 0
    (fP_drop_J15 σ)
    (kLt x1 (σ 3 3)
       (kRd σ 16 100 x1 fun y1 =>
        kRd σ 17 100 x1 fun y2 =>
        kRd σ 18 100 x1 fun y3 =>
        kCall (fHi_remember 1 x1 y1 y2 y3 σ) fun _ τ4 =>
        kCall (fNo_remove x1 τ4) fun _ τ5 =>
        kCall (fP_notesChanged τ5) fun _ τ6 =>
        kRetI (τ6 3 3) τ6)
       (fP_drop_J15 σ))
def fP_fault_J28 (t0 : Int) (σ : KM) : Option (Int × KM) :=
  kRetI t0 σ
def fP_fault (x1 : Int) (σ : KM) : Option (Int × KM) :=
  kEq x1 0
    (kRetI (σ 1 3) σ)
    (kEq x1 1
       (fP_fault_J28 (σ 1 4) σ)
       (fP_fault_J28 (-1) σ))
def fTR_append_J49 (σ : KM) : Option (Int × KM) :=
  kRetI 0 σ
def fTR_append_B3 (x1 x2 : Int) (σ : KM) : Option ((Int × KM) ⊕ (Int × KM)) :=
  kLt x2 0
    (kExit (fTR_append_J49 σ))
    (kLt (σ 1 1) 700
       (kUsh x1 x2 fun y1 =>
        kAnd y1 255 fun y2 =>
        kWr σ 11 700 (σ 1 1) y2 fun τ3 =>
        kWf τ3 1 1 ((τ3 1 1) + 1) fun τ4 =>
        kLet (x2 + (-8)) fun y5 =>
        some (.inl (y5, τ4)))
       (kExit (fTR_append_J49 σ)))
def fTR_append_L3 (x1 x2 : Int) (σ : KM) : Option (Int × KM) := kIter (fun s => fTR_append_B3 x1 s.1 s.2) kF (x2, σ)
def fTR_append (x1 : Int) (σ : KM) : Option (Int × KM) :=
  fTR_append_L3 x1 24 σ
def fP_feed (x1 x2 x3 x4 x5 : Int) (σ : KM) : Option (Int × KM) :=
  kLt 680 (σ 1 1)
    (kRetI (-4) σ)
    (kCall (fTR_append x1 σ) fun _ τ1 =>
     kCall (fTR_append x2 τ1) fun _ τ2 =>
     kCall (fTR_append x3 τ2) fun _ τ3 =>
     kCall (fTR_append x4 τ3) fun _ τ4 =>
     kCall (fTR_append x5 τ4) fun _ τ5 =>
     kRetI (τ5 1 1) τ5)
def fFi_isFirm_J19 (t0 : Int) (σ : KM) : Option (Int × KM) :=
  kRetZ t0 σ
def fFi_isFirm (x2 : Int) (σ : KM) : Option (Int × KM) :=
  kCall (fFi_solve x2 σ) fun _ τ1 =>
  kLt (τ1 8 12) 2
    (fFi_isFirm_J19 1 τ1)
    (fFi_isFirm_J19 0 τ1)
def fFi_searchFirm_J66 (x3 : Int) (σ : KM) : Option (Int × KM) :=
  kRetI x3 σ
def fFi_searchFirm_J60 (x2 x3 x4 : Int) (σ : KM) : Option ((Int × Int × Int × KM) ⊕ (Int × KM)) :=
  kLet (x4 + 1) fun y1 =>
  some (.inl (x2, x3, y1, σ))
def fFi_searchFirm_B20 (x2 x3 x4 : Int) (σ : KM) : Option ((Int × Int × Int × KM) ⊕ (Int × KM)) :=
  kLt x4 8
    (kLt x2 x3
       (kDv (x2 + x3) 2 fun y1 =>
        kCall (fFi_isFirm y1 σ) fun r3 τ2 =>
        kEq r3 0
          (kLet (y1 + 1) fun y4 =>
           fFi_searchFirm_J60 y4 x3 x4 τ2)
          (fFi_searchFirm_J60 x2 y1 x4 τ2))
       (kExit (fFi_searchFirm_J66 x3 σ)))
    (kExit (fFi_searchFirm_J66 x3 σ))
def fFi_searchFirm_L20 (x2 x3 x4 : Int) (σ : KM) : Option (Int × KM) := kIter (fun s => fFi_searchFirm_B20 s.1 s.2.1 s.2.2.1 s.2.2.2) kF (x2, x3, x4, σ)
def fFi_searchFirm (σ : KM) : Option (Int × KM) :=
  kCall (fFi_isFirm 100 σ) fun r2 τ1 =>
  kEq r2 0
    (kRetI (-1) τ1)
    (fFi_searchFirm_L20 0 100 0 τ1)
def fFi_firmFactor_J30 (σ : KM) : Option (Int × KM) :=
  kRetI (σ 8 15) σ
def fFi_firmFactor (σ : KM) : Option (Int × KM) :=
  kEq (σ 8 14) 0
    (kCall (fFi_searchFirm σ) fun r2 τ1 =>
     kWf τ1 8 15 r2 fun τ3 =>
     kWfz τ3 8 14 1 fun τ4 =>
     kCall (fFi_solve (τ4 7 3) τ4) fun _ τ5 =>
     fFi_firmFactor_J30 τ5)
    (fFi_firmFactor_J30 σ)
def fP_firm_J23 (t0 : Int) (σ : KM) : Option (Int × KM) :=
  kRetI t0 σ
def fP_firm (σ : KM) : Option (Int × KM) :=
  kCall (fP_noPath σ) fun r2 τ1 =>
  kEq r2 0
    (kCall (fFi_firmFactor τ1) fun r4 τ3 =>
     fP_firm_J23 r4 τ3)
    (fP_firm_J23 (-5) τ1)
def fP_fit_J15 (σ : KM) : Option (Int × KM) :=
  kRetI (-2) σ
def fP_fit (x1 x2 : Int) (σ : KM) : Option (Int × KM) :=
  kCall (fP_noWindow x1 σ) fun r2 τ1 =>
  kEq r2 0
    (kCall (fP_noKey x2 τ1) fun r4 τ3 =>
     kEq r4 0
       (kCall (fP_freshFits τ3) fun _ τ5 =>
        kRd τ5 28 1176 ((x1 * 24) + x2) fun y6 =>
        kRetI y6 τ5)
       (fP_fit_J15 τ3))
    (fP_fit_J15 τ1)
def fP_foreign_J15 (σ : KM) : Option (Int × KM) :=
  kRetI (-2) σ
def fP_foreign_J64 (x3 : Int) (σ : KM) : Option (Int × KM) :=
  kRetI x3 σ
def fP_foreign_J58 (x1 x2 x3 x4 : Int) (σ : KM) : Option ((Int × Int × KM) ⊕ (Int × KM)) :=
  kLet (x4 + 1) fun y1 =>
  some (.inl (x3, y1, σ))
def fP_foreign_B23 (x1 x2 x3 x4 : Int) (σ : KM) : Option ((Int × Int × KM) ⊕ (Int × KM)) :=
  kLt x4 12
    (kCall (fP_degreeOn x4 x2 σ) fun r2 τ1 =>
     kEq r2 (-1)
       (kRd τ1 24 588 ((x1 * 12) + x4) fun y3 =>
        kLet (x3 + y3) fun y4 =>
        fP_foreign_J58 x1 x2 y4 x4 τ1)
       (fP_foreign_J58 x1 x2 x3 x4 τ1))
    (kExit (fP_foreign_J64 x3 σ))
def fP_foreign_L23 (x1 x2 x3 x4 : Int) (σ : KM) : Option (Int × KM) := kIter (fun s => fP_foreign_B23 x1 x2 s.1 s.2.1 s.2.2) kF (x3, x4, σ)
def fP_foreign (x1 x2 : Int) (σ : KM) : Option (Int × KM) :=
  kCall (fP_noWindow x1 σ) fun r2 τ1 =>
  kEq r2 0
    (kCall (fP_noKey x2 τ1) fun r4 τ3 =>
     kEq r4 0
       (fP_foreign_L23 x1 x2 0 0 τ3)
       (fP_foreign_J15 τ3))
    (fP_foreign_J15 τ1)
def fP_key_J32 (t0 : Int) (σ : KM) : Option (Int × KM) :=
  kRetI t0 σ
def fP_key (x1 : Int) (σ : KM) : Option (Int × KM) :=
  kCall (fP_noWindow x1 σ) fun r2 τ1 =>
  kEq r2 0
    (kCall (fP_noPath τ1) fun r4 τ3 =>
     kEq r4 0
       (kRd τ3 39 48 x1 fun y5 =>
        fP_key_J32 y5 τ3)
       (fP_key_J32 (-5) τ3))
    (kRetI (-2) τ1)
def fDe_leastOf_44_J27 (x2 : Int) (σ : KM) : Option (Int × KM) :=
  kRetI x2 σ
def fDe_leastOf_44_B5 (x1 x2 x3 : Int) (σ : KM) : Option ((Int × Int × KM) ⊕ (Int × KM)) :=
  kLt x3 24
    (kRd σ 44 1152 (x1 + x3) fun y1 =>
     kMn x2 y1 fun y2 =>
     kLet (x3 + 1) fun y3 =>
     some (.inl (y2, y3, σ)))
    (kExit (fDe_leastOf_44_J27 x2 σ))
def fDe_leastOf_44_L5 (x1 x2 x3 : Int) (σ : KM) : Option (Int × KM) := kIter (fun s => fDe_leastOf_44_B5 x1 s.1 s.2.1 s.2.2) kF (x2, x3, σ)
def fDe_leastOf_44 (x1 : Int) (σ : KM) : Option (Int × KM) :=
  fDe_leastOf_44_L5 x1 1000000000 0 σ
def fDe_cheapestMove_44_J46 (x4 : Int) (σ : KM) : Option (Int × KM) :=
  kRetI x4 σ
def fDe_cheapestMove_44_B7 (x2 x3 x4 x5 : Int) (σ : KM) : Option ((Int × Int × KM) ⊕ (Int × KM)) :=
  kLt x5 24
    (kRd σ 44 1152 (x2 + x5) fun y1 =>
     kRd σ 36 576 ((x5 * 24) + x3) fun y2 =>
     kMn x4 (y1 + y2) fun y3 =>
     kLet (x5 + 1) fun y4 =>
     some (.inl (y3, y4, σ)))
    (kExit (fDe_cheapestMove_44_J46 x4 σ))
def fDe_cheapestMove_44_L7 (x2 x3 x4 x5 : Int) (σ : KM) : Option (Int × KM) := kIter (fun s => fDe_cheapestMove_44_B7 x2 x3 s.1 s.2.1 s.2.2) kF (x4, x5, σ)
def fDe_cheapestMove_44 (x2 x3 : Int) (σ : KM) : Option (Int × KM) :=
  fDe_cheapestMove_44_L7 x2 x3 1000000000 0 σ
def fDe_settle_J132 (x6 x8 : Int) (σ : KM) : Option (Int × KM) :=
  kMn x6 x8 fun y1 =>
  kRetI y1 σ
def fDe_settle_B100 (x3 x4 x6 x8 x9 : Int) (σ : KM) : Option ((Int × Int × KM) ⊕ (Int × KM)) :=
  kLt x3 x9
    (kExit (fDe_settle_J132 x6 x8 σ))
    (kRd σ 34 1152 ((x9 * 24) + x4) fun y1 =>
     kCall (fP_plus x8 y1 σ) fun r3 τ2 =>
     kLet (x9 + 1) fun y4 =>
     some (.inl (r3, y4, τ2)))
def fDe_settle_L100 (x3 x4 x6 x8 x9 : Int) (σ : KM) : Option (Int × KM) := kIter (fun s => fDe_settle_B100 x3 x4 x6 s.1 s.2.1 s.2.2) kF (x8, x9, σ)
def fDe_settle_J96 (x3 x4 x6 x7 x8 : Int) (σ : KM) : Option (Int × KM) :=
  fDe_settle_L100 x3 x4 x6 x8 x7 σ
def fDe_settle_J94 (x3 x4 x6 x7 t0 : Int) (σ : KM) : Option (Int × KM) :=
  fDe_settle_J96 x3 x4 x6 x7 t0 σ
def fDe_settle_J39 (x2 x3 x4 x6 : Int) (σ : KM) : Option (Int × KM) :=
  kLet ((x3 - x2) + 1) fun y1 =>
  kLt y1 0
    (kRetI x6 σ)
    (kLt 0 y1
       (kRd σ 35 48 y1 fun y2 =>
        kEq y2 0
          (kCall (fDe_cheapestMove_44 ((y1 - 1) * 24) x4 σ) fun r4 τ3 =>
           fDe_settle_J94 x3 x4 x6 y1 r4 τ3)
          (fDe_settle_J94 x3 x4 x6 y1 1000000000 σ))
       (fDe_settle_J96 x3 x4 x6 y1 0 σ))
def fDe_settle (x2 x3 x4 : Int) (σ : KM) : Option (Int × KM) :=
  kLet ((x3 * 24) + x4) fun y1 =>
  kLt 0 x3
    (kRd σ 44 1152 (y1 - 24) fun y2 =>
     kRd σ 34 1152 y1 fun y3 =>
     kCall (fP_plus y2 y3 σ) fun r5 τ4 =>
     fDe_settle_J39 x2 x3 x4 r5 τ4)
    (fDe_settle_J39 x2 x3 x4 1000000000 σ)
def fDe_leastLasting_J62 (σ : KM) : Option (Int × KM) :=
  kCall (fDe_leastOf_44 (((σ 8 1) - 1) * 24) σ) fun r2 τ1 =>
  kRetI r2 τ1
def fDe_leastLasting_J56 (x2 x3 : Int) (σ : KM) : Option ((Int × KM) ⊕ (Int × KM)) :=
  kLet (x3 + 1) fun y1 =>
  some (.inl (y1, σ))
def fDe_leastLasting_B22 (x2 x3 x4 : Int) (σ : KM) : Option ((Int × KM) ⊕ ((Int × KM) ⊕ (Int × KM))) :=
  kLt x4 24
    (kCall (fDe_settle x2 x3 x4 σ) fun r2 τ1 =>
     kWr τ1 44 1152 ((x3 * 24) + x4) r2 fun τ3 =>
     kLet (x4 + 1) fun y4 =>
     some (.inl (y4, τ3)))
    (kExit (fDe_leastLasting_J56 x2 x3 σ))
def fDe_leastLasting_L22 (x2 x3 x4 : Int) (σ : KM) : Option ((Int × KM) ⊕ (Int × KM)) := kIter (fun s => fDe_leastLasting_B22 x2 x3 s.1 s.2) kF (x4, σ)
def fDe_leastLasting_B11 (x2 x3 : Int) (σ : KM) : Option ((Int × KM) ⊕ (Int × KM)) :=
  kLt x3 (σ 8 1)
    (fDe_leastLasting_L22 x2 x3 0 σ)
    (kExit (fDe_leastLasting_J62 σ))
def fDe_leastLasting_L11 (x2 x3 : Int) (σ : KM) : Option (Int × KM) := kIter (fun s => fDe_leastLasting_B11 x2 s.1 s.2) kF (x3, σ)
def fDe_leastLasting (x2 : Int) (σ : KM) : Option (Int × KM) :=
  kEq (σ 8 1) 0
    (kRetI 0 σ)
    (fDe_leastLasting_L11 x2 0 σ)
def fP_toldCost_J12 (t0 : Int) (σ : KM) : Option (Int × KM) :=
  kRetI t0 σ
def fP_toldCost (x0 : Int) (σ : KM) : Option (Int × KM) :=
  kLt x0 1000000000
    (fP_toldCost_J12 x0 σ)
    (fP_toldCost_J12 (-1) σ)
def fP_lasting_J40 (t0 : Int) (σ : KM) : Option (Int × KM) :=
  kRetI t0 σ
def fP_lasting (x1 : Int) (σ : KM) : Option (Int × KM) :=
  kCall (fP_outOf 1 16 x1 σ) fun r2 τ1 =>
  kEq r2 0
    (kCall (fP_noPath τ1) fun r4 τ3 =>
     kEq r4 0
       (kCall (fDe_leastLasting x1 τ3) fun r6 τ5 =>
        kCall (fP_toldCost r6 τ5) fun r8 τ7 =>
        fP_lasting_J40 r8 τ7)
       (fP_lasting_J40 (-5) τ3))
    (kRetI (-3) τ1)
def fP_noMode (x0 : Int) (σ : KM) : Option (Int × KM) :=
  kCall (fP_outOf 0 1 x0 σ) fun r2 τ1 =>
  kRetZ r2 τ1
def fP_noTone (x0 : Int) (σ : KM) : Option (Int × KM) :=
  kCall (fP_outOf 0 11 x0 σ) fun r2 τ1 =>
  kRetZ r2 τ1
def fP_learnt_J14 (σ : KM) : Option (Int × KM) :=
  kRetI (-2) σ
def fP_learnt_J129 (t0 : Int) (σ : KM) : Option (Int × KM) :=
  kRetI t0 σ
def fP_learnt_J113 (x3 x4 : Int) (σ : KM) : Option (Int × KM) :=
  kEq x4 0
    (fP_learnt_J129 (-1) σ)
    (kDv (100 * x3) x4 fun y1 =>
     fP_learnt_J129 y1 σ)
def fP_learnt_J107 (x1 x2 x3 x4 x5 : Int) (σ : KM) : Option ((Int × Int × Int × KM) ⊕ (Int × KM)) :=
  kLet (x5 + 1) fun y1 =>
  some (.inl (x3, x4, y1, σ))
def fP_learnt_B35 (x1 x2 x3 x4 x5 : Int) (σ : KM) : Option ((Int × Int × Int × KM) ⊕ (Int × KM)) :=
  kLt x5 (σ 5 2)
    (kRd σ 39 48 x5 fun y1 =>
     kCall (fP_modeOf y1 σ) fun r3 τ2 =>
     kEq r3 x1
       (kRm (y1 + x2) 12 fun y4 =>
        kRd τ2 24 588 ((x5 * 12) + y4) fun y5 =>
        kLet (x3 + y5) fun y6 =>
        kRd τ2 25 49 x5 fun y7 =>
        kLet (x4 + y7) fun y8 =>
        fP_learnt_J107 x1 x2 y6 y8 x5 τ2)
       (fP_learnt_J107 x1 x2 x3 x4 x5 τ2))
    (kExit (fP_learnt_J113 x3 x4 σ))
def fP_learnt_L35 (x1 x2 x3 x4 x5 : Int) (σ : KM) : Option (Int × KM) := kIter (fun s => fP_learnt_B35 x1 x2 s.1 s.2.1 s.2.2.1 s.2.2.2) kF (x3, x4, x5, σ)
def fP_learnt (x1 x2 : Int) (σ : KM) : Option (Int × KM) :=
  kCall (fP_noMode x1 σ) fun r2 τ1 =>
  kEq r2 0
    (kCall (fP_noTone x2 τ1) fun r4 τ3 =>
     kEq r4 0
       (kCall (fP_noPath τ3) fun r6 τ5 =>
        kEq r6 0
          (fP_learnt_L35 x1 x2 0 0 0 τ5)
          (kRetI (-5) τ5))
       (fP_learnt_J14 τ3))
    (fP_learnt_J14 τ1)
def fTR_next_J62 (t0 : Int) (σ : KM) : Option (Int × KM) :=
  kRetI t0 σ
def fTR_next_J38 (σ : KM) : Option (Int × KM) :=
  kLt (σ 1 6) (σ 1 5)
    (kRd σ 11 700 (σ 1 6) fun y1 =>
     fTR_next_J62 y1 σ)
    (fTR_next_J62 (-1) σ)
def fTR_next_B0 (σ : KM) : Option ((KM) ⊕ (Int × KM)) :=
  kLt (σ 1 6) (σ 1 5)
    (kRd σ 11 700 (σ 1 6) fun y1 =>
     kEq y1 32
       (kWf σ 1 6 ((σ 1 6) + 1) fun τ2 =>
        some (.inl (τ2)))
       (kExit (fTR_next_J38 σ)))
    (kExit (fTR_next_J38 σ))
def fTR_next_L0 (σ : KM) : Option (Int × KM) := kIter (fun s => fTR_next_B0 s) kF (σ)
def fTR_next (σ : KM) : Option (Int × KM) :=
  fTR_next_L0 σ
def fTR_isLetter_J17 (t0 : Int) (σ : KM) : Option (Int × KM) :=
  kRetZ t0 σ
def fTR_isLetter_J16 (σ : KM) : Option (Int × KM) :=
  fTR_isLetter_J17 0 σ
def fTR_isLetter (x0 : Int) (σ : KM) : Option (Int × KM) :=
  kLt x0 97
    (fTR_isLetter_J16 σ)
    (kLt 103 x0
       (fTR_isLetter_J16 σ)
       (fTR_isLetter_J17 1 σ))
def fTR_fail_J17 (σ : KM) : Option (Int × KM) :=
  kRetI 0 σ
def fTR_fail (x1 x2 : Int) (σ : KM) : Option (Int × KM) :=
  kEq (σ 1 3) 0
    (kWf σ 1 3 x1 fun τ1 =>
     kWf τ1 1 4 x2 fun τ2 =>
     fTR_fail_J17 τ2)
    (fTR_fail_J17 σ)
def fTR_readAccidental_J40 (t0 : Int) (σ : KM) : Option (Int × KM) :=
  kRetI t0 σ
def fTR_readAccidental_J19 (x1 : Int) (σ : KM) : Option (Int × KM) :=
  kWf σ 1 6 ((σ 1 6) + 1) fun τ1 =>
  kEq x1 35
    (fTR_readAccidental_J40 1 τ1)
    (fTR_readAccidental_J40 (-1) τ1)
def fTR_readAccidental (σ : KM) : Option (Int × KM) :=
  kCall (fTR_next σ) fun r2 τ1 =>
  kEq r2 35
    (fTR_readAccidental_J19 r2 τ1)
    (kEq r2 33
       (fTR_readAccidental_J19 r2 τ1)
       (kRetI 0 τ1))
def fTR_isDigit_J17 (t0 : Int) (σ : KM) : Option (Int × KM) :=
  kRetZ t0 σ
def fTR_isDigit_J16 (σ : KM) : Option (Int × KM) :=
  fTR_isDigit_J17 0 σ
def fTR_isDigit (x0 : Int) (σ : KM) : Option (Int × KM) :=
  kLt x0 48
    (fTR_isDigit_J16 σ)
    (kLt 57 x0
       (fTR_isDigit_J16 σ)
       (fTR_isDigit_J17 1 σ))
def fTR_isNamed_J28 (σ : KM) : Option (Int × KM) :=
  kRetZ 0 σ
def fTR_isNamed_J20 (σ : KM) : Option (Int × KM) :=
  kRetZ 1 σ
def fTR_isNamed_B2 (x1 x2 : Int) (σ : KM) : Option ((Int × KM) ⊕ (Int × KM)) :=
  kLt x2 (σ 1 9)
    (kRd σ 12 6 x2 fun y1 =>
     kEq y1 x1
       (kExit (fTR_isNamed_J20 σ))
       (kLet (x2 + 1) fun y2 =>
        some (.inl (y2, σ))))
    (kExit (fTR_isNamed_J28 σ))
def fTR_isNamed_L2 (x1 x2 : Int) (σ : KM) : Option (Int × KM) := kIter (fun s => fTR_isNamed_B2 x1 s.1 s.2) kF (x2, σ)
def fTR_isNamed (x1 : Int) (σ : KM) : Option (Int × KM) :=
  fTR_isNamed_L2 x1 0 σ
def fTR_readName_J50 (x2 : Int) (σ : KM) : Option (Int × KM) :=
  kCall (fTR_fail 3 x2 σ) fun _ τ1 =>
  kRetI 0 τ1
def fTR_readName_J146 (x2 : Int) (σ : KM) : Option (Int × KM) :=
  kCall (fTR_fail 3 x2 σ) fun _ τ1 =>
  kRetI 0 τ1
def fTR_readName (σ : KM) : Option (Int × KM) :=
  kCall (fTR_next σ) fun r2 τ1 =>
  kLet (τ1 1 6) fun y3 =>
  kCall (fTR_isLetter r2 τ1) fun r5 τ4 =>
  kEq r5 0
    (kCall (fTR_fail 1 y3 τ4) fun _ τ24 =>
     kRetI 0 τ24)
    (kLt (τ4 1 9) 6
       (kLt ((τ4 2 3) + (τ4 1 9)) 100
          (kWf τ4 1 6 ((τ4 1 6) + 1) fun τ6 =>
           kRs 4 7 (r2 - 97) fun y7 =>
           kCall (fTR_readAccidental τ6) fun r9 τ8 =>
           kLet (y7 + r9) fun y10 =>
           kCall (fTR_next τ8) fun r12 τ11 =>
           kCall (fTR_isDigit r12 τ11) fun r14 τ13 =>
           kEq r14 0
             (kCall (fTR_fail 1 (τ13 1 6) τ13) fun _ τ23 =>
              kRetI 0 τ23)
             (kWf τ13 1 6 ((τ13 1 6) + 1) fun τ15 =>
              kLet (y10 + (12 * ((r12 - 48) + 1))) fun y16 =>
              kCall (fP_outOf 0 127 y16 τ15) fun r18 τ17 =>
              kEq r18 0
                (kCall (fTR_isNamed y16 τ17) fun r20 τ19 =>
                 kEq r20 0
                   (kWr τ19 12 6 (τ19 1 9) y16 fun τ21 =>
                    kWf τ21 1 9 ((τ21 1 9) + 1) fun τ22 =>
                    kRetI 0 τ22)
                   (fTR_readName_J146 y3 τ19))
                (fTR_readName_J146 y3 τ17)))
          (fTR_readName_J50 y3 τ4))
       (fTR_readName_J50 y3 τ4))
def fTR_readNumber_J65 (x1 : Int) (σ : KM) : Option (Int × KM) :=
  kRetI x1 σ
def fTR_readNumber_B2 (x1 : Int) (σ : KM) : Option ((Int × KM) ⊕ (Int × KM)) :=
  kLt (σ 1 6) (σ 1 5)
    (kRd σ 11 700 (σ 1 6) fun y1 =>
     kCall (fTR_isDigit y1 σ) fun r3 τ2 =>
     kEq r3 0
       (kExit (fTR_readNumber_J65 x1 τ2))
       (kRd τ2 11 700 (τ2 1 6) fun y4 =>
        kMn 1000 (((x1 * 10) + y4) - 48) fun y5 =>
        kWf τ2 1 6 ((τ2 1 6) + 1) fun τ6 =>
        some (.inl (y5, τ6))))
    (kExit (fTR_readNumber_J65 x1 σ))
def fTR_readNumber_L2 (x1 : Int) (σ : KM) : Option (Int × KM) := kIter (fun s => fTR_readNumber_B2 s.1 s.2) kF (x1, σ)
def fTR_readNumber (σ : KM) : Option (Int × KM) :=
  fTR_readNumber_L2 0 σ
def fNo_isBehindF_J69 (t0 : Int) (σ : KM) : Option (Int × KM) :=
  kRetZ t0 σ
def fNo_isBehindF_J53 (t0 : Int) (σ : KM) : Option (Int × KM) :=
  kRetZ t0 σ
def fNo_isBehindF_J25 (t0 : Int) (σ : KM) : Option (Int × KM) :=
  kRetZ t0 σ
def fNo_isBehindF (x1 x2 x3 x4 : Int) (σ : KM) : Option (Int × KM) :=
  kRd σ 13 100 x1 fun y1 =>
  kEq y1 x2
    (kRd σ 15 100 x1 fun y2 =>
     kEq y2 x4
       (kRd σ 14 100 x1 fun y3 =>
        kLt x3 y3
          (fNo_isBehindF_J69 1 σ)
          (fNo_isBehindF_J69 0 σ))
       (kRd σ 15 100 x1 fun y4 =>
        kLt x4 y4
          (fNo_isBehindF_J53 1 σ)
          (fNo_isBehindF_J53 0 σ)))
    (kRd σ 13 100 x1 fun y5 =>
     kLt x2 y5
       (fNo_isBehindF_J25 1 σ)
       (fNo_isBehindF_J25 0 σ))
def fNo_placeForF_J31 (x4 : Int) (σ : KM) : Option (Int × KM) :=
  kRetI x4 σ
def fNo_placeForF_B6 (x1 x2 x3 x4 : Int) (σ : KM) : Option ((Int × KM) ⊕ (Int × KM)) :=
  kLt 0 x4
    (kCall (fNo_isBehindF (x4 - 1) x1 x2 x3 σ) fun r2 τ1 =>
     kEq r2 0
       (kExit (fNo_placeForF_J31 x4 τ1))
       (kLet (x4 + (-1)) fun y3 =>
        some (.inl (y3, τ1))))
    (kExit (fNo_placeForF_J31 x4 σ))
def fNo_placeForF_L6 (x1 x2 x3 x4 : Int) (σ : KM) : Option (Int × KM) := kIter (fun s => fNo_placeForF_B6 x1 x2 x3 s.1 s.2) kF (x4, σ)
def fNo_placeForF (x1 x2 x3 : Int) (σ : KM) : Option (Int × KM) :=
  kLet (σ 2 3) fun y1 =>
  fNo_placeForF_L6 x1 x2 x3 y1 σ
def fNo_insertF_J21 (σ : KM) : Option (Int × KM) :=
  kRetI 0 σ
def fNo_insertF (x1 x2 x3 x4 : Int) (σ : KM) : Option (Int × KM) :=
  kLt (σ 2 3) 100
    (kLt x1 0
       (fNo_insertF_J21 σ)
       (kLt (σ 2 3) x1
          (fNo_insertF_J21 σ)
          (kLet ((σ 2 3) - x1) fun y1 =>
           kCpy σ 13 100 x1 13 100 (x1 + 1) y1 fun τ2 =>
           kCpy τ2 14 100 x1 14 100 (x1 + 1) y1 fun τ3 =>
           kCpy τ3 15 100 x1 15 100 (x1 + 1) y1 fun τ4 =>
           kWr τ4 13 100 x1 x2 fun τ5 =>
           kWr τ5 14 100 x1 x3 fun τ6 =>
           kWr τ6 15 100 x1 x4 fun τ7 =>
           kWf τ7 2 3 ((τ7 2 3) + 1) fun τ8 =>
           kRetI 0 τ8)))
    (fNo_insertF_J21 σ)
def fTR_soundNamed_J52 (σ : KM) : Option (Int × KM) :=
  kRetI 0 σ
def fTR_soundNamed_B2 (x1 x2 : Int) (σ : KM) : Option ((Int × KM) ⊕ (Int × KM)) :=
  kLt x2 (σ 1 9)
    (kRd σ 12 6 x2 fun y1 =>
     kCall (fNo_placeForF (σ 1 7) x1 y1 σ) fun r3 τ2 =>
     kRd τ2 12 6 x2 fun y4 =>
     kCall (fNo_insertF r3 (τ2 1 7) x1 y4 τ2) fun _ τ5 =>
     kLet (x2 + 1) fun y6 =>
     some (.inl (y6, τ5)))
    (kExit (fTR_soundNamed_J52 σ))
def fTR_soundNamed_L2 (x1 x2 : Int) (σ : KM) : Option (Int × KM) := kIter (fun s => fTR_soundNamed_B2 x1 s.1 s.2) kF (x2, σ)
def fTR_soundNamed (x1 : Int) (σ : KM) : Option (Int × KM) :=
  fTR_soundNamed_L2 x1 0 σ
def fTR_readLength_J132 (σ : KM) : Option (Int × KM) :=
  kRetI 0 σ
def fTR_readLength_J87 (x1 : Int) (σ : KM) : Option (Int × KM) :=
  kCall (fTR_fail 2 x1 σ) fun _ τ1 =>
  fTR_readLength_J132 τ1
def fTR_readLength (σ : KM) : Option (Int × KM) :=
  kEq (σ 1 3) 0
    (kCall (fTR_next σ) fun r2 τ1 =>
     kEq r2 58
       (kWf τ1 1 6 ((τ1 1 6) + 1) fun τ3 =>
        kCall (fTR_next τ3) fun r5 τ4 =>
        kCall (fTR_isDigit r5 τ4) fun r7 τ6 =>
        kEq r7 0
          (kCall (fTR_fail 1 (τ6 1 6) τ6) fun _ τ16 =>
           kRetI 0 τ16)
          (kLet (τ6 1 6) fun y8 =>
           kCall (fTR_readNumber τ6) fun r10 τ9 =>
           kLt 2 ((τ9 1 6) - y8)
             (fTR_readLength_J87 y8 τ9)
             (kCall (fP_outOf 1 64 r10 τ9) fun r12 τ11 =>
              kEq r12 0
                (kLt 512 ((τ11 1 7) + r10)
                   (kCall (fTR_fail 4 y8 τ11) fun _ τ15 =>
                    fTR_readLength_J132 τ15)
                   (kCall (fTR_soundNamed r10 τ11) fun _ τ13 =>
                    kWf τ13 1 7 ((τ13 1 7) + r10) fun τ14 =>
                    fTR_readLength_J132 τ14))
                (fTR_readLength_J87 y8 τ11))))
       (kCall (fTR_fail 1 (τ1 1 6) τ1) fun _ τ17 =>
        kRetI 0 τ17))
    (kRetI 0 σ)
def fTR_readNames_J54 (σ : KM) : Option (Int × KM) :=
  kRetI 0 σ
def fTR_readNames_J44 (x1 : Int) (σ : KM) : Option ((Int × KM) ⊕ (Int × KM)) :=
  kCall (fTR_readName σ) fun _ τ1 =>
  kLet (x1 + 1) fun y2 =>
  some (.inl (y2, τ1))
def fTR_readNames_J33 (σ : KM) : Option (Int × KM) :=
  kWf σ 1 6 ((σ 1 6) + 1) fun τ1 =>
  kRetI 0 τ1
def fTR_readNames_B2 (x1 : Int) (σ : KM) : Option ((Int × KM) ⊕ (Int × KM)) :=
  kLt 6 x1
    (kExit (fTR_readNames_J54 σ))
    (kEq (σ 1 3) 0
       (kCall (fTR_next σ) fun r2 τ1 =>
        kEq r2 41
          (kLt 0 (τ1 1 9)
             (kExit (fTR_readNames_J33 τ1))
             (fTR_readNames_J44 x1 τ1))
          (fTR_readNames_J44 x1 τ1))
       (kExit (fTR_readNames_J54 σ)))
def fTR_readNames_L2 (x1 : Int) (σ : KM) : Option (Int × KM) := kIter (fun s => fTR_readNames_B2 s.1 s.2) kF (x1, σ)
def fTR_readNames (σ : KM) : Option (Int × KM) :=
  fTR_readNames_L2 0 σ
def fTR_readPart_J106 (σ : KM) : Option (Int × KM) :=
  kRetI 0 σ
def fTR_readPart (σ : KM) : Option (Int × KM) :=
  kCall (fTR_next σ) fun r2 τ1 =>
  kWf τ1 1 9 0 fun τ3 =>
  kEq r2 124
    (kWf τ3 1 6 ((τ3 1 6) + 1) fun τ14 =>
     fTR_readPart_J106 τ14)
    (kEq r2 45
       (kWf τ3 1 6 ((τ3 1 6) + 1) fun τ12 =>
        kCall (fTR_readLength τ12) fun _ τ13 =>
        fTR_readPart_J106 τ13)
       (kEq r2 40
          (kWf τ3 1 6 ((τ3 1 6) + 1) fun τ9 =>
           kCall (fTR_readNames τ9) fun _ τ10 =>
           kCall (fTR_readLength τ10) fun _ τ11 =>
           fTR_readPart_J106 τ11)
          (kCall (fTR_isLetter r2 τ3) fun r5 τ4 =>
           kEq r5 0
             (kCall (fTR_fail 1 (τ4 1 6) τ4) fun _ τ6 =>
              fTR_readPart_J106 τ6)
             (kCall (fTR_readName τ4) fun _ τ7 =>
              kCall (fTR_readLength τ7) fun _ τ8 =>
              fTR_readPart_J106 τ8))))
def fTR_read_J78 (σ : KM) : Option (Int × KM) :=
  kWf σ 1 1 0 fun τ1 =>
  kRetI 0 τ1
def fTR_read_J65 (σ : KM) : Option (Int × KM) :=
  fTR_read_J78 σ
def fTR_read_B42 (x2 : Int) (σ : KM) : Option ((Int × KM) ⊕ (Int × KM)) :=
  kLt (σ 1 5) x2
    (kExit (fTR_read_J78 σ))
    (kEq (σ 1 3) 0
       (kCall (fTR_next σ) fun r2 τ1 =>
        kEq r2 (-1)
          (kExit (fTR_read_J65 τ1))
          (kCall (fTR_readPart τ1) fun _ τ3 =>
           kLet (x2 + 1) fun y4 =>
           some (.inl (y4, τ3))))
       (kExit (fTR_read_J78 σ)))
def fTR_read_L42 (x2 : Int) (σ : KM) : Option (Int × KM) := kIter (fun s => fTR_read_B42 s.1 s.2) kF (x2, σ)
def fTR_read (x1 : Int) (σ : KM) : Option (Int × KM) :=
  kMn x1 (σ 1 1) fun y1 =>
  kWf σ 1 5 y1 fun τ2 =>
  kWf τ2 1 6 0 fun τ3 =>
  kWf τ3 1 7 0 fun τ4 =>
  kWf τ4 1 3 0 fun τ5 =>
  kWf τ5 1 4 (-1) fun τ6 =>
  kWf τ6 2 3 0 fun τ7 =>
  fTR_read_L42 0 τ7
def fNo_become (σ : KM) : Option (Int × KM) :=
  kCpy σ 13 100 0 16 100 0 100 fun τ1 =>
  kCpy τ1 14 100 0 17 100 0 100 fun τ2 =>
  kCpy τ2 15 100 0 18 100 0 100 fun τ3 =>
  kWf τ3 3 3 (τ3 2 3) fun τ4 =>
  kRetI 0 τ4
def fHi_forget (σ : KM) : Option (Int × KM) :=
  kWf σ 4 5 0 fun τ1 =>
  kRetI 0 τ1
def fP_load_J15 (σ : KM) : Option (Int × KM) :=
  kRetI (-3) σ
def fP_load (x1 : Int) (σ : KM) : Option (Int × KM) :=
  kLt x1 0
    (fP_load_J15 σ)
    (kLt (σ 1 1) x1
       (fP_load_J15 σ)
       (kCall (fTR_read x1 σ) fun _ τ1 =>
        kEq (τ1 1 3) 0
          (kCall (fNo_become τ1) fun _ τ2 =>
           kCall (fHi_forget τ2) fun _ τ3 =>
           kCall (fP_notesChanged τ3) fun _ τ4 =>
           kRetI (τ4 3 3) τ4)
          (kRetI ((-30) - (τ1 1 3)) τ1)))
def fP_commonDivisor_J34 (x2 : Int) (σ : KM) : Option (Int × KM) :=
  kRetI x2 σ
def fP_commonDivisor_B7 (x2 x3 x4 : Int) (σ : KM) : Option ((Int × Int × Int × KM) ⊕ (Int × KM)) :=
  kLt x4 64
    (kEq x3 0
       (kExit (fP_commonDivisor_J34 x2 σ))
       (kRm x2 x3 fun y1 =>
        kLet (x4 + 1) fun y2 =>
        some (.inl (x3, y1, y2, σ))))
    (kExit (fP_commonDivisor_J34 x2 σ))
def fP_commonDivisor_L7 (x2 x3 x4 : Int) (σ : KM) : Option (Int × KM) := kIter (fun s => fP_commonDivisor_B7 s.1 s.2.1 s.2.2.1 s.2.2.2) kF (x2, x3, x4, σ)
def fP_commonDivisor (x0 x1 : Int) (σ : KM) : Option (Int × KM) :=
  fP_commonDivisor_L7 x0 x1 0 σ
def fP_match_J24 (σ : KM) : Option (Int × KM) :=
  kRetI (-2) σ
def fP_match_J94 (t0 : Int) (σ : KM) : Option (Int × KM) :=
  kRetI t0 σ
def fP_match (x1 x2 x3 : Int) (σ : KM) : Option (Int × KM) :=
  kCall (fP_noWindow x1 σ) fun r2 τ1 =>
  kEq r2 0
    (kCall (fP_noKey x2 τ1) fun r4 τ3 =>
     kEq r4 0
       (kCall (fP_outOf 0 1 x3 τ3) fun r6 τ5 =>
        kEq r6 0
          (kRd τ5 25 49 x1 fun y7 =>
           kEq y7 0
             (kRetI x3 τ5)
             (kCall (fPr_weigh x1 x2 τ5) fun r9 τ8 =>
              kCall (fP_commonDivisor r9 y7 τ8) fun r11 τ10 =>
              kLt r11 1
                (kRetI x3 τ10)
                (kEq x3 0
                   (kDv r9 r11 fun y13 =>
                    fP_match_J94 y13 τ10)
                   (kDv y7 r11 fun y12 =>
                    fP_match_J94 y12 τ10))))
          (fP_match_J24 τ5))
       (fP_match_J24 τ3))
    (fP_match_J24 τ1)
def fP_name_J78 (t0 : Int) (σ : KM) : Option (Int × KM) :=
  kRetI t0 σ
def fP_name_J77 (σ : KM) : Option (Int × KM) :=
  fP_name_J78 (-1) σ
def fP_name_J51 (x1 x2 x3 : Int) (σ : KM) : Option (Int × KM) :=
  kLt x2 x3
    (kRetI 35 σ)
    (kEq x2 x3
       (kCall (fP_modeOf x1 σ) fun r2 τ1 =>
        kEq r2 1
          (fP_name_J78 109 τ1)
          (fP_name_J77 τ1))
       (fP_name_J77 σ))
def fP_name (x1 x2 : Int) (σ : KM) : Option (Int × KM) :=
  kCall (fP_noKey x1 σ) fun r2 τ1 =>
  kEq r2 0
    (kLt x2 0
       (kRetI (-3) τ1)
       (kEq x2 0
          (kRm x1 12 fun y5 =>
           kChr 0 y5 fun y6 =>
           kRetI y6 τ1)
          (kRm x1 12 fun y3 =>
           kChr 1 y3 fun y4 =>
           kEq y4 35
             (fP_name_J51 x1 x2 2 τ1)
             (fP_name_J51 x1 x2 1 τ1))))
    (kRetI (-2) τ1)
def fP_net_J44 (σ : KM) : Option (Int × KM) :=
  kRetI (-3) σ
def fP_net (x1 x2 x3 x4 : Int) (σ : KM) : Option (Int × KM) :=
  kCall (fP_outOf 0 999 x1 σ) fun r2 τ1 =>
  kEq r2 0
    (kCall (fP_outOf 0 999 x2 τ1) fun r4 τ3 =>
     kEq r4 0
       (kCall (fP_outOf 0 999 x3 τ3) fun r6 τ5 =>
        kEq r6 0
          (kCall (fP_outOf 0 100 x4 τ5) fun r8 τ7 =>
           kEq r8 0
             (kLet (τ7 7 3) fun y9 =>
              kWf τ7 7 0 x1 fun τ10 =>
              kWf τ10 7 1 x2 fun τ11 =>
              kWf τ11 7 2 x3 fun τ12 =>
              kWf τ12 7 3 x4 fun τ13 =>
              kWfz τ13 7 4 1 fun τ14 =>
              kCall (fP_pathChanged τ14) fun _ τ15 =>
              kRetI y9 τ15)
             (fP_net_J44 τ7))
          (fP_net_J44 τ5))
       (fP_net_J44 τ3))
    (fP_net_J44 τ1)
def fP_note_J15 (σ : KM) : Option (Int × KM) :=
  kRetI (-2) σ
def fP_note (x1 x2 : Int) (σ : KM) : Option (Int × KM) :=
  kLt x1 0
    (fP_note_J15 σ)
    (kLt x1 (σ 3 3)
       (kSw x2 0 [
          kRd σ 16 100 x1 fun y1 =>
          kRetI y1 σ,
          kRd σ 17 100 x1 fun y2 =>
          kRetI y2 σ,
          kRd σ 18 100 x1 fun y3 =>
          kRetI y3 σ,
          kRd σ 18 100 x1 fun y4 =>
          kRm y4 12 fun y5 =>
          kRetI y5 σ
          ]
          (kRetI (-2) σ))
       (fP_note_J15 σ))
def fP_outside_J56 (x1 : Int) (σ : KM) : Option (Int × KM) :=
  kRetI x1 σ
def fP_outside_J50 (x1 x2 : Int) (σ : KM) : Option ((Int × Int × KM) ⊕ (Int × KM)) :=
  kLet (x2 + 1) fun y1 =>
  some (.inl (x1, y1, σ))
def fP_outside_B14 (x1 x2 : Int) (σ : KM) : Option ((Int × Int × KM) ⊕ (Int × KM)) :=
  kLt x2 (σ 5 2)
    (kRd σ 26 48 x2 fun y1 =>
     kEq y1 (-1)
       (fP_outside_J50 x1 x2 σ)
       (kCall (fP_romanOf x2 σ) fun r3 τ2 =>
        kEq r3 (-1)
          (kLet (x1 + 1) fun y4 =>
           fP_outside_J50 y4 x2 τ2)
          (fP_outside_J50 x1 x2 τ2)))
    (kExit (fP_outside_J56 x1 σ))
def fP_outside_L14 (x1 x2 : Int) (σ : KM) : Option (Int × KM) := kIter (fun s => fP_outside_B14 s.1 s.2.1 s.2.2) kF (x1, x2, σ)
def fP_outside (σ : KM) : Option (Int × KM) :=
  kCall (fP_noPath σ) fun r2 τ1 =>
  kEq r2 0
    (fP_outside_L14 0 0 τ1)
    (kRetI (-5) τ1)
def fPr_betterThan_J66 (x4 : Int) (σ : KM) : Option (Int × KM) :=
  kRetI x4 σ
def fPr_betterThan_J60 (x1 x2 x3 x4 x5 : Int) (σ : KM) : Option ((Int × Int × KM) ⊕ (Int × KM)) :=
  kLet (x5 + 1) fun y1 =>
  some (.inl (x4, y1, σ))
def fPr_betterThan_J57 (x1 x2 x3 x4 x5 : Int) (σ : KM) : Option ((Int × Int × KM) ⊕ (Int × KM)) :=
  kLet (x4 + 1) fun y1 =>
  fPr_betterThan_J60 x1 x2 x3 y1 x5 σ
def fPr_betterThan_B18 (x1 x2 x3 x4 x5 : Int) (σ : KM) : Option ((Int × Int × KM) ⊕ (Int × KM)) :=
  kLt x5 24
    (kRd σ 28 1176 ((x1 * 24) + x5) fun y1 =>
     kLt x3 y1
       (fPr_betterThan_J57 x1 x2 x3 x4 x5 σ)
       (kEq y1 x3
          (kLt x5 x2
             (fPr_betterThan_J57 x1 x2 x3 x4 x5 σ)
             (fPr_betterThan_J60 x1 x2 x3 x4 x5 σ))
          (fPr_betterThan_J60 x1 x2 x3 x4 x5 σ)))
    (kExit (fPr_betterThan_J66 x4 σ))
def fPr_betterThan_L18 (x1 x2 x3 x4 x5 : Int) (σ : KM) : Option (Int × KM) := kIter (fun s => fPr_betterThan_B18 x1 x2 x3 s.1 s.2.1 s.2.2) kF (x4, x5, σ)
def fPr_betterThan (x1 x2 : Int) (σ : KM) : Option (Int × KM) :=
  kRd σ 28 1176 ((x1 * 24) + x2) fun y1 =>
  fPr_betterThan_L18 x1 x2 y1 0 0 σ
def fPr_keyOfRank_J26 (σ : KM) : Option (Int × KM) :=
  kRetI (-1) σ
def fPr_keyOfRank_J18 (x3 : Int) (σ : KM) : Option (Int × KM) :=
  kRetI x3 σ
def fPr_keyOfRank_B2 (x1 x2 x3 : Int) (σ : KM) : Option ((Int × KM) ⊕ (Int × KM)) :=
  kLt x3 24
    (kCall (fPr_betterThan x1 x3 σ) fun r2 τ1 =>
     kEq r2 x2
       (kExit (fPr_keyOfRank_J18 x3 τ1))
       (kLet (x3 + 1) fun y3 =>
        some (.inl (y3, τ1))))
    (kExit (fPr_keyOfRank_J26 σ))
def fPr_keyOfRank_L2 (x1 x2 x3 : Int) (σ : KM) : Option (Int × KM) := kIter (fun s => fPr_keyOfRank_B2 x1 x2 s.1 s.2) kF (x3, σ)
def fPr_keyOfRank (x1 x2 : Int) (σ : KM) : Option (Int × KM) :=
  fPr_keyOfRank_L2 x1 x2 0 σ
def fP_overall (x1 : Int) (σ : KM) : Option (Int × KM) :=
  kCall (fP_noKey x1 σ) fun r2 τ1 =>
  kEq r2 0
    (kCall (fP_freshFits τ1) fun _ τ3 =>
     kCall (fPr_keyOfRank 48 x1 τ3) fun r5 τ4 =>
     kRetI r5 τ4)
    (kRetI (-3) τ1)
def fP_pin_J22 (σ : KM) : Option (Int × KM) :=
  kRetI (-2) σ
def fP_pin_J25 (x1 x2 : Int) (σ : KM) : Option (Int × KM) :=
  kRd σ 33 48 x1 fun y1 =>
  kWr σ 33 48 x1 x2 fun τ2 =>
  kCall (fP_pathChanged τ2) fun _ τ3 =>
  kRetI y1 τ3
def fP_pin (x1 x2 : Int) (σ : KM) : Option (Int × KM) :=
  kCall (fP_outOf 0 47 x1 σ) fun r2 τ1 =>
  kEq r2 0
    (kEq x2 (-1)
       (fP_pin_J25 x1 x2 τ1)
       (kCall (fP_noKey x2 τ1) fun r4 τ3 =>
        kEq r4 0
          (fP_pin_J25 x1 x2 τ3)
          (fP_pin_J22 τ3)))
    (fP_pin_J22 τ1)
def fWi_sound_J62 (x3 : Int) (σ : KM) : Option (Int × KM) :=
  kRetI x3 σ
def fWi_sound_B6 (x1 x2 x3 x4 : Int) (σ : KM) : Option ((Int × Int × KM) ⊕ (Int × KM)) :=
  kLt x4 3
    (kCall (fP_toneOf x2 x4 σ) fun r2 τ1 =>
     kRd τ1 24 588 ((x1 * 12) + r2) fun y3 =>
     kRd τ1 24 588 (((x1 + 1) * 12) + r2) fun y4 =>
     kLet (y3 + y4) fun y5 =>
     kMn x3 y5 fun y6 =>
     kLet (x4 + 1) fun y7 =>
     some (.inl (y6, y7, τ1)))
    (kExit (fWi_sound_J62 x3 σ))
def fWi_sound_L6 (x1 x2 x3 x4 : Int) (σ : KM) : Option (Int × KM) := kIter (fun s => fWi_sound_B6 x1 x2 s.1 s.2.1 s.2.2) kF (x3, x4, σ)
def fWi_sound (x1 x2 : Int) (σ : KM) : Option (Int × KM) :=
  fWi_sound_L6 x1 x2 1000000000 0 σ
def fWi_pivotTriad_J69 (x4 : Int) (σ : KM) : Option (Int × KM) :=
  kRetI x4 σ
def fWi_pivotTriad_J63 (x1 x2 x3 x4 x5 x6 : Int) (σ : KM) : Option ((Int × Int × Int × KM) ⊕ (Int × KM)) :=
  kLet (x6 + 1) fun y1 =>
  some (.inl (x4, x5, y1, σ))
def fWi_pivotTriad_B9 (x1 x2 x3 x4 x5 x6 : Int) (σ : KM) : Option ((Int × Int × Int × KM) ⊕ (Int × KM)) :=
  kLt x6 36
    (kCall (fP_degreeOf x6 x2 σ) fun r2 τ1 =>
     kEq r2 (-1)
       (fWi_pivotTriad_J63 x1 x2 x3 x4 x5 x6 τ1)
       (kCall (fP_degreeOf x6 x3 τ1) fun r4 τ3 =>
        kEq r4 (-1)
          (fWi_pivotTriad_J63 x1 x2 x3 x4 x5 x6 τ3)
          (kCall (fWi_sound x1 x6 τ3) fun r6 τ5 =>
           kLt x5 r6
             (fWi_pivotTriad_J63 x1 x2 x3 x6 r6 x6 τ5)
             (fWi_pivotTriad_J63 x1 x2 x3 x4 x5 x6 τ5))))
    (kExit (fWi_pivotTriad_J69 x4 σ))
def fWi_pivotTriad_L9 (x1 x2 x3 x4 x5 x6 : Int) (σ : KM) : Option (Int × KM) := kIter (fun s => fWi_pivotTriad_B9 x1 x2 x3 s.1 s.2.1 s.2.2.1 s.2.2.2) kF (x4, x5, x6, σ)
def fWi_pivotTriad (x1 x2 x3 : Int) (σ : KM) : Option (Int × KM) :=
  fWi_pivotTriad_L9 x1 x2 x3 (-1) 0 0 σ
def fP_pivot_J36 (σ : KM) : Option (Int × KM) :=
  kRetI (-2) σ
def fP_pivot (x1 x2 : Int) (σ : KM) : Option (Int × KM) :=
  kCall (fP_noPath σ) fun r2 τ1 =>
  kEq r2 0
    (kLt x1 0
       (fP_pivot_J36 τ1)
       (kLt x1 ((τ1 8 12) - 1)
          (kCall (fP_outOf 0 3 x2 τ1) fun r4 τ3 =>
           kEq r4 0
             (kCall (fFi_lastOf x1 τ3) fun r6 τ5 =>
              kRd τ5 39 48 r6 fun y7 =>
              kRd τ5 39 48 (r6 + 1) fun y8 =>
              kCall (fWi_pivotTriad r6 y7 y8 τ5) fun r10 τ9 =>
              kEq r10 (-1)
                (kRetI (-1) τ9)
                (kSw x2 0 [
                   kRetI r10 τ9,
                   kCall (fP_degreeOf r10 y7 τ9) fun r12 τ11 =>
                   kRetI r12 τ11,
                   kCall (fP_degreeOf r10 y8 τ9) fun r14 τ13 =>
                   kRetI r14 τ13
                   ]
                   (kCall (fWi_sound r6 r10 τ9) fun r16 τ15 =>
                    kRetI r16 τ15)))
             (fP_pivot_J36 τ3))
          (fP_pivot_J36 τ1)))
    (kRetI (-5) τ1)
def fP_progression_J88 (t0 : Int) (σ : KM) : Option (Int × KM) :=
  kRetI t0 σ
def fP_progression_J78 (x1 x2 : Int) (σ : KM) : Option (Int × KM) :=
  kEq x1 (-1)
    (fP_progression_J88 x2 σ)
    (fP_progression_J88 (-1) σ)
def fP_progression_J72 (x1 x2 x3 x4 : Int) (σ : KM) : Option ((Int × Int × Int × KM) ⊕ (Int × KM)) :=
  kLet (x4 + 1) fun y1 =>
  some (.inl (x2, x3, y1, σ))
def fP_progression_J63 (x5 : Int) (σ : KM) : Option (Int × KM) :=
  kRetI x5 σ
def fP_progression_B19 (x1 x2 x3 x4 : Int) (σ : KM) : Option ((Int × Int × Int × KM) ⊕ (Int × KM)) :=
  kLt x4 (σ 5 2)
    (kRd σ 26 48 x4 fun y1 =>
     kEq y1 (-1)
       (fP_progression_J72 x1 x2 x3 x4 σ)
       (kEq y1 x3
          (fP_progression_J72 x1 x2 x3 x4 σ)
          (kEq x2 x1
             (kExit (fP_progression_J63 y1 σ))
             (kLet (x2 + 1) fun y2 =>
              fP_progression_J72 x1 y2 y1 x4 σ))))
    (kExit (fP_progression_J78 x1 x2 σ))
def fP_progression_L19 (x1 x2 x3 x4 : Int) (σ : KM) : Option (Int × KM) := kIter (fun s => fP_progression_B19 x1 s.1 s.2.1 s.2.2.1 s.2.2.2) kF (x2, x3, x4, σ)
def fP_progression (x1 : Int) (σ : KM) : Option (Int × KM) :=
  kLt x1 (-1)
    (kRetI (-3) σ)
    (kCall (fP_freshWindows σ) fun _ τ1 =>
     fP_progression_L19 x1 0 (-1) 0 τ1)
def fNo_canBe_J46 (t0 : Int) (σ : KM) : Option (Int × KM) :=
  kRetZ t0 σ
def fNo_canBe_J45 (σ : KM) : Option (Int × KM) :=
  fNo_canBe_J46 0 σ
def fNo_canBe (x0 x1 x2 : Int) (σ : KM) : Option (Int × KM) :=
  kLt x0 0
    (fNo_canBe_J45 σ)
    (kLt x0 512
       (kLt x1 1
          (fNo_canBe_J45 σ)
          (kLt 64 x1
             (fNo_canBe_J45 σ)
             (kLt x2 0
                (fNo_canBe_J45 σ)
                (kLt 127 x2
                   (fNo_canBe_J45 σ)
                   (kLt 512 (x0 + x1)
                      (fNo_canBe_J45 σ)
                      (fNo_canBe_J46 1 σ))))))
       (fNo_canBe_J45 σ))
def fNo_isBehind_J69 (t0 : Int) (σ : KM) : Option (Int × KM) :=
  kRetZ t0 σ
def fNo_isBehind_J53 (t0 : Int) (σ : KM) : Option (Int × KM) :=
  kRetZ t0 σ
def fNo_isBehind_J25 (t0 : Int) (σ : KM) : Option (Int × KM) :=
  kRetZ t0 σ
def fNo_isBehind (x1 x2 x3 x4 : Int) (σ : KM) : Option (Int × KM) :=
  kRd σ 16 100 x1 fun y1 =>
  kEq y1 x2
    (kRd σ 18 100 x1 fun y2 =>
     kEq y2 x4
       (kRd σ 17 100 x1 fun y3 =>
        kLt x3 y3
          (fNo_isBehind_J69 1 σ)
          (fNo_isBehind_J69 0 σ))
       (kRd σ 18 100 x1 fun y4 =>
        kLt x4 y4
          (fNo_isBehind_J53 1 σ)
          (fNo_isBehind_J53 0 σ)))
    (kRd σ 16 100 x1 fun y5 =>
     kLt x2 y5
       (fNo_isBehind_J25 1 σ)
       (fNo_isBehind_J25 0 σ))
def fNo_placeFor_J31 (x4 : Int) (σ : KM) : Option (Int × KM) :=
  kRetI x4 σ
def fNo_placeFor_B6 (x1 x2 x3 x4 : Int) (σ : KM) : Option ((Int × KM) ⊕ (Int × KM)) :=
  kLt 0 x4
    (kCall (fNo_isBehind (x4 - 1) x1 x2 x3 σ) fun r2 τ1 =>
     kEq r2 0
       (kExit (fNo_placeFor_J31 x4 τ1))
       (kLet (x4 + (-1)) fun y3 =>
        some (.inl (y3, τ1))))
    (kExit (fNo_placeFor_J31 x4 σ))
def fNo_placeFor_L6 (x1 x2 x3 x4 : Int) (σ : KM) : Option (Int × KM) := kIter (fun s => fNo_placeFor_B6 x1 x2 x3 s.1 s.2) kF (x4, σ)
def fNo_placeFor (x1 x2 x3 : Int) (σ : KM) : Option (Int × KM) :=
  kLet (σ 3 3) fun y1 =>
  fNo_placeFor_L6 x1 x2 x3 y1 σ
def fNo_insert_J21 (σ : KM) : Option (Int × KM) :=
  kRetI 0 σ
def fNo_insert (x1 x2 x3 x4 : Int) (σ : KM) : Option (Int × KM) :=
  kLt (σ 3 3) 100
    (kLt x1 0
       (fNo_insert_J21 σ)
       (kLt (σ 3 3) x1
          (fNo_insert_J21 σ)
          (kLet ((σ 3 3) - x1) fun y1 =>
           kCpy σ 16 100 x1 16 100 (x1 + 1) y1 fun τ2 =>
           kCpy τ2 17 100 x1 17 100 (x1 + 1) y1 fun τ3 =>
           kCpy τ3 18 100 x1 18 100 (x1 + 1) y1 fun τ4 =>
           kWr τ4 16 100 x1 x2 fun τ5 =>
           kWr τ5 17 100 x1 x3 fun τ6 =>
           kWr τ6 18 100 x1 x4 fun τ7 =>
           kWf τ7 3 3 ((τ7 3 3) + 1) fun τ8 =>
           kRetI 0 τ8)))
    (fNo_insert_J21 σ)
def fP_put (x1 x2 x3 : Int) (σ : KM) : Option (Int × KM) :=
  kCall (fNo_canBe x1 x2 x3 σ) fun r2 τ1 =>
  kEq r2 0
    (kRetI (-3) τ1)
    (kLt (τ1 3 3) 100
       (kCall (fNo_placeFor x1 x2 x3 τ1) fun r4 τ3 =>
        kCall (fNo_insert r4 x1 x2 x3 τ3) fun _ τ5 =>
        kCall (fHi_remember 0 r4 0 0 0 τ5) fun _ τ6 =>
        kCall (fP_notesChanged τ6) fun _ τ7 =>
        kRetI r4 τ7)
       (kRetI (-4) τ1))
def fP_ranked (x1 x2 : Int) (σ : KM) : Option (Int × KM) :=
  kCall (fP_noWindow x1 σ) fun r2 τ1 =>
  kEq r2 0
    (kCall (fP_noKey x2 τ1) fun r4 τ3 =>
     kEq r4 0
       (kCall (fP_freshFits τ3) fun _ τ5 =>
        kCall (fPr_keyOfRank x1 x2 τ5) fun r7 τ6 =>
        kRetI r7 τ6)
       (kRetI (-3) τ3))
    (kRetI (-2) τ1)
def fP_roman_J28 (t0 : Int) (σ : KM) : Option (Int × KM) :=
  kRetI t0 σ
def fP_roman (x1 : Int) (σ : KM) : Option (Int × KM) :=
  kCall (fP_noWindow x1 σ) fun r2 τ1 =>
  kEq r2 0
    (kCall (fP_noPath τ1) fun r4 τ3 =>
     kEq r4 0
       (kCall (fP_romanOf x1 τ3) fun r6 τ5 =>
        fP_roman_J28 r6 τ5)
       (fP_roman_J28 (-5) τ3))
    (kRetI (-2) τ1)
def fDe_cheapestMove_41_J46 (x4 : Int) (σ : KM) : Option (Int × KM) :=
  kRetI x4 σ
def fDe_cheapestMove_41_B7 (x2 x3 x4 x5 : Int) (σ : KM) : Option ((Int × Int × KM) ⊕ (Int × KM)) :=
  kLt x5 24
    (kRd σ 41 1152 (x2 + x5) fun y1 =>
     kRd σ 36 576 ((x5 * 24) + x3) fun y2 =>
     kMn x4 (y1 + y2) fun y3 =>
     kLet (x5 + 1) fun y4 =>
     some (.inl (y3, y4, σ)))
    (kExit (fDe_cheapestMove_41_J46 x4 σ))
def fDe_cheapestMove_41_L7 (x2 x3 x4 x5 : Int) (σ : KM) : Option (Int × KM) := kIter (fun s => fDe_cheapestMove_41_B7 x2 x3 s.1 s.2.1 s.2.2) kF (x4, x5, σ)
def fDe_cheapestMove_41 (x2 x3 : Int) (σ : KM) : Option (Int × KM) :=
  fDe_cheapestMove_41_L7 x2 x3 1000000000 0 σ
def fDe_lookAhead_J113 (σ : KM) : Option (Int × KM) :=
  kWfz σ 9 1 1 fun τ1 =>
  kRetI 0 τ1
def fDe_lookAhead_J107 (x2 : Int) (σ : KM) : Option ((Int × KM) ⊕ (Int × KM)) :=
  kLet (x2 + 1) fun y1 =>
  some (.inl (y1, σ))
def fDe_lookAhead_J82 (x2 x3 x4 x5 : Int) (σ : KM) : Option ((Int × KM) ⊕ ((Int × KM) ⊕ (Int × KM))) :=
  kRd σ 34 1152 x4 fun y1 =>
  kCall (fP_plus y1 x5 σ) fun r3 τ2 =>
  kWr τ2 41 1152 x4 r3 fun τ4 =>
  kLet (x3 + 1) fun y5 =>
  some (.inl (y5, τ4))
def fDe_lookAhead_B20 (x2 x3 : Int) (σ : KM) : Option ((Int × KM) ⊕ ((Int × KM) ⊕ (Int × KM))) :=
  kLt x3 24
    (kLet ((x2 * 24) + x3) fun y1 =>
     kRd σ 35 48 x2 fun y2 =>
     kEq y2 0
       (kLt 0 x2
          (kCall (fDe_cheapestMove_41 ((x2 - 1) * 24) x3 σ) fun r4 τ3 =>
           fDe_lookAhead_J82 x2 x3 y1 r4 τ3)
          (fDe_lookAhead_J82 x2 x3 y1 0 σ))
       (kRd σ 41 1152 (y1 - 24) fun y5 =>
        fDe_lookAhead_J82 x2 x3 y1 y5 σ))
    (kExit (fDe_lookAhead_J107 x2 σ))
def fDe_lookAhead_L20 (x2 x3 : Int) (σ : KM) : Option ((Int × KM) ⊕ (Int × KM)) := kIter (fun s => fDe_lookAhead_B20 x2 s.1 s.2) kF (x3, σ)
def fDe_lookAhead_B10 (x2 : Int) (σ : KM) : Option ((Int × KM) ⊕ (Int × KM)) :=
  kLt x2 (σ 8 1)
    (fDe_lookAhead_L20 x2 0 σ)
    (kExit (fDe_lookAhead_J113 σ))
def fDe_lookAhead_L10 (x2 : Int) (σ : KM) : Option (Int × KM) := kIter (fun s => fDe_lookAhead_B10 s.1 s.2) kF (x2, σ)
def fDe_lookAhead (σ : KM) : Option (Int × KM) :=
  kEq (σ 9 1) 0
    (fDe_lookAhead_L10 0 σ)
    (kRetI 0 σ)
def fDe_costThrough_J32 (σ : KM) : Option (Int × KM) :=
  kRetI 1000000000 σ
def fDe_costThrough (x2 x3 : Int) (σ : KM) : Option (Int × KM) :=
  kLet ((x2 * 24) + x3) fun y1 =>
  kRd σ 41 1152 y1 fun y2 =>
  kLt y2 1000000000
    (kRd σ 37 1152 y1 fun y3 =>
     kLt y3 1000000000
       (kRd σ 41 1152 y1 fun y4 =>
        kRd σ 37 1152 y1 fun y5 =>
        kRd σ 34 1152 y1 fun y6 =>
        kRetI ((y4 + y5) - y6) σ)
       (fDe_costThrough_J32 σ))
    (fDe_costThrough_J32 σ)
def fDe_leastAside_J43 (x3 : Int) (σ : KM) : Option (Int × KM) :=
  kRetI x3 σ
def fDe_leastAside_J37 (x2 x3 x4 : Int) (σ : KM) : Option ((Int × Int × KM) ⊕ (Int × KM)) :=
  kLet (x4 + 1) fun y1 =>
  some (.inl (x3, y1, σ))
def fDe_leastAside_B6 (x2 x3 x4 : Int) (σ : KM) : Option ((Int × Int × KM) ⊕ (Int × KM)) :=
  kLt x4 24
    (kRd σ 39 48 x2 fun y1 =>
     kEq x4 y1
       (fDe_leastAside_J37 x2 x3 x4 σ)
       (kCall (fDe_costThrough x2 x4 σ) fun r3 τ2 =>
        kMn x3 r3 fun y4 =>
        fDe_leastAside_J37 x2 y4 x4 τ2))
    (kExit (fDe_leastAside_J43 x3 σ))
def fDe_leastAside_L6 (x2 x3 x4 : Int) (σ : KM) : Option (Int × KM) := kIter (fun s => fDe_leastAside_B6 x2 s.1 s.2.1 s.2.2) kF (x3, x4, σ)
def fDe_leastAside (x2 : Int) (σ : KM) : Option (Int × KM) :=
  fDe_leastAside_L6 x2 1000000000 0 σ
def fP_second_J99 (t0 : Int) (σ : KM) : Option (Int × KM) :=
  kRetI t0 σ
def fP_second_J87 (x1 x2 x3 : Int) (σ : KM) : Option (Int × KM) :=
  kEq x1 0
    (kCall (fP_toldCost x2 σ) fun r2 τ1 =>
     fP_second_J99 r2 τ1)
    (fP_second_J99 x3 σ)
def fP_second_J81 (x1 x2 x3 x4 : Int) (σ : KM) : Option ((Int × Int × Int × KM) ⊕ (Int × KM)) :=
  kLet (x4 + 1) fun y1 =>
  some (.inl (x2, x3, y1, σ))
def fP_second_B42 (x1 x2 x3 x4 : Int) (σ : KM) : Option ((Int × Int × Int × KM) ⊕ (Int × KM)) :=
  kLt x4 (σ 8 1)
    (kCall (fDe_leastAside x4 σ) fun r2 τ1 =>
     kLt r2 x2
       (fP_second_J81 x1 r2 x4 x4 τ1)
       (fP_second_J81 x1 x2 x3 x4 τ1))
    (kExit (fP_second_J87 x1 x2 x3 σ))
def fP_second_L42 (x1 x2 x3 x4 : Int) (σ : KM) : Option (Int × KM) := kIter (fun s => fP_second_B42 x1 s.1 s.2.1 s.2.2.1 s.2.2.2) kF (x2, x3, x4, σ)
def fP_second (x1 : Int) (σ : KM) : Option (Int × KM) :=
  kCall (fP_outOf 0 1 x1 σ) fun r2 τ1 =>
  kEq r2 0
    (kCall (fP_noPath τ1) fun r4 τ3 =>
     kEq r4 0
       (kCall (fDe_lookAhead τ3) fun _ τ5 =>
        fP_second_L42 x1 1000000000 (-1) 0 τ5)
       (kRetI (-5) τ3))
    (kRetI (-2) τ1)
def fP_segment_J25 (σ : KM) : Option (Int × KM) :=
  kRetI (-2) σ
def fP_segment (x1 x2 : Int) (σ : KM) : Option (Int × KM) :=
  kCall (fP_noPath σ) fun r2 τ1 =>
  kEq r2 0
    (kLt x1 0
       (fP_segment_J25 τ1)
       (kLt x1 (τ1 8 12)
          (kRd τ1 40 48 x1 fun y3 =>
           kSw x2 0 [
             kRetI y3 τ1,
             kCall (fFi_lastOf x1 τ1) fun r5 τ4 =>
             kRetI r5 τ4,
             kRd τ1 39 48 y3 fun y6 =>
             kRetI y6 τ1,
             kRetI (y3 * (τ1 5 1)) τ1
             ]
             (kRetI (-2) τ1))
          (fP_segment_J25 τ1)))
    (kRetI (-5) τ1)
def fP_segments_J19 (t0 : Int) (σ : KM) : Option (Int × KM) :=
  kRetI t0 σ
def fP_segments (σ : KM) : Option (Int × KM) :=
  kCall (fP_noPath σ) fun r2 τ1 =>
  kEq r2 0
    (fP_segments_J19 (τ1 8 12) τ1)
    (fP_segments_J19 (-5) τ1)
def fNo_canMove_J35 (σ : KM) : Option (Int × KM) :=
  kRetZ 1 σ
def fNo_canMove_J27 (σ : KM) : Option (Int × KM) :=
  kRetZ 0 σ
def fNo_canMove_B2 (x1 x2 : Int) (σ : KM) : Option ((Int × KM) ⊕ (Int × KM)) :=
  kLt x2 (σ 3 3)
    (kRd σ 18 100 x2 fun y1 =>
     kCall (fP_outOf 0 127 (y1 + x1) σ) fun r3 τ2 =>
     kEq r3 0
       (kLet (x2 + 1) fun y4 =>
        some (.inl (y4, τ2)))
       (kExit (fNo_canMove_J27 τ2)))
    (kExit (fNo_canMove_J35 σ))
def fNo_canMove_L2 (x1 x2 : Int) (σ : KM) : Option (Int × KM) := kIter (fun s => fNo_canMove_B2 x1 s.1 s.2) kF (x2, σ)
def fNo_canMove (x1 : Int) (σ : KM) : Option (Int × KM) :=
  fNo_canMove_L2 x1 0 σ
def fNo_move_J26 (σ : KM) : Option (Int × KM) :=
  kRetI 0 σ
def fNo_move_B2 (x1 x2 : Int) (σ : KM) : Option ((Int × KM) ⊕ (Int × KM)) :=
  kLt x2 (σ 3 3)
    (kRd σ 18 100 x2 fun y1 =>
     kWr σ 18 100 x2 (y1 + x1) fun τ2 =>
     kLet (x2 + 1) fun y3 =>
     some (.inl (y3, τ2)))
    (kExit (fNo_move_J26 σ))
def fNo_move_L2 (x1 x2 : Int) (σ : KM) : Option (Int × KM) := kIter (fun s => fNo_move_B2 x1 s.1 s.2) kF (x2, σ)
def fNo_move (x1 : Int) (σ : KM) : Option (Int × KM) :=
  fNo_move_L2 x1 0 σ
def fP_shift_J23 (σ : KM) : Option (Int × KM) :=
  kRetI (-3) σ
def fP_shift (x1 : Int) (σ : KM) : Option (Int × KM) :=
  kLt x1 (-127)
    (fP_shift_J23 σ)
    (kLt 127 x1
       (fP_shift_J23 σ)
       (kCall (fNo_canMove x1 σ) fun r2 τ1 =>
        kEq r2 0
          (fP_shift_J23 τ1)
          (kCall (fNo_move x1 τ1) fun _ τ3 =>
           kCall (fHi_remember 2 0 0 0 x1 τ3) fun _ τ4 =>
           kCall (fP_notesChanged τ4) fun _ τ5 =>
           kRetI (τ5 3 3) τ5)))
def fP_through_J15 (σ : KM) : Option (Int × KM) :=
  kRetI (-2) σ
def fP_through (x1 x2 : Int) (σ : KM) : Option (Int × KM) :=
  kCall (fP_noWindow x1 σ) fun r2 τ1 =>
  kEq r2 0
    (kCall (fP_noKey x2 τ1) fun r4 τ3 =>
     kEq r4 0
       (kCall (fP_noPath τ3) fun r6 τ5 =>
        kEq r6 0
          (kCall (fDe_lookAhead τ5) fun _ τ7 =>
           kCall (fDe_costThrough x1 x2 τ7) fun r9 τ8 =>
           kCall (fP_toldCost r9 τ8) fun r11 τ10 =>
           kRetI r11 τ10)
          (kRetI (-5) τ5))
       (fP_through_J15 τ3))
    (fP_through_J15 τ1)
def fP_ties_J19 (t0 : Int) (σ : KM) : Option (Int × KM) :=
  kRetI t0 σ
def fP_ties (σ : KM) : Option (Int × KM) :=
  kCall (fP_noPath σ) fun r2 τ1 =>
  kEq r2 0
    (fP_ties_J19 (τ1 8 9) τ1)
    (fP_ties_J19 (-5) τ1)
def fP_tones_J52 (t0 : Int) (σ : KM) : Option (Int × KM) :=
  kRetI t0 σ
def fP_tones (x1 x2 : Int) (σ : KM) : Option (Int × KM) :=
  kCall (fP_noWindow x1 σ) fun r2 τ1 =>
  kEq r2 0
    (kEq x2 (-1)
       (kRd τ1 25 49 x1 fun y6 =>
        kRetI y6 τ1)
       (kCall (fP_noTone x2 τ1) fun r4 τ3 =>
        kEq r4 0
          (kRd τ3 24 588 ((x1 * 12) + x2) fun y5 =>
           fP_tones_J52 y5 τ3)
          (fP_tones_J52 (-3) τ3)))
    (kRetI (-2) τ1)
def fHi_takeBack_J117 (σ : KM) : Option (Int × KM) :=
  kRetI 0 σ
def fHi_takeBack (σ : KM) : Option (Int × KM) :=
  kLt (σ 4 5) 1
    (kRetI 0 σ)
    (kWf σ 4 5 ((σ 4 5) - 1) fun τ1 =>
     kRd τ1 19 10 (τ1 4 5) fun y2 =>
     kEq y2 0
       (kRd τ1 20 10 (τ1 4 5) fun y11 =>
        kCall (fNo_remove y11 τ1) fun _ τ12 =>
        fHi_takeBack_J117 τ12)
       (kRd τ1 19 10 (τ1 4 5) fun y3 =>
        kEq y3 1
          (kRd τ1 20 10 (τ1 4 5) fun y6 =>
           kRd τ1 21 10 (τ1 4 5) fun y7 =>
           kRd τ1 22 10 (τ1 4 5) fun y8 =>
           kRd τ1 23 10 (τ1 4 5) fun y9 =>
           kCall (fNo_insert y6 y7 y8 y9 τ1) fun _ τ10 =>
           fHi_takeBack_J117 τ10)
          (kRd τ1 23 10 (τ1 4 5) fun y4 =>
           kCall (fNo_move (-y4) τ1) fun _ τ5 =>
           fHi_takeBack_J117 τ5)))
def fP_undo (σ : KM) : Option (Int × KM) :=
  kEq (σ 4 5) 0
    (kRetI (-5) σ)
    (kCall (fHi_takeBack σ) fun _ τ1 =>
     kCall (fP_notesChanged τ1) fun _ τ2 =>
     kRetI (τ2 4 5) τ2)
def fDe_keysUpTo_J34 (x4 : Int) (σ : KM) : Option (Int × KM) :=
  kRetI x4 σ
def fDe_keysUpTo_J28 (x2 x3 x4 x5 : Int) (σ : KM) : Option ((Int × Int × KM) ⊕ (Int × KM)) :=
  kLet (x5 + 1) fun y1 =>
  some (.inl (x4, y1, σ))
def fDe_keysUpTo_B6 (x2 x3 x4 x5 : Int) (σ : KM) : Option ((Int × Int × KM) ⊕ (Int × KM)) :=
  kLt x5 24
    (kCall (fDe_costThrough x2 x5 σ) fun r2 τ1 =>
     kLt x3 r2
       (fDe_keysUpTo_J28 x2 x3 x4 x5 τ1)
       (kLet (x4 + 1) fun y3 =>
        fDe_keysUpTo_J28 x2 x3 y3 x5 τ1))
    (kExit (fDe_keysUpTo_J34 x4 σ))
def fDe_keysUpTo_L6 (x2 x3 x4 x5 : Int) (σ : KM) : Option (Int × KM) := kIter (fun s => fDe_keysUpTo_B6 x2 x3 s.1 s.2.1 s.2.2) kF (x4, x5, σ)
def fDe_keysUpTo (x2 x3 : Int) (σ : KM) : Option (Int × KM) :=
  fDe_keysUpTo_L6 x2 x3 0 0 σ
def fP_unsure (x1 x2 : Int) (σ : KM) : Option (Int × KM) :=
  kCall (fP_noWindow x1 σ) fun r2 τ1 =>
  kEq r2 0
    (kCall (fP_outOf 0 9999 x2 τ1) fun r4 τ3 =>
     kEq r4 0
       (kCall (fP_noPath τ3) fun r6 τ5 =>
        kEq r6 0
          (kCall (fDe_lookAhead τ5) fun _ τ7 =>
           kCall (fDe_keysUpTo x1 ((τ7 8 8) + x2) τ7) fun r9 τ8 =>
           kRetI r9 τ8)
          (kRetI (-5) τ5))
       (kRetI (-3) τ3))
    (kRetI (-2) τ1)
def fNe_nextOnWay_J77 (t0 : Int) (σ : KM) : Option (Int × KM) :=
  kRetI t0 σ
def fNe_nextOnWay_J66 (x2 x3 : Int) (σ : KM) : Option (Int × KM) :=
  kLt x3 24
    (fNe_nextOnWay_J77 x3 σ)
    (fNe_nextOnWay_J77 x2 σ)
def fNe_nextOnWay_J60 (x1 x2 x3 x4 : Int) (σ : KM) : Option ((Int × Int × KM) ⊕ (Int × KM)) :=
  kLet (x4 + 1) fun y1 =>
  some (.inl (x3, y1, σ))
def fNe_nextOnWay_B6 (x1 x2 x3 x4 : Int) (σ : KM) : Option ((Int × Int × KM) ⊕ (Int × KM)) :=
  kLt x4 4
    (kCall (fNe_neighbour x1 x4 σ) fun r2 τ1 =>
     kRd τ1 31 576 ((x1 * 24) + x2) fun y3 =>
     kCall (fNe_rankOfStep x4 τ1) fun r5 τ4 =>
     kRd τ4 31 576 ((r2 * 24) + x2) fun y6 =>
     kEq y3 (r5 + y6)
       (kMn x3 r2 fun y7 =>
        fNe_nextOnWay_J60 x1 x2 y7 x4 τ4)
       (fNe_nextOnWay_J60 x1 x2 x3 x4 τ4))
    (kExit (fNe_nextOnWay_J66 x2 x3 σ))
def fNe_nextOnWay_L6 (x1 x2 x3 x4 : Int) (σ : KM) : Option (Int × KM) := kIter (fun s => fNe_nextOnWay_B6 x1 x2 s.1 s.2.1 s.2.2) kF (x3, x4, σ)
def fNe_nextOnWay (x1 x2 : Int) (σ : KM) : Option (Int × KM) :=
  fNe_nextOnWay_L6 x1 x2 24 0 σ
def fNe_keyOnWay_J43 (x4 : Int) (σ : KM) : Option (Int × KM) :=
  kRetI x4 σ
def fNe_keyOnWay_J26 (σ : KM) : Option (Int × KM) :=
  kRetI (-1) σ
def fNe_keyOnWay_B14 (x2 x3 x4 x5 : Int) (σ : KM) : Option ((Int × Int × KM) ⊕ (Int × KM)) :=
  kLt x5 x3
    (kEq x4 x2
       (kExit (fNe_keyOnWay_J26 σ))
       (kCall (fNe_nextOnWay x4 x2 σ) fun r2 τ1 =>
        kLet (x5 + 1) fun y3 =>
        some (.inl (r2, y3, τ1))))
    (kExit (fNe_keyOnWay_J43 x4 σ))
def fNe_keyOnWay_L14 (x2 x3 x4 x5 : Int) (σ : KM) : Option (Int × KM) := kIter (fun s => fNe_keyOnWay_B14 x2 x3 s.1 s.2.1 s.2.2) kF (x4, x5, σ)
def fNe_keyOnWay (x1 x2 x3 : Int) (σ : KM) : Option (Int × KM) :=
  kLt x3 24
    (fNe_keyOnWay_L14 x2 x3 x1 0 σ)
    (kRetI (-1) σ)
def fP_way_J14 (σ : KM) : Option (Int × KM) :=
  kRetI (-2) σ
def fP_way (x1 x2 x3 : Int) (σ : KM) : Option (Int × KM) :=
  kCall (fP_noKey x1 σ) fun r2 τ1 =>
  kEq r2 0
    (kCall (fP_noKey x2 τ1) fun r4 τ3 =>
     kEq r4 0
       (kLt x3 0
          (kRetI (-3) τ3)
          (kCall (fNe_refresh τ3) fun _ τ5 =>
           kCall (fNe_keyOnWay x1 x2 x3 τ5) fun r7 τ6 =>
           kRetI r7 τ6))
       (fP_way_J14 τ3))
    (fP_way_J14 τ1)
def fP_weight_J14 (σ : KM) : Option (Int × KM) :=
  kRetI (-2) σ
def fP_weight (x1 x2 x3 : Int) (σ : KM) : Option (Int × KM) :=
  kCall (fP_noMode x1 σ) fun r2 τ1 =>
  kEq r2 0
    (kCall (fP_noTone x2 τ1) fun r4 τ3 =>
     kEq r4 0
       (kCall (fP_outOf 0 99 x3 τ3) fun r6 τ5 =>
        kEq r6 0
          (kRd τ5 27 24 ((x1 * 12) + x2) fun y7 =>
           kWr τ5 27 24 ((x1 * 12) + x2) x3 fun τ8 =>
           kCall (fP_weightsChanged τ8) fun _ τ9 =>
           kRetI y7 τ9)
          (kRetI (-3) τ5))
       (fP_weight_J14 τ3))
    (fP_weight_J14 τ1)
def fP_windows_J22 (σ : KM) : Option (Int × KM) :=
  kRetI (-3) σ
def fP_windows (x1 x2 : Int) (σ : KM) : Option (Int × KM) :=
  kCall (fP_outOf 4 128 x1 σ) fun r2 τ1 =>
  kEq r2 0
    (kCall (fP_outOf 4 128 x2 τ1) fun r4 τ3 =>
     kEq r4 0
       (kCall (fNo_end τ3) fun r6 τ5 =>
        kCall (fWi_beginsAhead r6 x2 τ5) fun r8 τ7 =>
        kLt 48 r8
          (kRetI (-4) τ7)
          (kWf τ7 5 0 x1 fun τ9 =>
           kWf τ9 5 1 x2 fun τ10 =>
           kCall (fP_notesChanged τ10) fun _ τ11 =>
           kCall (fP_freshWindows τ11) fun _ τ12 =>
           kRetI (τ12 5 2) τ12))
       (fP_windows_J22 τ3))
    (fP_windows_J22 τ1)
def fFi_moves (σ : KM) : Option (Int × KM) :=
  kMx 0 ((σ 8 12) - 1) fun y1 =>
  kRetI y1 σ
def fDe_leastOf_42_J27 (x2 : Int) (σ : KM) : Option (Int × KM) :=
  kRetI x2 σ
def fDe_leastOf_42_B5 (x1 x2 x3 : Int) (σ : KM) : Option ((Int × Int × KM) ⊕ (Int × KM)) :=
  kLt x3 24
    (kRd σ 42 1152 (x1 + x3) fun y1 =>
     kMn x2 y1 fun y2 =>
     kLet (x3 + 1) fun y3 =>
     some (.inl (y2, y3, σ)))
    (kExit (fDe_leastOf_42_J27 x2 σ))
def fDe_leastOf_42_L5 (x1 x2 x3 : Int) (σ : KM) : Option (Int × KM) := kIter (fun s => fDe_leastOf_42_B5 x1 s.1 s.2.1 s.2.2) kF (x2, x3, σ)
def fDe_leastOf_42 (x1 : Int) (σ : KM) : Option (Int × KM) :=
  fDe_leastOf_42_L5 x1 1000000000 0 σ
def fDe_cheapestMove_42_J46 (x4 : Int) (σ : KM) : Option (Int × KM) :=
  kRetI x4 σ
def fDe_cheapestMove_42_B7 (x2 x3 x4 x5 : Int) (σ : KM) : Option ((Int × Int × KM) ⊕ (Int × KM)) :=
  kLt x5 24
    (kRd σ 42 1152 (x2 + x5) fun y1 =>
     kRd σ 36 576 ((x5 * 24) + x3) fun y2 =>
     kMn x4 (y1 + y2) fun y3 =>
     kLet (x5 + 1) fun y4 =>
     some (.inl (y3, y4, σ)))
    (kExit (fDe_cheapestMove_42_J46 x4 σ))
def fDe_cheapestMove_42_L7 (x2 x3 x4 x5 : Int) (σ : KM) : Option (Int × KM) := kIter (fun s => fDe_cheapestMove_42_B7 x2 x3 s.1 s.2.1 s.2.2) kF (x4, x5, σ)
def fDe_cheapestMove_42 (x2 x3 : Int) (σ : KM) : Option (Int × KM) :=
  fDe_cheapestMove_42_L7 x2 x3 1000000000 0 σ
def fDe_goOn_J96 (σ : KM) : Option (Int × KM) :=
  kRetI 0 σ
def fDe_goOn_J66 (x2 x3 x4 x5 x6 : Int) (σ : KM) : Option ((Int × KM) ⊕ (Int × KM)) :=
  kRd σ 34 1152 ((x2 * 24) + x4) fun y1 =>
  kCall (fP_plus y1 x6 σ) fun r3 τ2 =>
  kWr τ2 42 1152 x5 r3 fun τ4 =>
  kLet (x4 + 1) fun y5 =>
  some (.inl (y5, τ4))
def fDe_goOn_B3 (x2 x3 x4 : Int) (σ : KM) : Option ((Int × KM) ⊕ (Int × KM)) :=
  kLt x4 24
    (kLet ((x3 * 24) + x4) fun y1 =>
     kRd σ 42 1152 y1 fun y2 =>
     kLt 0 x3
       (kRd σ 35 48 x2 fun y3 =>
        kEq y3 0
          (kCall (fDe_cheapestMove_42 ((y1 - x4) - 24) x4 σ) fun r5 τ4 =>
           kMn y2 r5 fun y6 =>
           fDe_goOn_J66 x2 x3 x4 y1 y6 τ4)
          (fDe_goOn_J66 x2 x3 x4 y1 y2 σ))
       (fDe_goOn_J66 x2 x3 x4 y1 y2 σ))
    (kExit (fDe_goOn_J96 σ))
def fDe_goOn_L3 (x2 x3 x4 : Int) (σ : KM) : Option (Int × KM) := kIter (fun s => fDe_goOn_B3 x2 x3 s.1 s.2) kF (x4, σ)
def fDe_goOn (x2 x3 : Int) (σ : KM) : Option (Int × KM) :=
  fDe_goOn_L3 x2 x3 0 σ
def fDe_countMoves_J119 (σ : KM) : Option (Int × KM) :=
  kWfz σ 9 4 1 fun τ1 =>
  kRetI 0 τ1
def fDe_countMoves_B91 (x2 x3 : Int) (σ : KM) : Option ((Int × KM) ⊕ (Int × KM)) :=
  kLt x3 x2
    (kCall (fDe_leastOf_42 (x3 * 24) σ) fun r2 τ1 =>
     kWr τ1 43 48 x3 r2 fun τ3 =>
     kLet (x3 + 1) fun y4 =>
     some (.inl (y4, τ3)))
    (kExit (fDe_countMoves_J119 σ))
def fDe_countMoves_L91 (x2 x3 : Int) (σ : KM) : Option (Int × KM) := kIter (fun s => fDe_countMoves_B91 x2 s.1 s.2) kF (x3, σ)
def fDe_countMoves_J89 (x2 : Int) (σ : KM) : Option (Int × KM) :=
  fDe_countMoves_L91 x2 0 σ
def fDe_countMoves_J83 (x2 x3 : Int) (σ : KM) : Option ((Int × KM) ⊕ (Int × KM)) :=
  kLet (x3 + 1) fun y1 =>
  some (.inl (y1, σ))
def fDe_countMoves_B64 (x2 x3 x4 : Int) (σ : KM) : Option ((Int × KM) ⊕ ((Int × KM) ⊕ (Int × KM))) :=
  kLt x4 0
    (kExit (fDe_countMoves_J83 x2 x3 σ))
    (kCall (fDe_goOn x3 x4 σ) fun _ τ1 =>
     kLet (x4 + (-1)) fun y2 =>
     some (.inl (y2, τ1)))
def fDe_countMoves_L64 (x2 x3 x4 : Int) (σ : KM) : Option ((Int × KM) ⊕ (Int × KM)) := kIter (fun s => fDe_countMoves_B64 x2 x3 s.1 s.2) kF (x4, σ)
def fDe_countMoves_B51 (x2 x3 : Int) (σ : KM) : Option ((Int × KM) ⊕ (Int × KM)) :=
  kLt x3 (σ 8 1)
    (kLet (x2 - 1) fun y1 =>
     fDe_countMoves_L64 x2 x3 y1 σ)
    (kExit (fDe_countMoves_J89 x2 σ))
def fDe_countMoves_L51 (x2 x3 : Int) (σ : KM) : Option (Int × KM) := kIter (fun s => fDe_countMoves_B51 x2 s.1 s.2) kF (x3, σ)
def fDe_countMoves_J49 (x2 : Int) (σ : KM) : Option (Int × KM) :=
  fDe_countMoves_L51 x2 1 σ
def fDe_countMoves_B20 (x2 x3 : Int) (σ : KM) : Option ((Int × KM) ⊕ (Int × KM)) :=
  kLt x3 (x2 * 24)
    (kRm x3 24 fun y1 =>
     kRd σ 34 1152 y1 fun y2 =>
     kWr σ 42 1152 x3 y2 fun τ3 =>
     kLet (x3 + 1) fun y4 =>
     some (.inl (y4, τ3)))
    (kExit (fDe_countMoves_J49 x2 σ))
def fDe_countMoves_L20 (x2 x3 : Int) (σ : KM) : Option (Int × KM) := kIter (fun s => fDe_countMoves_B20 x2 s.1 s.2) kF (x3, σ)
def fDe_countMoves (σ : KM) : Option (Int × KM) :=
  kEq (σ 9 4) 0
    (kCall (fFi_moves σ) fun r2 τ1 =>
     kMn 48 r2 fun y3 =>
     fDe_countMoves_L20 y3 0 τ1)
    (kRetI 0 σ)
def fP_within (x1 : Int) (σ : KM) : Option (Int × KM) :=
  kCall (fP_outOf 0 47 x1 σ) fun r2 τ1 =>
  kEq r2 0
    (kCall (fP_noPath τ1) fun r4 τ3 =>
     kEq r4 0
       (kCall (fFi_moves τ3) fun r6 τ5 =>
        kLt x1 r6
          (kCall (fDe_countMoves τ5) fun _ τ7 =>
           kRd τ7 43 48 x1 fun y8 =>
           kCall (fP_toldCost y8 τ7) fun r10 τ9 =>
           kRetI r10 τ9)
          (kRetI (τ5 8 8) τ5))
       (kRetI (-5) τ3))
    (kRetI (-3) τ1)
def fM_theEnd_J53 (x1 : Int) (σ : KM) : Option (Int × KM) :=
  kRetI x1 σ
def fM_theEnd_J46 (x2 t0 : Int) (σ : KM) : Option ((Int × Int × KM) ⊕ (Int × KM)) :=
  kLet (x2 + 1) fun y1 =>
  some (.inl (t0, y1, σ))
def fM_theEnd_B4 (x1 x2 : Int) (σ : KM) : Option ((Int × Int × KM) ⊕ (Int × KM)) :=
  kLt x2 (σ 10 7)
    (kRd σ 45 100 x2 fun y1 =>
     kRd σ 46 100 x2 fun y2 =>
     kLt x1 (y1 + y2)
       (kRd σ 45 100 x2 fun y3 =>
        kRd σ 46 100 x2 fun y4 =>
        fM_theEnd_J46 x2 (y3 + y4) σ)
       (fM_theEnd_J46 x2 x1 σ))
    (kExit (fM_theEnd_J53 x1 σ))
def fM_theEnd_L4 (x1 x2 : Int) (σ : KM) : Option (Int × KM) := kIter (fun s => fM_theEnd_B4 s.1 s.2.1 s.2.2) kF (x1, x2, σ)
def fM_theEnd (σ : KM) : Option (Int × KM) :=
  fM_theEnd_L4 0 0 σ
def fM_windowsBy (x1 : Int) (σ : KM) : Option (Int × KM) :=
  kCall (fM_theEnd σ) fun r2 τ1 =>
  kDv ((r2 + x1) - 1) x1 fun y3 =>
  kRetI y3 τ1
def fM_windowMany_J21 (t0 : Int) (σ : KM) : Option (Int × KM) :=
  kRetI t0 σ
def fM_windowMany (σ : KM) : Option (Int × KM) :=
  kCall (fM_windowsBy (σ 10 12) σ) fun r2 τ1 =>
  kLt 48 r2
    (fM_windowMany_J21 48 τ1)
    (fM_windowMany_J21 r2 τ1)
def fM_isIn_J18 (t0 : Int) (σ : KM) : Option (Int × KM) :=
  kRetZ t0 σ
def fM_isIn_J17 (σ : KM) : Option (Int × KM) :=
  fM_isIn_J18 0 σ
def fM_isIn (x0 x2 x4 : Int) (σ : KM) : Option (Int × KM) :=
  kCk6 x0 x2 <|
  kLt (kcmp x0 x2) 0
    (fM_isIn_J17 σ)
    (kCk6 x0 x4 <|
     kLt 0 (kcmp x0 x4)
       (fM_isIn_J17 σ)
       (fM_isIn_J18 1 σ))
def fM_isWindow (x1 : Int) (σ : KM) : Option (Int × KM) :=
  kCk x1 <|
  kCall (fM_windowMany σ) fun r2 τ1 =>
  kCk (r2 - 1) <|
  kCall (fM_isIn x1 0 (r2 - 1) τ1) fun r4 τ3 =>
  kRetZ r4 τ3
def fM_counted_J146 (σ : KM) : Option (Int × KM) :=
  kRetI 0 σ
def fM_counted_J140 (x1 x2 x3 : Int) (σ : KM) : Option ((Int × KM) ⊕ (Int × KM)) :=
  kLet (x3 + 1) fun y1 =>
  some (.inl (y1, σ))
def fM_counted_J92 (x1 x2 x3 x4 t0 : Int) (σ : KM) : Option ((Int × KM) ⊕ (Int × KM)) :=
  kLt x4 t0
    (kRd σ 47 100 x3 fun y1 =>
     kRm y1 12 fun y2 =>
     kRd σ 55 12 y2 fun y3 =>
     kWr σ 55 12 y2 (y3 + (t0 - x4)) fun τ4 =>
     kWf τ4 10 27 ((τ4 10 27) + (t0 - x4)) fun τ5 =>
     fM_counted_J140 x1 x2 x3 τ5)
    (fM_counted_J140 x1 x2 x3 σ)
def fM_counted_J56 (x1 x2 x3 t0 : Int) (σ : KM) : Option ((Int × KM) ⊕ (Int × KM)) :=
  kRd σ 45 100 x3 fun y1 =>
  kRd σ 46 100 x3 fun y2 =>
  kLt (y1 + y2) x2
    (kRd σ 45 100 x3 fun y3 =>
     kRd σ 46 100 x3 fun y4 =>
     fM_counted_J92 x1 x2 x3 t0 (y3 + y4) σ)
    (fM_counted_J92 x1 x2 x3 t0 x2 σ)
def fM_counted_B28 (x1 x2 x3 : Int) (σ : KM) : Option ((Int × KM) ⊕ (Int × KM)) :=
  kLt x3 (σ 10 7)
    (kRd σ 45 100 x3 fun y1 =>
     kLt x1 y1
       (kRd σ 45 100 x3 fun y2 =>
        fM_counted_J56 x1 x2 x3 y2 σ)
       (fM_counted_J56 x1 x2 x3 x1 σ))
    (kExit (fM_counted_J146 σ))
def fM_counted_L28 (x1 x2 x3 : Int) (σ : KM) : Option (Int × KM) := kIter (fun s => fM_counted_B28 x1 x2 s.1 s.2) kF (x3, σ)
def fM_counted_J26 (x1 x2 : Int) (σ : KM) : Option (Int × KM) :=
  fM_counted_L28 x1 x2 0 σ
def fM_counted_B7 (x1 x2 x3 : Int) (σ : KM) : Option ((Int × KM) ⊕ (Int × KM)) :=
  kLt x3 12
    (kWr σ 55 12 x3 0 fun τ1 =>
     kLet (x3 + 1) fun y2 =>
     some (.inl (y2, τ1)))
    (kExit (fM_counted_J26 x1 x2 σ))
def fM_counted_L7 (x1 x2 x3 : Int) (σ : KM) : Option (Int × KM) := kIter (fun s => fM_counted_B7 x1 x2 s.1 s.2) kF (x3, σ)
def fM_counted (x1 x2 : Int) (σ : KM) : Option (Int × KM) :=
  kWf σ 10 27 0 fun τ1 =>
  fM_counted_L7 x1 x2 0 τ1
def fM_countedIn (x1 : Int) (σ : KM) : Option (Int × KM) :=
  kCall (fM_counted ((σ 10 12) * x1) (((σ 10 12) * x1) + (σ 10 11)) σ) fun _ τ1 =>
  kRetI 0 τ1
def fM_toneOf_J41 (x0 t0 : Int) (σ : KM) : Option (Int × KM) :=
  kDv x0 3 fun y1 =>
  kRm (y1 + t0) 12 fun y2 =>
  kRetI y2 σ
def fM_toneOf (x0 x1 : Int) (σ : KM) : Option (Int × KM) :=
  kRm x0 3 fun y1 =>
  kEq x1 0
    (fM_toneOf_J41 x0 0 σ)
    (kEq x1 1
       (kEq y1 0
          (fM_toneOf_J41 x0 4 σ)
          (fM_toneOf_J41 x0 3 σ))
       (kEq y1 2
          (fM_toneOf_J41 x0 6 σ)
          (fM_toneOf_J41 x0 7 σ)))
def fM_chordNow_J75 (x1 : Int) (σ : KM) : Option (Int × KM) :=
  kRetI x1 σ
def fM_chordNow_J69 (x1 x2 x3 : Int) (σ : KM) : Option ((Int × Int × Int × KM) ⊕ (Int × KM)) :=
  kLet (x3 + 1) fun y1 =>
  some (.inl (x1, x2, y1, σ))
def fM_chordNow_B15 (x1 x2 x3 : Int) (σ : KM) : Option ((Int × Int × Int × KM) ⊕ (Int × KM)) :=
  kLt x3 36
    (kCall (fM_toneOf x3 0 σ) fun r2 τ1 =>
     kRd τ1 55 12 r2 fun y3 =>
     kCall (fM_toneOf x3 1 τ1) fun r5 τ4 =>
     kRd τ4 55 12 r5 fun y6 =>
     kCall (fM_toneOf x3 2 τ4) fun r8 τ7 =>
     kRd τ7 55 12 r8 fun y9 =>
     kLet ((y3 + y6) + y9) fun y10 =>
     kLt x2 y10
       (fM_chordNow_J69 x3 y10 x3 τ7)
       (fM_chordNow_J69 x1 x2 x3 τ7))
    (kExit (fM_chordNow_J75 x1 σ))
def fM_chordNow_L15 (x1 x2 x3 : Int) (σ : KM) : Option (Int × KM) := kIter (fun s => fM_chordNow_B15 s.1 s.2.1 s.2.2.1 s.2.2.2) kF (x1, x2, x3, σ)
def fM_chordNow (σ : KM) : Option (Int × KM) :=
  kEq (σ 10 27) 0
    (kRetI (-1) σ)
    (fM_chordNow_L15 0 (-1) 0 σ)
def fM_chord (x1 : Int) (σ : KM) : Option (Int × KM) :=
  kWf σ 10 0 0 fun τ1 =>
  kCall (fM_isWindow x1 τ1) fun r3 τ2 =>
  kEq r3 0
    (kRetI (-2) τ2)
    (kCall (fM_countedIn x1 τ2) fun _ τ4 =>
     kCall (fM_chordNow τ4) fun r6 τ5 =>
     kRetI r6 τ5)
def fM_next_J61 (t0 t1 : Int) (σ : KM) : Option (Int × KM) :=
  kRetI (t1 + t0) σ
def fM_next_J79 (t0 t1 : Int) (σ : KM) : Option (Int × KM) :=
  kRetI (t1 + t0) σ
def fM_next_J104 (t0 : Int) (σ : KM) : Option (Int × KM) :=
  kRetI t0 σ
def fM_next_J117 (t0 : Int) (σ : KM) : Option (Int × KM) :=
  kRetI t0 σ
def fM_next_J16 (x0 x1 x2 t0 : Int) (σ : KM) : Option (Int × KM) :=
  kSw x1 0 [
    kRm (x2 + 7) 12 fun y1 =>
    kEq t0 0
      (fM_next_J61 0 y1 σ)
      (fM_next_J61 12 y1 σ),
    kRm (x2 + 5) 12 fun y2 =>
    kEq t0 0
      (fM_next_J79 0 y2 σ)
      (fM_next_J79 12 y2 σ),
    kEq t0 0
      (kRm (x2 + 9) 12 fun y3 =>
       fM_next_J104 (y3 + 12) σ)
      (kRm (x2 + 3) 12 fun y4 =>
       fM_next_J104 y4 σ)
    ]
    (kEq t0 0
       (fM_next_J117 (x0 + 12) σ)
       (fM_next_J117 x2 σ))
def fM_next (x0 x1 : Int) (σ : KM) : Option (Int × KM) :=
  kRm x0 12 fun y1 =>
  kLt x0 12
    (fM_next_J16 x0 x1 y1 0 σ)
    (fM_next_J16 x0 x1 y1 1 σ)
def fM_costs_J28 (t0 : Int) (σ : KM) : Option (Int × KM) :=
  kRetI t0 σ
def fM_costs (x1 : Int) (σ : KM) : Option (Int × KM) :=
  kLt x1 2
    (fM_costs_J28 (σ 10 13) σ)
    (kEq x1 2
       (fM_costs_J28 (σ 10 14) σ)
       (fM_costs_J28 (σ 10 15) σ))
def fM_laysFar_J183 (σ : KM) : Option (Int × KM) :=
  kRetI 0 σ
def fM_laysFar_J180 (x2 : Int) (σ : KM) : Option ((Int × KM) ⊕ (Int × KM)) :=
  some (.inl (x2, σ))
def fM_laysFar_J174 (x2 x3 : Int) (σ : KM) : Option ((Int × Int × KM) ⊕ ((Int × KM) ⊕ (Int × KM))) :=
  kLet (x3 + 1) fun y1 =>
  some (.inl (x2, y1, σ))
def fM_laysFar_J168 (x2 x3 x4 : Int) (σ : KM) : Option ((Int × Int × KM) ⊕ ((Int × Int × KM) ⊕ ((Int × KM) ⊕ (Int × KM)))) :=
  kLet (x4 + 1) fun y1 =>
  some (.inl (x2, y1, σ))
def fM_laysFar_J143 (x3 x4 x5 x6 : Int) (σ : KM) : Option ((Int × Int × KM) ⊕ ((Int × Int × KM) ⊕ ((Int × KM) ⊕ (Int × KM)))) :=
  kWr σ 56 24 x3 x6 fun τ1 =>
  kRd τ1 57 24 x5 fun y2 =>
  kWr τ1 57 24 x3 (y2 + 1) fun τ3 =>
  fM_laysFar_J168 1 x3 x4 τ3
def fM_laysFar_B55 (x3 x2 x4 : Int) (σ : KM) : Option ((Int × Int × KM) ⊕ ((Int × Int × KM) ⊕ ((Int × KM) ⊕ (Int × KM)))) :=
  kLt x4 4
    (kCall (fM_next x3 x4 σ) fun r2 τ1 =>
     kRd τ1 56 24 r2 fun y3 =>
     kEq y3 1000000000
       (fM_laysFar_J168 x2 x3 x4 τ1)
       (kRd τ1 56 24 r2 fun y4 =>
        kCall (fM_costs x4 τ1) fun r6 τ5 =>
        kLet (y4 + r6) fun y7 =>
        kRd τ5 56 24 x3 fun y8 =>
        kLt y8 y7
          (fM_laysFar_J168 x2 x3 x4 τ5)
          (kRd τ5 56 24 x3 fun y9 =>
           kEq y7 y9
             (kRd τ5 57 24 r2 fun y10 =>
              kRd τ5 57 24 x3 fun y11 =>
              kLt (y10 + 1) y11
                (fM_laysFar_J143 x3 x4 r2 y7 τ5)
                (fM_laysFar_J168 x2 x3 x4 τ5))
             (fM_laysFar_J143 x3 x4 r2 y7 τ5))))
    (kExit (fM_laysFar_J174 x2 x3 σ))
def fM_laysFar_L55 (x3 x2 x4 : Int) (σ : KM) : Option ((Int × Int × KM) ⊕ ((Int × KM) ⊕ (Int × KM))) := kIter (fun s => fM_laysFar_B55 x3 s.1 s.2.1 s.2.2) kF (x2, x4, σ)
def fM_laysFar_B46 (x2 x3 : Int) (σ : KM) : Option ((Int × Int × KM) ⊕ ((Int × KM) ⊕ (Int × KM))) :=
  kLt x3 24
    (fM_laysFar_L55 x3 x2 0 σ)
    (kExit (fM_laysFar_J180 x2 σ))
def fM_laysFar_L46 (x2 x3 : Int) (σ : KM) : Option ((Int × KM) ⊕ (Int × KM)) := kIter (fun s => fM_laysFar_B46 s.1 s.2.1 s.2.2) kF (x2, x3, σ)
def fM_laysFar_B38 (x2 : Int) (σ : KM) : Option ((Int × KM) ⊕ (Int × KM)) :=
  kEq x2 0
    (kExit (fM_laysFar_J183 σ))
    (fM_laysFar_L46 0 0 σ)
def fM_laysFar_L38 (x2 : Int) (σ : KM) : Option (Int × KM) := kIter (fun s => fM_laysFar_B38 s.1 s.2) kF (x2, σ)
def fM_laysFar_J22 (x1 : Int) (σ : KM) : Option (Int × KM) :=
  kWr σ 56 24 x1 0 fun τ1 =>
  kWr τ1 57 24 x1 0 fun τ2 =>
  fM_laysFar_L38 1 τ2
def fM_laysFar_B2 (x1 x2 : Int) (σ : KM) : Option ((Int × KM) ⊕ (Int × KM)) :=
  kLt x2 24
    (kWr σ 56 24 x2 1000000000 fun τ1 =>
     kLet (x2 + 1) fun y2 =>
     some (.inl (y2, τ1)))
    (kExit (fM_laysFar_J22 x1 σ))
def fM_laysFar_L2 (x1 x2 : Int) (σ : KM) : Option (Int × KM) := kIter (fun s => fM_laysFar_B2 x1 s.1 s.2) kF (x2, σ)
def fM_laysFar (x1 : Int) (σ : KM) : Option (Int × KM) :=
  fM_laysFar_L2 x1 0 σ
def fM_laysNet_J50 (σ : KM) : Option (Int × KM) :=
  kRetI 0 σ
def fM_laysNet_J44 (x1 : Int) (σ : KM) : Option ((Int × KM) ⊕ (Int × KM)) :=
  kLet (x1 + 1) fun y1 =>
  some (.inl (y1, σ))
def fM_laysNet_B15 (x1 x2 : Int) (σ : KM) : Option ((Int × KM) ⊕ ((Int × KM) ⊕ (Int × KM))) :=
  kLt x2 24
    (kRd σ 56 24 x2 fun y1 =>
     kWr σ 58 576 ((24 * x2) + x1) y1 fun τ2 =>
     kLet (x2 + 1) fun y3 =>
     some (.inl (y3, τ2)))
    (kExit (fM_laysNet_J44 x1 σ))
def fM_laysNet_L15 (x1 x2 : Int) (σ : KM) : Option ((Int × KM) ⊕ (Int × KM)) := kIter (fun s => fM_laysNet_B15 x1 s.1 s.2) kF (x2, σ)
def fM_laysNet_B2 (x1 : Int) (σ : KM) : Option ((Int × KM) ⊕ (Int × KM)) :=
  kLt x1 24
    (kCall (fM_laysFar x1 σ) fun _ τ1 =>
     fM_laysNet_L15 x1 0 τ1)
    (kExit (fM_laysNet_J50 σ))
def fM_laysNet_L2 (x1 : Int) (σ : KM) : Option (Int × KM) := kIter (fun s => fM_laysNet_B2 s.1 s.2) kF (x1, σ)
def fM_laysNet (σ : KM) : Option (Int × KM) :=
  fM_laysNet_L2 0 σ
def fM_matched_J51 (x2 : Int) (σ : KM) : Option (Int × KM) :=
  kRetI x2 σ
def fM_matched_B4 (x1 x2 x3 : Int) (σ : KM) : Option ((Int × Int × KM) ⊕ (Int × KM)) :=
  kLt x3 12
    (kRd σ 55 12 x3 fun y1 =>
     kDv x1 12 fun y2 =>
     kRm x1 12 fun y3 =>
     kRm ((x3 - y3) + 12) 12 fun y4 =>
     kRd σ 52 24 ((y2 * 12) + y4) fun y5 =>
     kLet (x2 + (y1 * y5)) fun y6 =>
     kLet (x3 + 1) fun y7 =>
     some (.inl (y6, y7, σ)))
    (kExit (fM_matched_J51 x2 σ))
def fM_matched_L4 (x1 x2 x3 : Int) (σ : KM) : Option (Int × KM) := kIter (fun s => fM_matched_B4 x1 s.1 s.2.1 s.2.2) kF (x2, x3, σ)
def fM_matched (x1 : Int) (σ : KM) : Option (Int × KM) :=
  fM_matched_L4 x1 0 0 σ
def fM_fitted_J24 (t0 : Int) (σ : KM) : Option (Int × KM) :=
  kRetI t0 σ
def fM_fitted (x1 : Int) (σ : KM) : Option (Int × KM) :=
  kEq (σ 10 27) 0
    (fM_fitted_J24 0 σ)
    (kCall (fM_matched x1 σ) fun r2 τ1 =>
     kDv (100 * r2) (τ1 10 27) fun y3 =>
     fM_fitted_J24 y3 τ1)
def fM_laysOwn_J143 (σ : KM) : Option (Int × KM) :=
  kRetI 0 σ
def fM_laysOwn_J137 (x1 : Int) (σ : KM) : Option ((Int × KM) ⊕ (Int × KM)) :=
  kLet (x1 + 1) fun y1 =>
  some (.inl (y1, σ))
def fM_laysOwn_J130 (x1 x2 x3 t0 t1 : Int) (σ : KM) : Option ((Int × KM) ⊕ ((Int × KM) ⊕ (Int × KM))) :=
  kWr σ 59 1152 t1 t0 fun τ1 =>
  kLet (x3 + 1) fun y2 =>
  some (.inl (y2, τ1))
def fM_laysOwn_J123 (x1 x2 x3 t0 : Int) (σ : KM) : Option ((Int × KM) ⊕ ((Int × KM) ⊕ (Int × KM))) :=
  kCall (fM_fitted x3 σ) fun r2 τ1 =>
  fM_laysOwn_J130 x1 x2 x3 (x2 - r2) t0 τ1
def fM_laysOwn_B82 (x1 x2 x3 : Int) (σ : KM) : Option ((Int × KM) ⊕ ((Int × KM) ⊕ (Int × KM))) :=
  kLt x3 24
    (kRd σ 53 48 x1 fun y1 =>
     kEq y1 (-1)
       (fM_laysOwn_J123 x1 x2 x3 ((24 * x1) + x3) σ)
       (kRd σ 53 48 x1 fun y2 =>
        kEq y2 x3
          (fM_laysOwn_J123 x1 x2 x3 ((24 * x1) + x3) σ)
          (fM_laysOwn_J130 x1 x2 x3 1000000000 ((24 * x1) + x3) σ)))
    (kExit (fM_laysOwn_J137 x1 σ))
def fM_laysOwn_L82 (x1 x2 x3 : Int) (σ : KM) : Option ((Int × KM) ⊕ (Int × KM)) := kIter (fun s => fM_laysOwn_B82 x1 x2 s.1 s.2) kF (x3, σ)
def fM_laysOwn_J80 (x1 x2 : Int) (σ : KM) : Option ((Int × KM) ⊕ (Int × KM)) :=
  fM_laysOwn_L82 x1 x2 0 σ
def fM_laysOwn_J73 (x1 x3 t0 : Int) (σ : KM) : Option ((Int × Int × KM) ⊕ ((Int × KM) ⊕ (Int × KM))) :=
  kLet (x3 + 1) fun y1 =>
  some (.inl (t0, y1, σ))
def fM_laysOwn_B49 (x1 x2 x3 : Int) (σ : KM) : Option ((Int × Int × KM) ⊕ ((Int × KM) ⊕ (Int × KM))) :=
  kLt x3 24
    (kCall (fM_fitted x3 σ) fun r2 τ1 =>
     kLt x2 r2
       (kCall (fM_fitted x3 τ1) fun r4 τ3 =>
        fM_laysOwn_J73 x1 x3 r4 τ3)
       (fM_laysOwn_J73 x1 x3 x2 τ1))
    (kExit (fM_laysOwn_J80 x1 x2 σ))
def fM_laysOwn_L49 (x1 x2 x3 : Int) (σ : KM) : Option ((Int × KM) ⊕ (Int × KM)) := kIter (fun s => fM_laysOwn_B49 x1 s.1 s.2.1 s.2.2) kF (x2, x3, σ)
def fM_laysOwn_J44 (x1 t0 t1 : Int) (σ : KM) : Option ((Int × KM) ⊕ (Int × KM)) :=
  kWz σ 64 48 t1 t0 fun τ1 =>
  fM_laysOwn_L49 x1 0 0 τ1
def fM_laysOwn_B14 (x1 : Int) (σ : KM) : Option ((Int × KM) ⊕ (Int × KM)) :=
  kLt x1 (σ 10 37)
    (kCall (fM_countedIn x1 σ) fun _ τ1 =>
     kEq (τ1 10 27) 0
       (fM_laysOwn_J44 x1 1 x1 τ1)
       (fM_laysOwn_J44 x1 0 x1 τ1))
    (kExit (fM_laysOwn_J143 σ))
def fM_laysOwn_L14 (x1 : Int) (σ : KM) : Option (Int × KM) := kIter (fun s => fM_laysOwn_B14 s.1 s.2) kF (x1, σ)
def fM_laysOwn (σ : KM) : Option (Int × KM) :=
  kCall (fM_laysNet σ) fun _ τ1 =>
  kCall (fM_windowMany τ1) fun r3 τ2 =>
  kWf τ2 10 37 r3 fun τ4 =>
  fM_laysOwn_L14 0 τ4
def fM_moves_J33 (t0 : Int) (σ : KM) : Option (Int × KM) :=
  kRetI t0 σ
def fM_moves_J19 (x1 x2 x4 : Int) (σ : KM) : Option (Int × KM) :=
  kRd σ 58 576 ((24 * x1) + x2) fun y1 =>
  fM_moves_J33 (y1 * x4) σ
def fM_moves (x1 x2 x3 x4 : Int) (σ : KM) : Option (Int × KM) :=
  kRd σ 64 48 x3 fun y1 =>
  kEq y1 0
    (fM_moves_J19 x1 x2 x4 σ)
    (kEq x1 x2
       (fM_moves_J19 x1 x2 x4 σ)
       (fM_moves_J33 1000000000 σ))
def fM_added_J20 (t0 : Int) (σ : KM) : Option (Int × KM) :=
  kRetI t0 σ
def fM_added_J12 (σ : KM) : Option (Int × KM) :=
  fM_added_J20 1000000000 σ
def fM_added (x0 x1 : Int) (σ : KM) : Option (Int × KM) :=
  kLt x0 1000000000
    (kLt x1 1000000000
       (fM_added_J20 (x0 + x1) σ)
       (fM_added_J12 σ))
    (fM_added_J12 σ)
def fM_laysPath_J426 (σ : KM) : Option (Int × KM) :=
  kRetZ 1 σ
def fM_laysPath_J386 (x1 x3 x4 : Int) (σ : KM) : Option ((Int × Int × KM) ⊕ (Int × KM)) :=
  kWr σ 63 48 x3 x4 fun τ1 =>
  kRd τ1 61 1152 ((24 * x3) + x4) fun y2 =>
  kRd τ1 59 1152 ((24 * x3) + x4) fun y3 =>
  kLet (y2 - y3) fun y4 =>
  kLet (x3 + 1) fun y5 =>
  some (.inl (y4, y5, τ1))
def fM_laysPath_J361 (x1 x2 x3 x4 t0 : Int) (σ : KM) : Option ((Int × KM) ⊕ ((Int × Int × KM) ⊕ (Int × KM))) :=
  kRd σ 61 1152 ((24 * x3) + x4) fun y1 =>
  kCall (fM_added t0 y1 σ) fun r3 τ2 =>
  kEq r3 x2
    (kExit (fM_laysPath_J386 x1 x3 x4 τ2))
    (kLet (x4 + 1) fun y4 =>
     some (.inl (y4, τ2)))
def fM_laysPath_B337 (x1 x2 x3 x4 : Int) (σ : KM) : Option ((Int × KM) ⊕ ((Int × Int × KM) ⊕ (Int × KM))) :=
  kEq x3 0
    (fM_laysPath_J361 x1 x2 x3 x4 0 σ)
    (kRd σ 63 48 (x3 - 1) fun y1 =>
     kCall (fM_moves y1 x4 x3 x1 σ) fun r3 τ2 =>
     fM_laysPath_J361 x1 x2 x3 x4 r3 τ2)
def fM_laysPath_L337 (x1 x2 x3 x4 : Int) (σ : KM) : Option ((Int × Int × KM) ⊕ (Int × KM)) := kIter (fun s => fM_laysPath_B337 x1 x2 x3 s.1 s.2) kF (x4, σ)
def fM_laysPath_B326 (x1 x2 x3 : Int) (σ : KM) : Option ((Int × Int × KM) ⊕ (Int × KM)) :=
  kLt x3 (σ 10 37)
    (fM_laysPath_L337 x1 x2 x3 0 σ)
    (kExit (fM_laysPath_J426 σ))
def fM_laysPath_L326 (x1 x2 x3 : Int) (σ : KM) : Option (Int × KM) := kIter (fun s => fM_laysPath_B326 x1 s.1 s.2.1 s.2.2) kF (x2, x3, σ)
def fM_laysPath_J308 (x1 : Int) (σ : KM) : Option (Int × KM) :=
  kLt (σ 10 38) 1000000000
    (kLet (σ 10 38) fun y1 =>
     fM_laysPath_L326 x1 y1 0 σ)
    (kRetZ 0 σ)
def fM_laysPath_J299 (x1 x2 t0 : Int) (σ : KM) : Option ((Int × KM) ⊕ (Int × KM)) :=
  kWf σ 10 38 t0 fun τ1 =>
  kLet (x2 + 1) fun y2 =>
  some (.inl (y2, τ1))
def fM_laysPath_B259 (x1 x2 : Int) (σ : KM) : Option ((Int × KM) ⊕ (Int × KM)) :=
  kLt x2 24
    (kLt 0 (σ 10 37)
       (kRd σ 61 1152 x2 fun y1 =>
        kLt y1 (σ 10 38)
          (kRd σ 61 1152 x2 fun y2 =>
           fM_laysPath_J299 x1 x2 y2 σ)
          (fM_laysPath_J299 x1 x2 (σ 10 38) σ))
       (kExit (fM_laysPath_J308 x1 σ)))
    (kExit (fM_laysPath_J308 x1 σ))
def fM_laysPath_L259 (x1 x2 : Int) (σ : KM) : Option (Int × KM) := kIter (fun s => fM_laysPath_B259 x1 s.1 s.2) kF (x2, σ)
def fM_laysPath_J254 (x1 t0 : Int) (σ : KM) : Option (Int × KM) :=
  kWf σ 10 38 t0 fun τ1 =>
  fM_laysPath_L259 x1 0 τ1
def fM_laysPath_J240 (x1 : Int) (σ : KM) : Option (Int × KM) :=
  kEq (σ 10 37) 0
    (fM_laysPath_J254 x1 0 σ)
    (fM_laysPath_J254 x1 1000000000 σ)
def fM_laysPath_J234 (x1 x2 : Int) (σ : KM) : Option ((Int × KM) ⊕ (Int × KM)) :=
  kLet (x2 + (-1)) fun y1 =>
  some (.inl (y1, σ))
def fM_laysPath_J200 (x1 x2 x3 x4 x5 x6 : Int) (σ : KM) : Option ((Int × KM) ⊕ ((Int × KM) ⊕ (Int × KM))) :=
  kRd σ 59 1152 x4 fun y1 =>
  kCall (fM_added y1 x5 σ) fun r3 τ2 =>
  kWr τ2 61 1152 x4 r3 fun τ4 =>
  kWr τ4 62 1152 x4 x6 fun τ5 =>
  kLet (x3 + 1) fun y6 =>
  some (.inl (y6, τ5))
def fM_laysPath_J194 (x1 x2 x3 x4 x5 x6 x7 : Int) (σ : KM) : Option ((Int × Int × Int × KM) ⊕ ((Int × KM) ⊕ ((Int × KM) ⊕ (Int × KM)))) :=
  kLet (x7 + 1) fun y1 =>
  some (.inl (x5, x6, y1, σ))
def fM_laysPath_J188 (x1 x2 x3 x4 x7 x8 t0 : Int) (σ : KM) : Option ((Int × Int × Int × KM) ⊕ ((Int × KM) ⊕ ((Int × KM) ⊕ (Int × KM)))) :=
  fM_laysPath_J194 x1 x2 x3 x4 x8 t0 x7 σ
def fM_laysPath_J170 (x1 x2 x3 x4 x7 x8 t0 : Int) (σ : KM) : Option ((Int × Int × Int × KM) ⊕ ((Int × KM) ⊕ ((Int × KM) ⊕ (Int × KM)))) :=
  kLt 1000000 t0
    (fM_laysPath_J188 x1 x2 x3 x4 x7 x8 1000000 σ)
    (fM_laysPath_J188 x1 x2 x3 x4 x7 x8 t0 σ)
def fM_laysPath_B65 (x1 x2 x3 x4 x5 x6 x7 : Int) (σ : KM) : Option ((Int × Int × Int × KM) ⊕ ((Int × KM) ⊕ ((Int × KM) ⊕ (Int × KM)))) :=
  kLt x7 24
    (kLt (x2 + 1) (σ 10 37)
       (kCall (fM_moves x3 x7 (x2 + 1) x1 σ) fun r2 τ1 =>
        kRd τ1 61 1152 ((24 * (x2 + 1)) + x7) fun y3 =>
        kCall (fM_added r2 y3 τ1) fun r5 τ4 =>
        kLt r5 1000000000
          (kLt x5 r5
             (fM_laysPath_J194 x1 x2 x3 x4 x5 x6 x7 τ4)
             (kLt r5 x5
                (kRd τ4 62 1152 ((24 * (x2 + 1)) + x7) fun y7 =>
                 fM_laysPath_J170 x1 x2 x3 x4 x7 r5 y7 τ4)
                (kRd τ4 62 1152 ((24 * (x2 + 1)) + x7) fun y6 =>
                 fM_laysPath_J170 x1 x2 x3 x4 x7 r5 (x6 + y6) τ4)))
          (fM_laysPath_J194 x1 x2 x3 x4 x5 x6 x7 τ4))
       (kExit (fM_laysPath_J200 x1 x2 x3 x4 x5 x6 σ)))
    (kExit (fM_laysPath_J200 x1 x2 x3 x4 x5 x6 σ))
def fM_laysPath_L65 (x1 x2 x3 x4 x5 x6 x7 : Int) (σ : KM) : Option ((Int × KM) ⊕ ((Int × KM) ⊕ (Int × KM))) := kIter (fun s => fM_laysPath_B65 x1 x2 x3 x4 s.1 s.2.1 s.2.2.1 s.2.2.2) kF (x5, x6, x7, σ)
def fM_laysPath_J60 (x1 x2 x3 x4 x5 t0 : Int) (σ : KM) : Option ((Int × KM) ⊕ ((Int × KM) ⊕ (Int × KM))) :=
  fM_laysPath_L65 x1 x2 x3 x4 x5 t0 0 σ
def fM_laysPath_J43 (x1 x2 x3 x4 t0 : Int) (σ : KM) : Option ((Int × KM) ⊕ ((Int × KM) ⊕ (Int × KM))) :=
  kEq x2 ((σ 10 37) - 1)
    (fM_laysPath_J60 x1 x2 x3 x4 t0 1 σ)
    (fM_laysPath_J60 x1 x2 x3 x4 t0 0 σ)
def fM_laysPath_B13 (x1 x2 x3 : Int) (σ : KM) : Option ((Int × KM) ⊕ ((Int × KM) ⊕ (Int × KM))) :=
  kLt x3 24
    (kLet ((24 * x2) + x3) fun y1 =>
     kEq x2 ((σ 10 37) - 1)
       (fM_laysPath_J43 x1 x2 x3 y1 0 σ)
       (fM_laysPath_J43 x1 x2 x3 y1 1000000000 σ))
    (kExit (fM_laysPath_J234 x1 x2 σ))
def fM_laysPath_L13 (x1 x2 x3 : Int) (σ : KM) : Option ((Int × KM) ⊕ (Int × KM)) := kIter (fun s => fM_laysPath_B13 x1 x2 s.1 s.2) kF (x3, σ)
def fM_laysPath_B7 (x1 x2 : Int) (σ : KM) : Option ((Int × KM) ⊕ (Int × KM)) :=
  kLt x2 0
    (kExit (fM_laysPath_J240 x1 σ))
    (fM_laysPath_L13 x1 x2 0 σ)
def fM_laysPath_L7 (x1 x2 : Int) (σ : KM) : Option (Int × KM) := kIter (fun s => fM_laysPath_B7 x1 s.1 s.2) kF (x2, σ)
def fM_laysPath (x1 : Int) (σ : KM) : Option (Int × KM) :=
  kLet ((σ 10 37) - 1) fun y1 =>
  fM_laysPath_L7 x1 y1 σ
def fM_hasPath (σ : KM) : Option (Int × KM) :=
  kCall (fM_laysOwn σ) fun _ τ1 =>
  kCall (fM_laysPath (τ1 10 16) τ1) fun r3 τ2 =>
  kRetZ r3 τ2
def fM_degreeOf_J234 (t0 : Int) (σ : KM) : Option (Int × KM) :=
  kRetI t0 σ
def fM_degreeOf_J300 (σ : KM) : Option (Int × KM) :=
  kRetI (-1) σ
def fM_degreeOf_J245 (t0 : Int) (σ : KM) : Option (Int × KM) :=
  kRetI t0 σ
def fM_degreeOf_J255 (t0 : Int) (σ : KM) : Option (Int × KM) :=
  kRetI t0 σ
def fM_degreeOf_J266 (t0 : Int) (σ : KM) : Option (Int × KM) :=
  kRetI t0 σ
def fM_degreeOf_J277 (t0 : Int) (σ : KM) : Option (Int × KM) :=
  kRetI t0 σ
def fM_degreeOf_J288 (t0 : Int) (σ : KM) : Option (Int × KM) :=
  kRetI t0 σ
def fM_degreeOf_J299 (t0 : Int) (σ : KM) : Option (Int × KM) :=
  kRetI t0 σ
def fM_degreeOf_J97 (t0 : Int) (σ : KM) : Option (Int × KM) :=
  kRetI t0 σ
def fM_degreeOf_J164 (σ : KM) : Option (Int × KM) :=
  kRetI (-1) σ
def fM_degreeOf_J108 (t0 : Int) (σ : KM) : Option (Int × KM) :=
  kRetI t0 σ
def fM_degreeOf_J119 (t0 : Int) (σ : KM) : Option (Int × KM) :=
  kRetI t0 σ
def fM_degreeOf_J129 (t0 : Int) (σ : KM) : Option (Int × KM) :=
  kRetI t0 σ
def fM_degreeOf_J139 (t0 : Int) (σ : KM) : Option (Int × KM) :=
  kRetI t0 σ
def fM_degreeOf_J151 (t0 : Int) (σ : KM) : Option (Int × KM) :=
  kRetI t0 σ
def fM_degreeOf_J163 (t0 : Int) (σ : KM) : Option (Int × KM) :=
  kRetI t0 σ
def fM_degreeOf (x0 x1 : Int) (σ : KM) : Option (Int × KM) :=
  kDv x0 3 fun y1 =>
  kRm x1 12 fun y2 =>
  kRm ((y1 - y2) + 12) 12 fun y3 =>
  kRm x0 3 fun y4 =>
  kLt x1 12
    (kSw y3 0 [
       kEq y4 0
         (fM_degreeOf_J97 1 σ)
         (fM_degreeOf_J97 (-1) σ),
       fM_degreeOf_J164 σ,
       kEq y4 1
         (fM_degreeOf_J108 2 σ)
         (fM_degreeOf_J108 (-1) σ),
       fM_degreeOf_J164 σ,
       kEq y4 1
         (fM_degreeOf_J119 3 σ)
         (fM_degreeOf_J119 (-1) σ),
       kEq y4 0
         (fM_degreeOf_J129 4 σ)
         (fM_degreeOf_J129 (-1) σ),
       fM_degreeOf_J164 σ,
       kEq y4 0
         (fM_degreeOf_J139 5 σ)
         (fM_degreeOf_J139 (-1) σ),
       fM_degreeOf_J164 σ,
       kEq y4 1
         (fM_degreeOf_J151 6 σ)
         (fM_degreeOf_J151 (-1) σ),
       fM_degreeOf_J164 σ,
       kEq y4 2
         (fM_degreeOf_J163 7 σ)
         (fM_degreeOf_J163 (-1) σ)
       ]
       (fM_degreeOf_J164 σ))
    (kSw y3 0 [
       kEq y4 1
         (fM_degreeOf_J234 1 σ)
         (fM_degreeOf_J234 (-1) σ),
       fM_degreeOf_J300 σ,
       kEq y4 2
         (fM_degreeOf_J245 2 σ)
         (fM_degreeOf_J245 (-1) σ),
       kEq y4 0
         (fM_degreeOf_J255 3 σ)
         (fM_degreeOf_J255 (-1) σ),
       fM_degreeOf_J300 σ,
       kEq y4 1
         (fM_degreeOf_J266 4 σ)
         (fM_degreeOf_J266 (-1) σ),
       fM_degreeOf_J300 σ,
       kLt y4 2
         (fM_degreeOf_J277 5 σ)
         (fM_degreeOf_J277 (-1) σ),
       kEq y4 0
         (fM_degreeOf_J288 6 σ)
         (fM_degreeOf_J288 (-1) σ),
       fM_degreeOf_J300 σ,
       kEq y4 0
         (fM_degreeOf_J299 7 σ)
         (fM_degreeOf_J299 (-1) σ)
       ]
       (fM_degreeOf_J300 σ))
def fM_close_J146 (t0 : Int) (σ : KM) : Option (Int × KM) :=
  kRetI t0 σ
def fM_close_J132 (x2 x3 : Int) (σ : KM) : Option (Int × KM) :=
  kCall (fM_degreeOf x2 x3 σ) fun r2 τ1 =>
  kEq r2 5
    (fM_close_J146 1 τ1)
    (fM_close_J146 0 τ1)
def fM_close_J105 (x2 x3 x4 : Int) (σ : KM) : Option (Int × KM) :=
  kCall (fM_degreeOf x2 x3 σ) fun r2 τ1 =>
  kEq r2 1
    (kEq x4 x2
       (fM_close_J132 x2 x3 τ1)
       (kCall (fM_degreeOf x4 x3 τ1) fun r4 τ3 =>
        kEq r4 5
          (kRetI 2 τ3)
          (fM_close_J132 x2 x3 τ3)))
    (fM_close_J132 x2 x3 τ1)
def fM_close_J100 (x1 x2 x3 t0 : Int) (σ : KM) : Option ((Int × Int × KM) ⊕ (Int × KM)) :=
  some (.inl (x1, t0, σ))
def fM_close_B67 (x2 x3 x1 x4 : Int) (σ : KM) : Option ((Int × Int × KM) ⊕ (Int × KM)) :=
  kLt 0 x1
    (kEq x4 x2
       (kLet (x1 + (-1)) fun y1 =>
        kCall (fM_countedIn y1 σ) fun _ τ2 =>
        kEq (τ2 10 27) 0
          (fM_close_J100 y1 x2 x3 x2 τ2)
          (kCall (fM_chordNow τ2) fun r4 τ3 =>
           fM_close_J100 y1 x2 x3 r4 τ3))
       (kExit (fM_close_J105 x2 x3 x4 σ)))
    (kExit (fM_close_J105 x2 x3 x4 σ))
def fM_close_L67 (x2 x3 x1 x4 : Int) (σ : KM) : Option (Int × KM) := kIter (fun s => fM_close_B67 x2 x3 s.1 s.2.1 s.2.2) kF (x1, x4, σ)
def fM_close_J41 (x1 : Int) (σ : KM) : Option (Int × KM) :=
  kLt x1 0
    (kRetI (-1) σ)
    (kCall (fM_countedIn x1 σ) fun _ τ1 =>
     kCall (fM_chordNow τ1) fun r3 τ2 =>
     kRd τ2 63 48 x1 fun y4 =>
     fM_close_L67 r3 y4 x1 r3 τ2)
def fM_close_B22 (x1 : Int) (σ : KM) : Option ((Int × KM) ⊕ (Int × KM)) :=
  kLt x1 0
    (kExit (fM_close_J41 x1 σ))
    (kRd σ 64 48 x1 fun y1 =>
     kEq y1 0
       (kExit (fM_close_J41 x1 σ))
       (kLet (x1 + (-1)) fun y2 =>
        some (.inl (y2, σ))))
def fM_close_L22 (x1 : Int) (σ : KM) : Option (Int × KM) := kIter (fun s => fM_close_B22 s.1 s.2) kF (x1, σ)
def fM_close (σ : KM) : Option (Int × KM) :=
  kWf σ 10 0 0 fun τ1 =>
  kCall (fM_hasPath τ1) fun r3 τ2 =>
  kEq r3 0
    (kRetI (-5) τ2)
    (kLet ((τ2 10 37) - 1) fun y4 =>
     fM_close_L22 y4 τ2)
def fM_segmentsNow_J54 (x1 : Int) (σ : KM) : Option (Int × KM) :=
  kRetI x1 σ
def fM_segmentsNow_J46 (x2 t0 t1 : Int) (σ : KM) : Option ((Int × Int × KM) ⊕ (Int × KM)) :=
  kLet (t1 + t0) fun y1 =>
  kLet (x2 + 1) fun y2 =>
  some (.inl (y1, y2, σ))
def fM_segmentsNow_B15 (x1 x2 : Int) (σ : KM) : Option ((Int × Int × KM) ⊕ (Int × KM)) :=
  kLt x2 (σ 10 37)
    (kRd σ 63 48 x2 fun y1 =>
     kRd σ 63 48 (x2 - 1) fun y2 =>
     kEq y1 y2
       (fM_segmentsNow_J46 x2 0 x1 σ)
       (fM_segmentsNow_J46 x2 1 x1 σ))
    (kExit (fM_segmentsNow_J54 x1 σ))
def fM_segmentsNow_L15 (x1 x2 : Int) (σ : KM) : Option (Int × KM) := kIter (fun s => fM_segmentsNow_B15 s.1 s.2.1 s.2.2) kF (x1, x2, σ)
def fM_segmentsNow_J12 (t0 : Int) (σ : KM) : Option (Int × KM) :=
  fM_segmentsNow_L15 t0 1 σ
def fM_segmentsNow (σ : KM) : Option (Int × KM) :=
  kEq (σ 10 37) 0
    (fM_segmentsNow_J12 0 σ)
    (fM_segmentsNow_J12 1 σ)
def fM_firstOf_J50 (x3 : Int) (σ : KM) : Option (Int × KM) :=
  kRetI x3 σ
def fM_firstOf_J44 (x2 x3 : Int) (σ : KM) : Option ((Int × Int × KM) ⊕ (Int × KM)) :=
  kLet (x2 + (-1)) fun y1 =>
  some (.inl (y1, x3, σ))
def fM_firstOf_B4 (x2 x3 : Int) (σ : KM) : Option ((Int × Int × KM) ⊕ (Int × KM)) :=
  kLt x3 (σ 10 37)
    (kLt 0 x2
       (kLet (x3 + 1) fun y1 =>
        kEq y1 (σ 10 37)
          (fM_firstOf_J44 x2 y1 σ)
          (kRd σ 63 48 y1 fun y2 =>
           kRd σ 63 48 (y1 - 1) fun y3 =>
           kEq y2 y3
             (some (.inl (x2, y1, σ)))
             (fM_firstOf_J44 x2 y1 σ)))
       (kExit (fM_firstOf_J50 x3 σ)))
    (kExit (fM_firstOf_J50 x3 σ))
def fM_firstOf_L4 (x2 x3 : Int) (σ : KM) : Option (Int × KM) := kIter (fun s => fM_firstOf_B4 s.1 s.2.1 s.2.2) kF (x2, x3, σ)
def fM_firstOf (x1 : Int) (σ : KM) : Option (Int × KM) :=
  fM_firstOf_L4 x1 0 σ
def fM_romanNow_J29 (t0 : Int) (σ : KM) : Option (Int × KM) :=
  kRetI t0 σ
def fM_romanNow (x1 : Int) (σ : KM) : Option (Int × KM) :=
  kCall (fM_countedIn x1 σ) fun _ τ1 =>
  kEq (τ1 10 27) 0
    (fM_romanNow_J29 (-1) τ1)
    (kCall (fM_chordNow τ1) fun r3 τ2 =>
     kRd τ2 63 48 x1 fun y4 =>
     kCall (fM_degreeOf r3 y4 τ2) fun r6 τ5 =>
     fM_romanNow_J29 r6 τ5)
def fM_isBehindFifth_J72 (σ : KM) : Option (Int × KM) :=
  kRetZ 0 σ
def fM_isBehindFifth_J66 (x1 x3 x4 : Int) (σ : KM) : Option ((Int × KM) ⊕ (Int × KM)) :=
  kLet (x4 + (-1)) fun y1 =>
  some (.inl (y1, σ))
def fM_isBehindFifth_J65 (t0 : Int) (σ : KM) : Option (Int × KM) :=
  kRetZ t0 σ
def fM_isBehindFifth_J42 (x4 : Int) (σ : KM) : Option (Int × KM) :=
  kCall (fM_chordNow σ) fun r2 τ1 =>
  kRd τ1 63 48 x4 fun y3 =>
  kCall (fM_degreeOf r2 y3 τ1) fun r5 τ4 =>
  kEq r5 5
    (fM_isBehindFifth_J65 1 τ4)
    (fM_isBehindFifth_J65 0 τ4)
def fM_isBehindFifth_B15 (x1 x3 x4 : Int) (σ : KM) : Option ((Int × KM) ⊕ (Int × KM)) :=
  kLt x4 x1
    (kExit (fM_isBehindFifth_J72 σ))
    (kCall (fM_countedIn x4 σ) fun _ τ1 =>
     kLt 0 (τ1 10 27)
       (kCall (fM_chordNow τ1) fun r3 τ2 =>
        kEq r3 x3
          (fM_isBehindFifth_J66 x1 x3 x4 τ2)
          (kExit (fM_isBehindFifth_J42 x4 τ2)))
       (fM_isBehindFifth_J66 x1 x3 x4 τ1))
def fM_isBehindFifth_L15 (x1 x3 x4 : Int) (σ : KM) : Option (Int × KM) := kIter (fun s => fM_isBehindFifth_B15 x1 x3 s.1 s.2) kF (x4, σ)
def fM_isBehindFifth (x1 x2 : Int) (σ : KM) : Option (Int × KM) :=
  kCall (fM_countedIn x2 σ) fun _ τ1 =>
  kCall (fM_chordNow τ1) fun r3 τ2 =>
  kLet (x2 - 1) fun y4 =>
  fM_isBehindFifth_L15 x1 r3 y4 τ2
def fM_confirmed_J86 (σ : KM) : Option (Int × KM) :=
  kRetI (-1) σ
def fM_confirmed_J80 (x2 x3 x4 : Int) (σ : KM) : Option ((Int × KM) ⊕ (Int × KM)) :=
  kLet (x4 + 1) fun y1 =>
  some (.inl (y1, σ))
def fM_confirmed_J77 (x4 : Int) (σ : KM) : Option (Int × KM) :=
  kRetI x4 σ
def fM_confirmed_B51 (x2 x3 x4 : Int) (σ : KM) : Option ((Int × KM) ⊕ (Int × KM)) :=
  kLt x4 x3
    (kCall (fM_romanNow x4 σ) fun r2 τ1 =>
     kEq r2 1
       (kCall (fM_isBehindFifth x2 x4 τ1) fun r4 τ3 =>
        kEq r4 0
          (fM_confirmed_J80 x2 x3 x4 τ3)
          (kExit (fM_confirmed_J77 x4 τ3)))
       (fM_confirmed_J80 x2 x3 x4 τ1))
    (kExit (fM_confirmed_J86 σ))
def fM_confirmed_L51 (x2 x3 x4 : Int) (σ : KM) : Option (Int × KM) := kIter (fun s => fM_confirmed_B51 x2 x3 s.1 s.2) kF (x4, σ)
def fM_confirmed (x1 : Int) (σ : KM) : Option (Int × KM) :=
  kWf σ 10 0 0 fun τ1 =>
  kCall (fM_hasPath τ1) fun r3 τ2 =>
  kEq r3 0
    (kRetI (-5) τ2)
    (kCk x1 <|
     kCall (fM_segmentsNow τ2) fun r5 τ4 =>
     kCk (r5 - 1) <|
     kCall (fM_isIn x1 0 (r5 - 1) τ4) fun r7 τ6 =>
     kEq r7 0
       (kRetI (-2) τ6)
       (kCall (fM_firstOf x1 τ6) fun r9 τ8 =>
        kCall (fM_firstOf (x1 + 1) τ8) fun r11 τ10 =>
        fM_confirmed_L51 r9 r11 r9 τ10))
def fM_cost_J21 (t0 : Int) (σ : KM) : Option (Int × KM) :=
  kRetI t0 σ
def fM_cost (σ : KM) : Option (Int × KM) :=
  kWf σ 10 0 0 fun τ1 =>
  kCall (fM_hasPath τ1) fun r3 τ2 =>
  kEq r3 0
    (fM_cost_J21 (-5) τ2)
    (fM_cost_J21 (τ2 10 38) τ2)
def fM_count_J141 (x2 : Int) (σ : KM) : Option (Int × KM) :=
  kRetI x2 σ
def fM_count_J133 (x3 t0 t1 : Int) (σ : KM) : Option ((Int × Int × KM) ⊕ (Int × KM)) :=
  kLet (t1 + t0) fun y1 =>
  kLet (x3 + 1) fun y2 =>
  some (.inl (y1, y2, σ))
def fM_count_B107 (x2 x3 : Int) (σ : KM) : Option ((Int × Int × KM) ⊕ (Int × KM)) :=
  kCall (fM_windowMany σ) fun r2 τ1 =>
  kLt x3 r2
    (kCall (fM_countedIn x3 τ1) fun _ τ3 =>
     kEq (τ3 10 27) 0
       (fM_count_J133 x3 1 x2 τ3)
       (fM_count_J133 x3 0 x2 τ3))
    (kExit (fM_count_J141 x2 τ1))
def fM_count_L107 (x2 x3 : Int) (σ : KM) : Option (Int × KM) := kIter (fun s => fM_count_B107 s.1 s.2.1 s.2.2) kF (x2, x3, σ)
def fM_count (x1 : Int) (σ : KM) : Option (Int × KM) :=
  kWf σ 10 0 0 fun τ1 =>
  kSw x1 0 [
    kRetI (τ1 10 7) τ1,
    kCall (fM_windowMany τ1) fun r3 τ2 =>
    kRetI r3 τ2,
    kCall (fM_theEnd τ1) fun r5 τ4 =>
    kRetI r5 τ4,
    kRetI (τ1 10 10) τ1,
    kRetI (τ1 10 20) τ1,
    kRetI (τ1 10 11) τ1,
    kRetI (τ1 10 12) τ1,
    fM_count_L107 0 0 τ1,
    kRetI (τ1 10 13) τ1,
    kRetI (τ1 10 14) τ1,
    kRetI (τ1 10 15) τ1,
    kRetI (τ1 10 16) τ1
    ]
    (kRetI (-1) τ1)
def fM_isTriad (x0 : Int) (σ : KM) : Option (Int × KM) :=
  kCk x0 <|
  kCall (fM_isIn x0 0 35 σ) fun r2 τ1 =>
  kRetZ r2 τ1
def fM_isKey (x0 : Int) (σ : KM) : Option (Int × KM) :=
  kCk x0 <|
  kCall (fM_isIn x0 0 23 σ) fun r2 τ1 =>
  kRetZ r2 τ1
def fM_degree_J29 (t0 : Int) (σ : KM) : Option (Int × KM) :=
  kRetI t0 σ
def fM_degree_J27 (σ : KM) : Option (Int × KM) :=
  fM_degree_J29 (-2) σ
def fM_degree (x1 x2 : Int) (σ : KM) : Option (Int × KM) :=
  kWf σ 10 0 0 fun τ1 =>
  kCall (fM_isTriad x1 τ1) fun r3 τ2 =>
  kEq r3 0
    (fM_degree_J27 τ2)
    (kCall (fM_isKey x2 τ2) fun r5 τ4 =>
     kEq r5 0
       (fM_degree_J27 τ4)
       (kCall (fM_degreeOf x1 x2 τ4) fun r7 τ6 =>
        fM_degree_J29 r7 τ6))
def fM_distance_J19 (σ : KM) : Option (Int × KM) :=
  kRetI (-2) σ
def fM_distance (x1 x2 : Int) (σ : KM) : Option (Int × KM) :=
  kWf σ 10 0 0 fun τ1 =>
  kCall (fM_isKey x1 τ1) fun r3 τ2 =>
  kEq r3 0
    (fM_distance_J19 τ2)
    (kCall (fM_isKey x2 τ2) fun r5 τ4 =>
     kEq r5 0
       (fM_distance_J19 τ4)
       (kCall (fM_laysFar x2 τ4) fun _ τ6 =>
        kRd τ6 56 24 x1 fun y7 =>
        kRetI (y7 * (τ6 10 16)) τ6))
def fM_isNote (x1 : Int) (σ : KM) : Option (Int × KM) :=
  kCk x1 <|
  kCk ((σ 10 7) - 1) <|
  kCall (fM_isIn x1 0 ((σ 10 7) - 1) σ) fun r2 τ1 =>
  kRetZ r2 τ1
def fM_notesAct_J134 (σ : KM) : Option (Int × KM) :=
  kWf σ 10 10 ((σ 10 10) + 1) fun τ1 =>
  kRetI 0 τ1
def fM_notesAct_B71 (x1 x2 : Int) (σ : KM) : Option ((Int × KM) ⊕ (Int × KM)) :=
  kLt x2 100
    (kRd σ 45 100 x2 fun y1 =>
     kWr σ 51 3010 ((x1 + 1) + x2) y1 fun τ2 =>
     kRd τ2 46 100 x2 fun y3 =>
     kWr τ2 51 3010 ((x1 + 101) + x2) y3 fun τ4 =>
     kRd τ4 47 100 x2 fun y5 =>
     kWr τ4 51 3010 ((x1 + 201) + x2) y5 fun τ6 =>
     kLet (x2 + 1) fun y7 =>
     some (.inl (y7, τ6)))
    (kExit (fM_notesAct_J134 σ))
def fM_notesAct_L71 (x1 x2 : Int) (σ : KM) : Option (Int × KM) := kIter (fun s => fM_notesAct_B71 x1 s.1 s.2) kF (x2, σ)
def fM_notesAct_J50 (σ : KM) : Option (Int × KM) :=
  kLet (301 * (σ 10 10)) fun y1 =>
  kWr σ 51 3010 y1 (σ 10 7) fun τ2 =>
  fM_notesAct_L71 y1 0 τ2
def fM_notesAct_J40 (σ : KM) : Option (Int × KM) :=
  kWf σ 10 10 ((σ 10 10) - 1) fun τ1 =>
  fM_notesAct_J50 τ1
def fM_notesAct_B11 (x1 : Int) (σ : KM) : Option ((Int × KM) ⊕ (Int × KM)) :=
  kLt x1 2709
    (kRd σ 51 3010 (x1 + 301) fun y1 =>
     kWr σ 51 3010 x1 y1 fun τ2 =>
     kLet (x1 + 1) fun y3 =>
     some (.inl (y3, τ2)))
    (kExit (fM_notesAct_J40 σ))
def fM_notesAct_L11 (x1 : Int) (σ : KM) : Option (Int × KM) := kIter (fun s => fM_notesAct_B11 s.1 s.2) kF (x1, σ)
def fM_notesAct (σ : KM) : Option (Int × KM) :=
  kEq (σ 10 10) 10
    (fM_notesAct_L11 0 σ)
    (fM_notesAct_J50 σ)
def fM_drop_J88 (σ : KM) : Option (Int × KM) :=
  kRetI (σ 10 7) σ
def fM_drop_B32 (x2 : Int) (σ : KM) : Option ((Int × KM) ⊕ (Int × KM)) :=
  kLt x2 (σ 10 7)
    (kRd σ 45 100 (x2 + 1) fun y1 =>
     kWr σ 45 100 x2 y1 fun τ2 =>
     kRd τ2 46 100 (x2 + 1) fun y3 =>
     kWr τ2 46 100 x2 y3 fun τ4 =>
     kRd τ4 47 100 (x2 + 1) fun y5 =>
     kWr τ4 47 100 x2 y5 fun τ6 =>
     kLet (x2 + 1) fun y7 =>
     some (.inl (y7, τ6)))
    (kExit (fM_drop_J88 σ))
def fM_drop_L32 (x2 : Int) (σ : KM) : Option (Int × KM) := kIter (fun s => fM_drop_B32 s.1 s.2) kF (x2, σ)
def fM_drop (x1 : Int) (σ : KM) : Option (Int × KM) :=
  kWf σ 10 0 0 fun τ1 =>
  kCall (fM_isNote x1 τ1) fun r3 τ2 =>
  kEq r3 0
    (kRetI (-2) τ2)
    (kCall (fM_notesAct τ2) fun _ τ4 =>
     kWf τ4 10 7 ((τ4 10 7) - 1) fun τ5 =>
     fM_drop_L32 x1 τ5)
def fM_fault_J29 (t0 : Int) (σ : KM) : Option (Int × KM) :=
  kRetI t0 σ
def fM_fault (x1 : Int) (σ : KM) : Option (Int × KM) :=
  kWf σ 10 0 0 fun τ1 =>
  kEq x1 0
    (fM_fault_J29 (τ1 10 23) τ1)
    (kEq x1 1
       (fM_fault_J29 (τ1 10 24) τ1)
       (fM_fault_J29 (-1) τ1))
def fM_feed_J118 (σ : KM) : Option (Int × KM) :=
  kRetI (σ 10 20) σ
def fM_feed_J77 (x1 x2 x3 x4 x5 x6 t0 : Int) (σ : KM) : Option ((Int × KM) ⊕ (Int × KM)) :=
  kRm x6 4 fun y1 =>
  kShr t0 (24 - (8 * y1)) fun y2 =>
  kWb σ 54 700 (σ 10 20) (kI2b y2) fun τ3 =>
  kWf τ3 10 20 ((τ3 10 20) + 1) fun τ4 =>
  kLet (x6 + 1) fun y5 =>
  some (.inl (y5, τ4))
def fM_feed_B24 (x1 x2 x3 x4 x5 x6 : Int) (σ : KM) : Option ((Int × KM) ⊕ (Int × KM)) :=
  kLt x6 20
    (kLt x6 4
       (fM_feed_J77 x1 x2 x3 x4 x5 x6 x1 σ)
       (kLt x6 8
          (fM_feed_J77 x1 x2 x3 x4 x5 x6 x2 σ)
          (kLt x6 12
             (fM_feed_J77 x1 x2 x3 x4 x5 x6 x3 σ)
             (kLt x6 16
                (fM_feed_J77 x1 x2 x3 x4 x5 x6 x4 σ)
                (fM_feed_J77 x1 x2 x3 x4 x5 x6 x5 σ)))))
    (kExit (fM_feed_J118 σ))
def fM_feed_L24 (x1 x2 x3 x4 x5 x6 : Int) (σ : KM) : Option (Int × KM) := kIter (fun s => fM_feed_B24 x1 x2 x3 x4 x5 s.1 s.2) kF (x6, σ)
def fM_feed (x1 x2 x3 x4 x5 : Int) (σ : KM) : Option (Int × KM) :=
  kWf σ 10 0 0 fun τ1 =>
  kLt 700 ((τ1 10 20) + 20)
    (kRetI (-4) τ1)
    (fM_feed_L24 x1 x2 x3 x4 x5 0 τ1)
def fM_firm_J53 (σ : KM) : Option (Int × KM) :=
  kRetI (-1) σ
def fM_firm_J45 (x1 : Int) (σ : KM) : Option (Int × KM) :=
  kRetI x1 σ
def fM_firm_B25 (x1 : Int) (σ : KM) : Option ((Int × KM) ⊕ (Int × KM)) :=
  kLt 100 x1
    (kExit (fM_firm_J53 σ))
    (kCall (fM_laysPath x1 σ) fun r2 τ1 =>
     kCall (fM_segmentsNow τ1) fun r4 τ3 =>
     kLt 1 r4
       (kLet (x1 + 1) fun y5 =>
        some (.inl (y5, τ3)))
       (kExit (fM_firm_J45 x1 τ3)))
def fM_firm_L25 (x1 : Int) (σ : KM) : Option (Int × KM) := kIter (fun s => fM_firm_B25 s.1 s.2) kF (x1, σ)
def fM_firm (σ : KM) : Option (Int × KM) :=
  kWf σ 10 0 0 fun τ1 =>
  kCall (fM_laysOwn τ1) fun _ τ2 =>
  kCall (fM_laysPath (τ2 10 16) τ2) fun r4 τ3 =>
  kEq r4 0
    (kRetI (-5) τ3)
    (fM_firm_L25 0 τ3)
def fM_fit_J20 (σ : KM) : Option (Int × KM) :=
  kRetI (-2) σ
def fM_fit (x1 x2 : Int) (σ : KM) : Option (Int × KM) :=
  kWf σ 10 0 0 fun τ1 =>
  kCall (fM_isWindow x1 τ1) fun r3 τ2 =>
  kEq r3 0
    (fM_fit_J20 τ2)
    (kCall (fM_isKey x2 τ2) fun r5 τ4 =>
     kEq r5 0
       (fM_fit_J20 τ4)
       (kCall (fM_countedIn x1 τ4) fun _ τ6 =>
        kCall (fM_fitted x2 τ6) fun r8 τ7 =>
        kRetI r8 τ7))
def fM_isOn_J28 (t0 : Int) (σ : KM) : Option (Int × KM) :=
  kRetZ t0 σ
def fM_isOn_J13 (x0 t0 : Int) (σ : KM) : Option (Int × KM) :=
  kShr t0 x0 fun y1 =>
  kAnd y1 1 fun y2 =>
  kEq y2 1
    (fM_isOn_J28 1 σ)
    (fM_isOn_J28 0 σ)
def fM_isOn (x0 x1 : Int) (σ : KM) : Option (Int × KM) :=
  kEq x1 0
    (fM_isOn_J13 x0 2741 σ)
    (fM_isOn_J13 x0 1453 σ)
def fM_foreign_J20 (σ : KM) : Option (Int × KM) :=
  kRetI (-2) σ
def fM_foreign_J90 (x3 : Int) (σ : KM) : Option (Int × KM) :=
  kRetI x3 σ
def fM_foreign_J82 (x2 x4 t0 t1 : Int) (σ : KM) : Option ((Int × Int × KM) ⊕ (Int × KM)) :=
  kLet (t1 + t0) fun y1 =>
  kLet (x4 + 1) fun y2 =>
  some (.inl (y1, y2, σ))
def fM_foreign_J65 (x2 x4 t0 t1 t2 : Int) (σ : KM) : Option ((Int × Int × KM) ⊕ (Int × KM)) :=
  kCall (fM_isOn t1 t0 σ) fun r2 τ1 =>
  kEq r2 0
    (kRd τ1 55 12 x4 fun y3 =>
     fM_foreign_J82 x2 x4 y3 t2 τ1)
    (fM_foreign_J82 x2 x4 0 t2 τ1)
def fM_foreign_B33 (x2 x3 x4 : Int) (σ : KM) : Option ((Int × Int × KM) ⊕ (Int × KM)) :=
  kLt x4 12
    (kRm x2 12 fun y1 =>
     kRm ((x4 - y1) + 12) 12 fun y2 =>
     kLt x2 12
       (fM_foreign_J65 x2 x4 0 y2 x3 σ)
       (fM_foreign_J65 x2 x4 1 y2 x3 σ))
    (kExit (fM_foreign_J90 x3 σ))
def fM_foreign_L33 (x2 x3 x4 : Int) (σ : KM) : Option (Int × KM) := kIter (fun s => fM_foreign_B33 x2 s.1 s.2.1 s.2.2) kF (x3, x4, σ)
def fM_foreign (x1 x2 : Int) (σ : KM) : Option (Int × KM) :=
  kWf σ 10 0 0 fun τ1 =>
  kCall (fM_isWindow x1 τ1) fun r3 τ2 =>
  kEq r3 0
    (fM_foreign_J20 τ2)
    (kCall (fM_isKey x2 τ2) fun r5 τ4 =>
     kEq r5 0
       (fM_foreign_J20 τ4)
       (kCall (fM_countedIn x1 τ4) fun _ τ6 =>
        fM_foreign_L33 x2 0 0 τ6))
def fM_key_J34 (t0 : Int) (σ : KM) : Option (Int × KM) :=
  kRetI t0 σ
def fM_key (x1 : Int) (σ : KM) : Option (Int × KM) :=
  kWf σ 10 0 0 fun τ1 =>
  kCall (fM_isWindow x1 τ1) fun r3 τ2 =>
  kEq r3 0
    (kRetI (-2) τ2)
    (kCall (fM_hasPath τ2) fun r5 τ4 =>
     kEq r5 0
       (fM_key_J34 (-5) τ4)
       (kRd τ4 63 48 x1 fun y6 =>
        fM_key_J34 y6 τ4))
def fM_leastOf_J52 (t0 : Int) (σ : KM) : Option (Int × KM) :=
  kRetI t0 σ
def fM_leastOf_J41 (x3 : Int) (σ : KM) : Option (Int × KM) :=
  kLt x3 1000000000
    (fM_leastOf_J52 x3 σ)
    (fM_leastOf_J52 (-1) σ)
def fM_leastOf_J34 (x2 x4 t0 : Int) (σ : KM) : Option ((Int × Int × KM) ⊕ (Int × KM)) :=
  kLet (x4 + 1) fun y1 =>
  some (.inl (t0, y1, σ))
def fM_leastOf_B6 (x2 x3 x4 : Int) (σ : KM) : Option ((Int × Int × KM) ⊕ (Int × KM)) :=
  kLt x4 x2
    (kRd σ 65 1152 x4 fun y1 =>
     kLt y1 x3
       (kRd σ 65 1152 x4 fun y2 =>
        fM_leastOf_J34 x2 x4 y2 σ)
       (fM_leastOf_J34 x2 x4 x3 σ))
    (kExit (fM_leastOf_J41 x3 σ))
def fM_leastOf_L6 (x2 x3 x4 : Int) (σ : KM) : Option (Int × KM) := kIter (fun s => fM_leastOf_B6 x2 s.1 s.2.1 s.2.2) kF (x3, x4, σ)
def fM_leastOf (x1 x2 : Int) (σ : KM) : Option (Int × KM) :=
  fM_leastOf_L6 x2 1000000000 x1 σ
def fM_turns_J28 (σ : KM) : Option (Int × KM) :=
  kRetI 0 σ
def fM_turns_B2 (x1 x2 : Int) (σ : KM) : Option ((Int × KM) ⊕ (Int × KM)) :=
  kLt x2 (24 * x1)
    (kRd σ 66 1152 x2 fun y1 =>
     kWr σ 65 1152 x2 y1 fun τ2 =>
     kLet (x2 + 1) fun y3 =>
     some (.inl (y3, τ2)))
    (kExit (fM_turns_J28 σ))
def fM_turns_L2 (x1 x2 : Int) (σ : KM) : Option (Int × KM) := kIter (fun s => fM_turns_B2 x1 s.1 s.2) kF (x2, σ)
def fM_turns (x1 : Int) (σ : KM) : Option (Int × KM) :=
  fM_turns_L2 x1 0 σ
def fM_lasting_J346 (x1 : Int) (σ : KM) : Option (Int × KM) :=
  kCall (fM_leastOf (24 * (x1 - 1)) (24 * x1) σ) fun r2 τ1 =>
  kRetI r2 τ1
def fM_lasting_J335 (x1 x2 : Int) (σ : KM) : Option ((Int × KM) ⊕ (Int × KM)) :=
  kCall (fM_turns x1 σ) fun _ τ1 =>
  kLet (x2 + 1) fun y2 =>
  some (.inl (y2, τ1))
def fM_lasting_J329 (x1 x2 x3 : Int) (σ : KM) : Option ((Int × KM) ⊕ ((Int × KM) ⊕ (Int × KM))) :=
  kLet (x3 + 1) fun y1 =>
  some (.inl (y1, σ))
def fM_lasting_J323 (x1 x2 x3 x4 : Int) (σ : KM) : Option ((Int × KM) ⊕ ((Int × KM) ⊕ ((Int × KM) ⊕ (Int × KM)))) :=
  kLet (x4 + 1) fun y1 =>
  some (.inl (y1, σ))
def fM_lasting_J322 (x1 x2 x3 x4 t0 t1 : Int) (σ : KM) : Option ((Int × KM) ⊕ ((Int × KM) ⊕ ((Int × KM) ⊕ (Int × KM)))) :=
  kWr σ 66 1152 t1 t0 fun τ1 =>
  fM_lasting_J323 x1 x2 x3 x4 τ1
def fM_lasting_B234 (x1 x2 x3 x4 : Int) (σ : KM) : Option ((Int × KM) ⊕ ((Int × KM) ⊕ ((Int × KM) ⊕ (Int × KM)))) :=
  kLt x4 24
    (kEq x4 x3
       (fM_lasting_J323 x1 x2 x3 x4 σ)
       (kRd σ 65 1152 ((24 * (x1 - 1)) + x4) fun y1 =>
        kCall (fM_moves x4 x3 x2 (σ 10 16) σ) fun r3 τ2 =>
        kCall (fM_added y1 r3 τ2) fun r5 τ4 =>
        kRd τ4 59 1152 ((24 * x2) + x3) fun y6 =>
        kCall (fM_added r5 y6 τ4) fun r8 τ7 =>
        kRd τ7 66 1152 x3 fun y9 =>
        kLt r8 y9
          (fM_lasting_J322 x1 x2 x3 x4 r8 x3 τ7)
          (kRd τ7 66 1152 x3 fun y10 =>
           fM_lasting_J322 x1 x2 x3 x4 y10 x3 τ7)))
    (kExit (fM_lasting_J329 x1 x2 x3 σ))
def fM_lasting_L234 (x1 x2 x3 x4 : Int) (σ : KM) : Option ((Int × KM) ⊕ ((Int × KM) ⊕ (Int × KM))) := kIter (fun s => fM_lasting_B234 x1 x2 x3 s.1 s.2) kF (x4, σ)
def fM_lasting_B225 (x1 x2 x3 : Int) (σ : KM) : Option ((Int × KM) ⊕ ((Int × KM) ⊕ (Int × KM))) :=
  kLt x3 24
    (fM_lasting_L234 x1 x2 x3 0 σ)
    (kExit (fM_lasting_J335 x1 x2 σ))
def fM_lasting_L225 (x1 x2 x3 : Int) (σ : KM) : Option ((Int × KM) ⊕ (Int × KM)) := kIter (fun s => fM_lasting_B225 x1 x2 s.1 s.2) kF (x3, σ)
def fM_lasting_J223 (x1 x2 : Int) (σ : KM) : Option ((Int × KM) ⊕ (Int × KM)) :=
  fM_lasting_L225 x1 x2 0 σ
def fM_lasting_J217 (x1 x2 x3 : Int) (σ : KM) : Option ((Int × KM) ⊕ ((Int × KM) ⊕ (Int × KM))) :=
  kLet (x3 + 1) fun y1 =>
  some (.inl (y1, σ))
def fM_lasting_J210 (x1 x2 x3 x4 t0 t1 : Int) (σ : KM) : Option ((Int × KM) ⊕ ((Int × KM) ⊕ ((Int × KM) ⊕ (Int × KM)))) :=
  kWr σ 66 1152 t1 t0 fun τ1 =>
  kLet (x4 + 1) fun y2 =>
  some (.inl (y2, τ1))
def fM_lasting_J145 (x1 x2 x3 x4 t0 t1 : Int) (σ : KM) : Option ((Int × KM) ⊕ ((Int × KM) ⊕ ((Int × KM) ⊕ (Int × KM)))) :=
  kLet ((t1 * t0) + x4) fun y1 =>
  kRd σ 65 1152 ((24 * x3) + x4) fun y2 =>
  kRd σ 59 1152 ((24 * x2) + x4) fun y3 =>
  kCall (fM_added y2 y3 σ) fun r5 τ4 =>
  kRd τ4 66 1152 y1 fun y6 =>
  kLt r5 y6
    (fM_lasting_J210 x1 x2 x3 x4 r5 y1 τ4)
    (kRd τ4 66 1152 y1 fun y7 =>
     fM_lasting_J210 x1 x2 x3 x4 y7 y1 τ4)
def fM_lasting_B122 (x1 x2 x3 x4 : Int) (σ : KM) : Option ((Int × KM) ⊕ ((Int × KM) ⊕ ((Int × KM) ⊕ (Int × KM)))) :=
  kLt x4 24
    (kLt (x3 + 1) x1
       (fM_lasting_J145 x1 x2 x3 x4 (x3 + 1) 24 σ)
       (fM_lasting_J145 x1 x2 x3 x4 x3 24 σ))
    (kExit (fM_lasting_J217 x1 x2 x3 σ))
def fM_lasting_L122 (x1 x2 x3 x4 : Int) (σ : KM) : Option ((Int × KM) ⊕ ((Int × KM) ⊕ (Int × KM))) := kIter (fun s => fM_lasting_B122 x1 x2 x3 s.1 s.2) kF (x4, σ)
def fM_lasting_B114 (x1 x2 x3 : Int) (σ : KM) : Option ((Int × KM) ⊕ ((Int × KM) ⊕ (Int × KM))) :=
  kLt x3 x1
    (fM_lasting_L122 x1 x2 x3 0 σ)
    (kExit (fM_lasting_J223 x1 x2 σ))
def fM_lasting_L114 (x1 x2 x3 : Int) (σ : KM) : Option ((Int × KM) ⊕ (Int × KM)) := kIter (fun s => fM_lasting_B114 x1 x2 s.1 s.2) kF (x3, σ)
def fM_lasting_J112 (x1 x2 : Int) (σ : KM) : Option ((Int × KM) ⊕ (Int × KM)) :=
  fM_lasting_L114 x1 x2 0 σ
def fM_lasting_B90 (x1 x2 x3 : Int) (σ : KM) : Option ((Int × KM) ⊕ ((Int × KM) ⊕ (Int × KM))) :=
  kLt x3 (24 * x1)
    (kWr σ 66 1152 x3 1000000000 fun τ1 =>
     kLet (x3 + 1) fun y2 =>
     some (.inl (y2, τ1)))
    (kExit (fM_lasting_J112 x1 x2 σ))
def fM_lasting_L90 (x1 x2 x3 : Int) (σ : KM) : Option ((Int × KM) ⊕ (Int × KM)) := kIter (fun s => fM_lasting_B90 x1 x2 s.1 s.2) kF (x3, σ)
def fM_lasting_B80 (x1 x2 : Int) (σ : KM) : Option ((Int × KM) ⊕ (Int × KM)) :=
  kLt x2 (σ 10 37)
    (fM_lasting_L90 x1 x2 0 σ)
    (kExit (fM_lasting_J346 x1 σ))
def fM_lasting_L80 (x1 x2 : Int) (σ : KM) : Option (Int × KM) := kIter (fun s => fM_lasting_B80 x1 s.1 s.2) kF (x2, σ)
def fM_lasting_J78 (x1 : Int) (σ : KM) : Option (Int × KM) :=
  fM_lasting_L80 x1 1 σ
def fM_lasting_J71 (x1 x2 t0 t1 : Int) (σ : KM) : Option ((Int × KM) ⊕ (Int × KM)) :=
  kWr σ 65 1152 t1 t0 fun τ1 =>
  kLet (x2 + 1) fun y2 =>
  some (.inl (y2, τ1))
def fM_lasting_B41 (x1 x2 : Int) (σ : KM) : Option ((Int × KM) ⊕ (Int × KM)) :=
  kLt x2 (24 * x1)
    (kLt x2 24
       (kRd σ 59 1152 x2 fun y1 =>
        fM_lasting_J71 x1 x2 y1 x2 σ)
       (fM_lasting_J71 x1 x2 1000000000 x2 σ))
    (kExit (fM_lasting_J78 x1 σ))
def fM_lasting_L41 (x1 x2 : Int) (σ : KM) : Option (Int × KM) := kIter (fun s => fM_lasting_B41 x1 s.1 s.2) kF (x2, σ)
def fM_lasting (x1 : Int) (σ : KM) : Option (Int × KM) :=
  kWf σ 10 0 0 fun τ1 =>
  kCk x1 <|
  kCall (fM_isIn x1 1 16 τ1) fun r3 τ2 =>
  kEq r3 0
    (kRetI (-3) τ2)
    (kCall (fM_hasPath τ2) fun r5 τ4 =>
     kEq r5 0
       (kRetI (-5) τ4)
       (kEq (τ4 10 37) 0
          (kRetI 0 τ4)
          (fM_lasting_L41 x1 0 τ4)))
def fM_isMode_J14 (t0 : Int) (σ : KM) : Option (Int × KM) :=
  kRetZ t0 σ
def fM_isMode_J9 (σ : KM) : Option (Int × KM) :=
  fM_isMode_J14 1 σ
def fM_isMode (x0 : Int) (σ : KM) : Option (Int × KM) :=
  kEq x0 0
    (fM_isMode_J9 σ)
    (kEq x0 1
       (fM_isMode_J9 σ)
       (fM_isMode_J14 0 σ))
def fM_learnt_J24 (σ : KM) : Option (Int × KM) :=
  kRetI (-2) σ
def fM_learnt_J132 (t0 : Int) (σ : KM) : Option (Int × KM) :=
  kRetI t0 σ
def fM_learnt_J112 (x3 x4 : Int) (σ : KM) : Option (Int × KM) :=
  kEq x4 0
    (fM_learnt_J132 (-1) σ)
    (kCk x3 <|
     kCk x4 <|
     kDv6 (100 * x3) x4 fun y1 =>
     fM_learnt_J132 y1 σ)
def fM_learnt_J106 (x1 x2 x3 x4 x5 : Int) (σ : KM) : Option ((Int × Int × Int × KM) ⊕ (Int × KM)) :=
  kLet (x5 + 1) fun y1 =>
  some (.inl (x3, x4, y1, σ))
def fM_learnt_B45 (x1 x2 x3 x4 x5 : Int) (σ : KM) : Option ((Int × Int × Int × KM) ⊕ (Int × KM)) :=
  kLt x5 (σ 10 37)
    (kRd σ 63 48 x5 fun y1 =>
     kDv y1 12 fun y2 =>
     kEq y2 x1
       (kCall (fM_countedIn x5 σ) fun _ τ3 =>
        kRd τ3 63 48 x5 fun y4 =>
        kRm (y4 + x2) 12 fun y5 =>
        kRd τ3 55 12 y5 fun y6 =>
        kLet (x3 + y6) fun y7 =>
        kLet (x4 + (τ3 10 27)) fun y8 =>
        fM_learnt_J106 x1 x2 y7 y8 x5 τ3)
       (fM_learnt_J106 x1 x2 x3 x4 x5 σ))
    (kExit (fM_learnt_J112 x3 x4 σ))
def fM_learnt_L45 (x1 x2 x3 x4 x5 : Int) (σ : KM) : Option (Int × KM) := kIter (fun s => fM_learnt_B45 x1 x2 s.1 s.2.1 s.2.2.1 s.2.2.2) kF (x3, x4, x5, σ)
def fM_learnt (x1 x2 : Int) (σ : KM) : Option (Int × KM) :=
  kWf σ 10 0 0 fun τ1 =>
  kCall (fM_isMode x1 τ1) fun r3 τ2 =>
  kEq r3 0
    (fM_learnt_J24 τ2)
    (kCk x2 <|
     kCall (fM_isIn x2 0 11 τ2) fun r5 τ4 =>
     kEq r5 0
       (fM_learnt_J24 τ4)
       (kCall (fM_hasPath τ4) fun r7 τ6 =>
        kEq r7 0
          (kRetI (-5) τ6)
          (fM_learnt_L45 x1 x2 0 0 0 τ6)))
def fM_comes_J130 (x1 x2 x3 x4 : Int) (σ : KM) : Option (Int × KM) :=
  kWr σ 45 100 x4 x1 fun τ1 =>
  kWr τ1 46 100 x4 x2 fun τ2 =>
  kWr τ2 47 100 x4 x3 fun τ3 =>
  kWf τ3 10 7 ((τ3 10 7) + 1) fun τ4 =>
  kRetI x4 τ4
def fM_comes_J76 (x1 x2 x3 x4 : Int) (σ : KM) : Option ((Int × KM) ⊕ (Int × KM)) :=
  kRd σ 45 100 (x4 - 1) fun y1 =>
  kWr σ 45 100 x4 y1 fun τ2 =>
  kRd τ2 46 100 (x4 - 1) fun y3 =>
  kWr τ2 46 100 x4 y3 fun τ4 =>
  kRd τ4 47 100 (x4 - 1) fun y5 =>
  kWr τ4 47 100 x4 y5 fun τ6 =>
  kLet (x4 + (-1)) fun y7 =>
  some (.inl (y7, τ6))
def fM_comes_B6 (x1 x2 x3 x4 : Int) (σ : KM) : Option ((Int × KM) ⊕ (Int × KM)) :=
  kLt 0 x4
    (kRd σ 45 100 (x4 - 1) fun y1 =>
     kLt x1 y1
       (fM_comes_J76 x1 x2 x3 x4 σ)
       (kRd σ 45 100 (x4 - 1) fun y2 =>
        kEq y2 x1
          (kRd σ 47 100 (x4 - 1) fun y3 =>
           kLt x3 y3
             (fM_comes_J76 x1 x2 x3 x4 σ)
             (kRd σ 47 100 (x4 - 1) fun y4 =>
              kEq y4 x3
                (kRd σ 46 100 (x4 - 1) fun y5 =>
                 kLt x2 y5
                   (fM_comes_J76 x1 x2 x3 x4 σ)
                   (kExit (fM_comes_J130 x1 x2 x3 x4 σ)))
                (kExit (fM_comes_J130 x1 x2 x3 x4 σ))))
          (kExit (fM_comes_J130 x1 x2 x3 x4 σ))))
    (kExit (fM_comes_J130 x1 x2 x3 x4 σ))
def fM_comes_L6 (x1 x2 x3 x4 : Int) (σ : KM) : Option (Int × KM) := kIter (fun s => fM_comes_B6 x1 x2 x3 s.1 s.2) kF (x4, σ)
def fM_comes (x1 x2 x3 : Int) (σ : KM) : Option (Int × KM) :=
  kLet (σ 10 7) fun y1 =>
  fM_comes_L6 x1 x2 x3 y1 σ
def fM_peek_J66 (t0 : Int) (σ : KM) : Option (Int × KM) :=
  kRetI t0 σ
def fM_peek_J38 (σ : KM) : Option (Int × KM) :=
  kLt (σ 10 22) (σ 10 21)
    (kRd σ 54 700 (σ 10 22) fun y1 =>
     kAnd y1 255 fun y2 =>
     fM_peek_J66 y2 σ)
    (fM_peek_J66 (-1) σ)
def fM_peek_B0 (σ : KM) : Option ((KM) ⊕ (Int × KM)) :=
  kLt (σ 10 22) (σ 10 21)
    (kRd σ 54 700 (σ 10 22) fun y1 =>
     kEq y1 32
       (kWf σ 10 22 ((σ 10 22) + 1) fun τ2 =>
        some (.inl (τ2)))
       (kExit (fM_peek_J38 σ)))
    (kExit (fM_peek_J38 σ))
def fM_peek_L0 (σ : KM) : Option (Int × KM) := kIter (fun s => fM_peek_B0 s) kF (σ)
def fM_peek (σ : KM) : Option (Int × KM) :=
  fM_peek_L0 σ
def fM_isLetter (σ : KM) : Option (Int × KM) :=
  kCall (fM_peek σ) fun r2 τ1 =>
  kCk r2 <|
  kCall (fM_isIn r2 97 103 τ1) fun r4 τ3 =>
  kRetZ r4 τ3
def fM_fails (x1 x2 : Int) (σ : KM) : Option (Int × KM) :=
  kEq (σ 10 23) 0
    (kWf σ 10 23 x1 fun τ1 =>
     kWf τ1 10 24 x2 fun τ2 =>
     kRetI 0 τ2)
    (kRetI 0 σ)
def fM_stepOf_J58 (σ : KM) : Option (Int × KM) :=
  kRetI 11 σ
def fM_stepOf (x0 : Int) (σ : KM) : Option (Int × KM) :=
  kSw x0 97 [
    kRetI 9 σ,
    fM_stepOf_J58 σ,
    kRetI 0 σ,
    kRetI 2 σ,
    kRetI 4 σ,
    kRetI 5 σ,
    kRetI 7 σ
    ]
    (fM_stepOf_J58 σ)
def fM_nameRead_J242 (x3 : Int) (σ : KM) : Option (Int × KM) :=
  kWr σ 50 100 (σ 10 8) x3 fun τ1 =>
  kWr τ1 48 100 (τ1 10 8) (τ1 10 25) fun τ2 =>
  kWf τ2 10 8 ((τ2 10 8) + 1) fun τ3 =>
  kRetI 0 τ3
def fM_nameRead_J236 (x2 x3 x5 : Int) (σ : KM) : Option ((Int × KM) ⊕ (Int × KM)) :=
  kLet (x5 + 1) fun y1 =>
  some (.inl (y1, σ))
def fM_nameRead_B210 (x2 x3 x5 : Int) (σ : KM) : Option ((Int × KM) ⊕ (Int × KM)) :=
  kLt x5 (σ 10 8)
    (kRd σ 50 100 x5 fun y1 =>
     kEq y1 x3
       (kCall (fM_fails 3 x2 σ) fun _ τ2 =>
        fM_nameRead_J236 x2 x3 x5 τ2)
       (fM_nameRead_J236 x2 x3 x5 σ))
    (kExit (fM_nameRead_J242 x3 σ))
def fM_nameRead_L210 (x2 x3 x5 : Int) (σ : KM) : Option (Int × KM) := kIter (fun s => fM_nameRead_B210 x2 x3 s.1 s.2) kF (x5, σ)
def fM_nameRead_J207 (x1 x2 x3 : Int) (σ : KM) : Option (Int × KM) :=
  fM_nameRead_L210 x2 x3 x1 σ
def fM_nameRead_J132 (x1 x2 x3 : Int) (σ : KM) : Option (Int × KM) :=
  kCall (fM_peek σ) fun r2 τ1 =>
  kCk r2 <|
  kCall (fM_isIn r2 48 57 τ1) fun r4 τ3 =>
  kEq r4 0
    (kCall (fM_fails 1 (τ3 10 22) τ3) fun _ τ11 =>
     kRetI 0 τ11)
    (kRd τ3 54 700 (τ3 10 22) fun y5 =>
     kLet (x3 + (12 * ((y5 - 48) + 1))) fun y6 =>
     kWf τ3 10 22 ((τ3 10 22) + 1) fun τ7 =>
     kCk y6 <|
     kCall (fM_isIn y6 0 127 τ7) fun r9 τ8 =>
     kEq r9 0
       (kCall (fM_fails 3 x2 τ8) fun _ τ10 =>
        fM_nameRead_J207 x1 x2 y6 τ10)
       (fM_nameRead_J207 x1 x2 y6 τ8))
def fM_nameRead_J120 (x1 x2 t0 t1 : Int) (σ : KM) : Option (Int × KM) :=
  kLet (t1 + t0) fun y1 =>
  kWf σ 10 22 ((σ 10 22) + 1) fun τ2 =>
  fM_nameRead_J132 x1 x2 y1 τ2
def fM_nameRead_J107 (x1 x2 x3 x4 : Int) (σ : KM) : Option (Int × KM) :=
  kEq x4 35
    (fM_nameRead_J120 x1 x2 1 x3 σ)
    (fM_nameRead_J120 x1 x2 (-1) x3 σ)
def fM_nameRead_J56 (x1 x2 : Int) (σ : KM) : Option (Int × KM) :=
  kEq (σ 10 23) 0
    (kRd σ 54 700 (σ 10 22) fun y1 =>
     kCall (fM_stepOf y1 σ) fun r3 τ2 =>
     kWf τ2 10 22 ((τ2 10 22) + 1) fun τ4 =>
     kCall (fM_peek τ4) fun r6 τ5 =>
     kEq r6 35
       (fM_nameRead_J107 x1 x2 r3 r6 τ5)
       (kEq r6 33
          (fM_nameRead_J107 x1 x2 r3 r6 τ5)
          (fM_nameRead_J132 x1 x2 r3 τ5)))
    (kRetI 0 σ)
def fM_nameRead_J50 (x1 x2 : Int) (σ : KM) : Option (Int × KM) :=
  kCall (fM_fails 3 x2 σ) fun _ τ1 =>
  fM_nameRead_J56 x1 x2 τ1
def fM_nameRead (x1 : Int) (σ : KM) : Option (Int × KM) :=
  kEq (σ 10 23) 0
    (kCall (fM_isLetter σ) fun r2 τ1 =>
     kEq r2 0
       (kCall (fM_fails 1 (τ1 10 22) τ1) fun _ τ4 =>
        kRetI 0 τ4)
       (kLet (τ1 10 22) fun y3 =>
        kEq (τ1 10 8) 100
          (fM_nameRead_J50 x1 y3 τ1)
          (kEq ((τ1 10 8) - x1) 6
             (fM_nameRead_J50 x1 y3 τ1)
             (fM_nameRead_J56 x1 y3 τ1))))
    (kRetI 0 σ)
def fM_must_J24 (σ : KM) : Option (Int × KM) :=
  kWf σ 10 22 ((σ 10 22) + 1) fun τ1 =>
  kRetI 0 τ1
def fM_must (x1 : Int) (σ : KM) : Option (Int × KM) :=
  kEq (σ 10 23) 0
    (kCall (fM_peek σ) fun r2 τ1 =>
     kEq r2 x1
       (fM_must_J24 τ1)
       (kCall (fM_fails 1 (τ1 10 22) τ1) fun _ τ3 =>
        fM_must_J24 τ3))
    (fM_must_J24 σ)
def fM_lengthRead_J167 (x3 : Int) (σ : KM) : Option (Int × KM) :=
  kRetI x3 σ
def fM_lengthRead_J140 (x2 x3 : Int) (σ : KM) : Option (Int × KM) :=
  kCall (fM_fails 2 x2 σ) fun _ τ1 =>
  fM_lengthRead_J167 x3 τ1
def fM_lengthRead_J101 (x2 x3 : Int) (σ : KM) : Option (Int × KM) :=
  kEq (σ 10 22) x2
    (kCall (fM_fails 1 x2 σ) fun _ τ4 =>
     fM_lengthRead_J167 x3 τ4)
    (kLt 2 ((σ 10 22) - x2)
       (fM_lengthRead_J140 x2 x3 σ)
       (kCk x3 <|
        kCall (fM_isIn x3 1 64 σ) fun r2 τ1 =>
        kEq r2 0
          (fM_lengthRead_J140 x2 x3 τ1)
          (kLt 512 ((τ1 10 25) + x3)
             (kCall (fM_fails 4 x2 τ1) fun _ τ3 =>
              fM_lengthRead_J167 x3 τ3)
             (fM_lengthRead_J167 x3 τ1))))
def fM_lengthRead_J88 (x2 x3 : Int) (σ : KM) : Option ((Int × KM) ⊕ (Int × KM)) :=
  kWf σ 10 22 ((σ 10 22) + 1) fun τ1 =>
  some (.inl (x3, τ1))
def fM_lengthRead_B27 (x2 x3 : Int) (σ : KM) : Option ((Int × KM) ⊕ (Int × KM)) :=
  kLt (σ 10 22) (σ 10 21)
    (kRd σ 54 700 (σ 10 22) fun y1 =>
     kCk y1 <|
     kCall (fM_isIn y1 48 57 σ) fun r3 τ2 =>
     kEq r3 0
       (kExit (fM_lengthRead_J101 x2 x3 τ2))
       (kLt ((τ2 10 22) - x2) 2
          (kRd τ2 54 700 (τ2 10 22) fun y4 =>
           kLet (((10 * x3) + y4) - 48) fun y5 =>
           fM_lengthRead_J88 x2 y5 τ2)
          (fM_lengthRead_J88 x2 x3 τ2)))
    (kExit (fM_lengthRead_J101 x2 x3 σ))
def fM_lengthRead_L27 (x2 x3 : Int) (σ : KM) : Option (Int × KM) := kIter (fun s => fM_lengthRead_B27 x2 s.1 s.2) kF (x3, σ)
def fM_lengthRead (σ : KM) : Option (Int × KM) :=
  kCall (fM_must 58 σ) fun _ τ1 =>
  kEq (τ1 10 23) 0
    (kCall (fM_peek τ1) fun r3 τ2 =>
     kLet (τ2 10 22) fun y4 =>
     fM_lengthRead_L27 y4 0 τ2)
    (kRetI 0 τ1)
def fM_readOne_J142 (x3 : Int) (σ : KM) : Option (Int × KM) :=
  kWf σ 10 25 ((σ 10 25) + x3) fun τ1 =>
  kRetI 0 τ1
def fM_readOne_B119 (x3 x4 : Int) (σ : KM) : Option ((Int × KM) ⊕ (Int × KM)) :=
  kLt x4 (σ 10 8)
    (kWr σ 49 100 x4 x3 fun τ1 =>
     kLet (x4 + 1) fun y2 =>
     some (.inl (y2, τ1)))
    (kExit (fM_readOne_J142 x3 σ))
def fM_readOne_L119 (x3 x4 : Int) (σ : KM) : Option (Int × KM) := kIter (fun s => fM_readOne_B119 x3 s.1 s.2) kF (x4, σ)
def fM_readOne_J103 (x2 : Int) (σ : KM) : Option (Int × KM) :=
  kCall (fM_lengthRead σ) fun r2 τ1 =>
  kEq (τ1 10 23) 0
    (fM_readOne_L119 r2 x2 τ1)
    (kRetI 0 τ1)
def fM_readOne_J89 (x2 : Int) (σ : KM) : Option (Int × KM) :=
  kCall (fM_must 41 σ) fun _ τ1 =>
  fM_readOne_J103 x2 τ1
def fM_readOne_B67 (x2 : Int) (σ : KM) : Option ((KM) ⊕ (Int × KM)) :=
  kEq (σ 10 23) 0
    (kCall (fM_isLetter σ) fun r2 τ1 =>
     kEq r2 0
       (kExit (fM_readOne_J89 x2 τ1))
       (kCall (fM_nameRead x2 τ1) fun _ τ3 =>
        some (.inl (τ3))))
    (kExit (fM_readOne_J89 x2 σ))
def fM_readOne_L67 (x2 : Int) (σ : KM) : Option (Int × KM) := kIter (fun s => fM_readOne_B67 x2 s) kF (σ)
def fM_readOne (σ : KM) : Option (Int × KM) :=
  kCall (fM_peek σ) fun r2 τ1 =>
  kEq r2 124
    (kWf τ1 10 22 ((τ1 10 22) + 1) fun τ8 =>
     kRetI 0 τ8)
    (kLet (τ1 10 8) fun y3 =>
     kEq r2 45
       (kWf τ1 10 22 ((τ1 10 22) + 1) fun τ7 =>
        fM_readOne_J103 y3 τ7)
       (kEq r2 40
          (kWf τ1 10 22 ((τ1 10 22) + 1) fun τ5 =>
           kCall (fM_nameRead y3 τ5) fun _ τ6 =>
           fM_readOne_L67 y3 τ6)
          (kCall (fM_nameRead y3 τ1) fun _ τ4 =>
           fM_readOne_J103 y3 τ4)))
def fM_load_J138 (σ : KM) : Option (Int × KM) :=
  kWf σ 10 10 0 fun τ1 =>
  kRetI (τ1 10 7) τ1
def fM_load_B101 (x2 : Int) (σ : KM) : Option ((Int × KM) ⊕ (Int × KM)) :=
  kLt x2 (σ 10 8)
    (kRd σ 48 100 x2 fun y1 =>
     kRd σ 49 100 x2 fun y2 =>
     kRd σ 50 100 x2 fun y3 =>
     kCall (fM_comes y1 y2 y3 σ) fun r5 τ4 =>
     kLet (x2 + 1) fun y6 =>
     some (.inl (y6, τ4)))
    (kExit (fM_load_J138 σ))
def fM_load_L101 (x2 : Int) (σ : KM) : Option (Int × KM) := kIter (fun s => fM_load_B101 s.1 s.2) kF (x2, σ)
def fM_load_J79 (σ : KM) : Option (Int × KM) :=
  kEq (σ 10 23) 0
    (kWf σ 10 7 0 fun τ1 =>
     fM_load_L101 0 τ1)
    (kRetI ((-30) - (σ 10 23)) σ)
def fM_load_B57 (σ : KM) : Option ((KM) ⊕ (Int × KM)) :=
  kEq (σ 10 23) 0
    (kCall (fM_peek σ) fun r2 τ1 =>
     kEq r2 (-1)
       (kExit (fM_load_J79 τ1))
       (kCall (fM_readOne τ1) fun _ τ3 =>
        some (.inl (τ3))))
    (kExit (fM_load_J79 σ))
def fM_load_L57 (σ : KM) : Option (Int × KM) := kIter (fun s => fM_load_B57 s) kF (σ)
def fM_load (x1 : Int) (σ : KM) : Option (Int × KM) :=
  kWf σ 10 0 0 fun τ1 =>
  kCk x1 <|
  kCk (τ1 10 20) <|
  kCall (fM_isIn x1 0 (τ1 10 20) τ1) fun r3 τ2 =>
  kEq r3 0
    (kRetI (-3) τ2)
    (kWf τ2 10 20 0 fun τ4 =>
     kWf τ4 10 21 x1 fun τ5 =>
     kWf τ5 10 22 0 fun τ6 =>
     kWf τ6 10 23 0 fun τ7 =>
     kWf τ7 10 24 (-1) fun τ8 =>
     kWf τ8 10 25 0 fun τ9 =>
     kWf τ9 10 8 0 fun τ10 =>
     fM_load_L57 τ10)
def fM_common_J15 (R : Int → Int → KM → Option (Int × KM)) (t0 : Int) (σ : KM) : Option (Int × KM) :=
  kRetI t0 σ
def fM_common : Nat → Int → Int → KM → Option (Int × KM)
  | 0, _, _, _ => none
  | n + 1, x0, x1, σ =>
    kEq x1 0
      (fM_common_J15 (fM_common n) x0 σ)
      (kRm x0 x1 fun y1 =>
       kCall (fM_common n x1 y1 σ) fun r3 τ2 =>
       fM_common_J15 (fM_common n) r3 τ2)
def fM_match_J30 (σ : KM) : Option (Int × KM) :=
  kRetI (-2) σ
def fM_match_J77 (x4 t0 : Int) (σ : KM) : Option (Int × KM) :=
  kDv t0 x4 fun y1 =>
  kRetI y1 σ
def fM_match (x1 x2 x3 : Int) (σ : KM) : Option (Int × KM) :=
  kWf σ 10 0 0 fun τ1 =>
  kCall (fM_isWindow x1 τ1) fun r3 τ2 =>
  kEq r3 0
    (fM_match_J30 τ2)
    (kCall (fM_isKey x2 τ2) fun r5 τ4 =>
     kEq r5 0
       (fM_match_J30 τ4)
       (kCk x3 <|
        kCall (fM_isIn x3 0 1 τ4) fun r7 τ6 =>
        kEq r7 0
          (fM_match_J30 τ6)
          (kCall (fM_countedIn x1 τ6) fun _ τ8 =>
           kEq (τ8 10 27) 0
             (kRetI x3 τ8)
             (kCall (fM_matched x2 τ8) fun r10 τ9 =>
              kCall (fM_common 40 r10 (τ9 10 27) τ9) fun r12 τ11 =>
              kEq x3 0
                (kCall (fM_matched x2 τ11) fun r14 τ13 =>
                 fM_match_J77 r12 r14 τ13)
                (fM_match_J77 r12 (τ11 10 27) τ11)))))
def fM_letter_J60 (σ : KM) : Option (Int × KM) :=
  kRetI 99 σ
def fM_letter_J63 (σ : KM) : Option (Int × KM) :=
  kRetI 100 σ
def fM_letter_J69 (σ : KM) : Option (Int × KM) :=
  kRetI 102 σ
def fM_letter_J72 (σ : KM) : Option (Int × KM) :=
  kRetI 103 σ
def fM_letter_J75 (σ : KM) : Option (Int × KM) :=
  kRetI 97 σ
def fM_letter (x0 : Int) (σ : KM) : Option (Int × KM) :=
  kSw x0 0 [
    fM_letter_J60 σ,
    fM_letter_J60 σ,
    fM_letter_J63 σ,
    fM_letter_J63 σ,
    kRetI 101 σ,
    fM_letter_J69 σ,
    fM_letter_J69 σ,
    fM_letter_J72 σ,
    fM_letter_J72 σ,
    fM_letter_J75 σ,
    fM_letter_J75 σ
    ]
    (kRetI 98 σ)
def fM_name_J110 (t0 : Int) (σ : KM) : Option (Int × KM) :=
  kRetI t0 σ
def fM_name_J109 (σ : KM) : Option (Int × KM) :=
  fM_name_J110 (-1) σ
def fM_name_J101 (t0 t1 : Int) (σ : KM) : Option (Int × KM) :=
  kEq t1 t0
    (fM_name_J110 109 σ)
    (fM_name_J109 σ)
def fM_name_J84 (x1 x2 x4 : Int) (σ : KM) : Option (Int × KM) :=
  kLt x1 12
    (fM_name_J109 σ)
    (kEq x4 0
       (fM_name_J101 1 x2 σ)
       (fM_name_J101 2 x2 σ))
def fM_name_J60 (x1 x2 x3 t0 : Int) (σ : KM) : Option (Int × KM) :=
  kEq x2 0
    (kCall (fM_letter x3 σ) fun r2 τ1 =>
     kRetI r2 τ1)
    (kEq x2 1
       (kEq t0 0
          (fM_name_J84 x1 x2 t0 σ)
          (kRetI 35 σ))
       (fM_name_J84 x1 x2 t0 σ))
def fM_name_J55 (x1 x2 x3 : Int) (σ : KM) : Option (Int × KM) :=
  fM_name_J60 x1 x2 x3 1 σ
def fM_name (x1 x2 : Int) (σ : KM) : Option (Int × KM) :=
  kWf σ 10 0 0 fun τ1 =>
  kCall (fM_isKey x1 τ1) fun r3 τ2 =>
  kEq r3 0
    (kRetI (-2) τ2)
    (kLt x2 0
       (kRetI (-3) τ2)
       (kRm x1 12 fun y4 =>
        kEq y4 1
          (fM_name_J55 x1 x2 y4 τ2)
          (kEq y4 3
             (fM_name_J55 x1 x2 y4 τ2)
             (kEq y4 6
                (fM_name_J55 x1 x2 y4 τ2)
                (kEq y4 8
                   (fM_name_J55 x1 x2 y4 τ2)
                   (kEq y4 10
                      (fM_name_J55 x1 x2 y4 τ2)
                      (fM_name_J60 x1 x2 y4 0 τ2)))))))
def fM_net_J54 (σ : KM) : Option (Int × KM) :=
  kRetI (-3) σ
def fM_net (x1 x2 x3 x4 : Int) (σ : KM) : Option (Int × KM) :=
  kWf σ 10 0 0 fun τ1 =>
  kCk x1 <|
  kCall (fM_isIn x1 0 999 τ1) fun r3 τ2 =>
  kEq r3 0
    (fM_net_J54 τ2)
    (kCk x2 <|
     kCall (fM_isIn x2 0 999 τ2) fun r5 τ4 =>
     kEq r5 0
       (fM_net_J54 τ4)
       (kCk x3 <|
        kCall (fM_isIn x3 0 999 τ4) fun r7 τ6 =>
        kEq r7 0
          (fM_net_J54 τ6)
          (kCk x4 <|
           kCall (fM_isIn x4 0 100 τ6) fun r9 τ8 =>
           kEq r9 0
             (fM_net_J54 τ8)
             (kLet (τ8 10 16) fun y10 =>
              kWf τ8 10 13 x1 fun τ11 =>
              kWf τ11 10 14 x2 fun τ12 =>
              kWf τ12 10 15 x3 fun τ13 =>
              kWf τ13 10 16 x4 fun τ14 =>
              kRetI y10 τ14))))
def fM_note_J25 (σ : KM) : Option (Int × KM) :=
  kRetI (-2) σ
def fM_note_J78 (t0 : Int) (σ : KM) : Option (Int × KM) :=
  kRetI t0 σ
def fM_note (x1 x2 : Int) (σ : KM) : Option (Int × KM) :=
  kWf σ 10 0 0 fun τ1 =>
  kCall (fM_isNote x1 τ1) fun r3 τ2 =>
  kEq r3 0
    (fM_note_J25 τ2)
    (kCk x2 <|
     kCall (fM_isIn x2 0 3 τ2) fun r5 τ4 =>
     kEq r5 0
       (fM_note_J25 τ4)
       (kEq x2 0
          (kRd τ4 45 100 x1 fun y10 =>
           fM_note_J78 y10 τ4)
          (kEq x2 1
             (kRd τ4 46 100 x1 fun y9 =>
              fM_note_J78 y9 τ4)
             (kEq x2 2
                (kRd τ4 47 100 x1 fun y8 =>
                 fM_note_J78 y8 τ4)
                (kRd τ4 47 100 x1 fun y6 =>
                 kRm y6 12 fun y7 =>
                 fM_note_J78 y7 τ4)))))
def fM_outside_J59 (x1 : Int) (σ : KM) : Option (Int × KM) :=
  kRetI x1 σ
def fM_outside_J51 (x2 t0 t1 : Int) (σ : KM) : Option ((Int × Int × KM) ⊕ (Int × KM)) :=
  kLet (t1 + t0) fun y1 =>
  kLet (x2 + 1) fun y2 =>
  some (.inl (y1, y2, σ))
def fM_outside_J50 (x2 t0 : Int) (σ : KM) : Option ((Int × Int × KM) ⊕ (Int × KM)) :=
  fM_outside_J51 x2 0 t0 σ
def fM_outside_B19 (x1 x2 : Int) (σ : KM) : Option ((Int × Int × KM) ⊕ (Int × KM)) :=
  kLt x2 (σ 10 37)
    (kRd σ 64 48 x2 fun y1 =>
     kEq y1 0
       (kCall (fM_romanNow x2 σ) fun r3 τ2 =>
        kEq r3 (-1)
          (fM_outside_J51 x2 1 x1 τ2)
          (fM_outside_J50 x2 x1 τ2))
       (fM_outside_J50 x2 x1 σ))
    (kExit (fM_outside_J59 x1 σ))
def fM_outside_L19 (x1 x2 : Int) (σ : KM) : Option (Int × KM) := kIter (fun s => fM_outside_B19 s.1 s.2.1 s.2.2) kF (x1, x2, σ)
def fM_outside (σ : KM) : Option (Int × KM) :=
  kWf σ 10 0 0 fun τ1 =>
  kCall (fM_hasPath τ1) fun r3 τ2 =>
  kEq r3 0
    (kRetI (-5) τ2)
    (fM_outside_L19 0 0 τ2)
def fM_rankedNow_J81 (σ : KM) : Option (Int × KM) :=
  kRetI (-1) σ
def fM_rankedNow_J73 (x2 : Int) (σ : KM) : Option (Int × KM) :=
  kRetI x2 σ
def fM_rankedNow_J68 (x1 x2 x3 : Int) (σ : KM) : Option ((Int × KM) ⊕ (Int × KM)) :=
  kEq x3 x1
    (kExit (fM_rankedNow_J73 x2 σ))
    (kLet (x2 + 1) fun y1 =>
     some (.inl (y1, σ)))
def fM_rankedNow_J60 (x1 x2 x4 t0 t1 : Int) (σ : KM) : Option ((Int × Int × KM) ⊕ ((Int × KM) ⊕ (Int × KM))) :=
  kLet (t1 + t0) fun y1 =>
  kLet (x4 + 1) fun y2 =>
  some (.inl (y1, y2, σ))
def fM_rankedNow_J55 (x1 x2 x4 t0 : Int) (σ : KM) : Option ((Int × Int × KM) ⊕ ((Int × KM) ⊕ (Int × KM))) :=
  fM_rankedNow_J60 x1 x2 x4 1 t0 σ
def fM_rankedNow_J59 (x1 x2 x4 t0 : Int) (σ : KM) : Option ((Int × Int × KM) ⊕ ((Int × KM) ⊕ (Int × KM))) :=
  fM_rankedNow_J60 x1 x2 x4 0 t0 σ
def fM_rankedNow_B13 (x1 x2 x3 x4 : Int) (σ : KM) : Option ((Int × Int × KM) ⊕ ((Int × KM) ⊕ (Int × KM))) :=
  kLt x4 24
    (kCall (fM_fitted x4 σ) fun r2 τ1 =>
     kCall (fM_fitted x2 τ1) fun r4 τ3 =>
     kLt r4 r2
       (fM_rankedNow_J55 x1 x2 x4 x3 τ3)
       (kCall (fM_fitted x4 τ3) fun r6 τ5 =>
        kCall (fM_fitted x2 τ5) fun r8 τ7 =>
        kEq r6 r8
          (kLt x4 x2
             (fM_rankedNow_J55 x1 x2 x4 x3 τ7)
             (fM_rankedNow_J59 x1 x2 x4 x3 τ7))
          (fM_rankedNow_J59 x1 x2 x4 x3 τ7)))
    (kExit (fM_rankedNow_J68 x1 x2 x3 σ))
def fM_rankedNow_L13 (x1 x2 x3 x4 : Int) (σ : KM) : Option ((Int × KM) ⊕ (Int × KM)) := kIter (fun s => fM_rankedNow_B13 x1 x2 s.1 s.2.1 s.2.2) kF (x3, x4, σ)
def fM_rankedNow_B2 (x1 x2 : Int) (σ : KM) : Option ((Int × KM) ⊕ (Int × KM)) :=
  kLt x2 24
    (fM_rankedNow_L13 x1 x2 0 0 σ)
    (kExit (fM_rankedNow_J81 σ))
def fM_rankedNow_L2 (x1 x2 : Int) (σ : KM) : Option (Int × KM) := kIter (fun s => fM_rankedNow_B2 x1 s.1 s.2) kF (x2, σ)
def fM_rankedNow (x1 : Int) (σ : KM) : Option (Int × KM) :=
  fM_rankedNow_L2 x1 0 σ
def fM_overall (x1 : Int) (σ : KM) : Option (Int × KM) :=
  kWf σ 10 0 0 fun τ1 =>
  kCall (fM_isKey x1 τ1) fun r3 τ2 =>
  kEq r3 0
    (kRetI (-3) τ2)
    (kCall (fM_theEnd τ2) fun r5 τ4 =>
     kCall (fM_counted 0 r5 τ4) fun _ τ6 =>
     kCall (fM_rankedNow x1 τ6) fun r8 τ7 =>
     kRetI r8 τ7)
def fM_pin_J29 (σ : KM) : Option (Int × KM) :=
  kRetI (-2) σ
def fM_pin_J32 (x1 x2 : Int) (σ : KM) : Option (Int × KM) :=
  kRd σ 53 48 x1 fun y1 =>
  kWr σ 53 48 x1 x2 fun τ2 =>
  kRetI y1 τ2
def fM_pin (x1 x2 : Int) (σ : KM) : Option (Int × KM) :=
  kWf σ 10 0 0 fun τ1 =>
  kCk x1 <|
  kCall (fM_isIn x1 0 47 τ1) fun r3 τ2 =>
  kEq r3 0
    (fM_pin_J29 τ2)
    (kEq x2 (-1)
       (fM_pin_J32 x1 x2 τ2)
       (kCall (fM_isKey x2 τ2) fun r5 τ4 =>
        kEq r5 0
          (fM_pin_J29 τ4)
          (fM_pin_J32 x1 x2 τ4)))
def fM_pivot_J43 (σ : KM) : Option (Int × KM) :=
  kRetI (-2) σ
def fM_pivot_J327 (t0 : Int) (σ : KM) : Option (Int × KM) :=
  kRetI t0 σ
def fM_pivot_J268 (x2 x3 x4 x5 : Int) (σ : KM) : Option (Int × KM) :=
  kEq x4 (-1)
    (kRetI (-1) σ)
    (kEq x2 0
       (fM_pivot_J327 x4 σ)
       (kEq x2 1
          (kRd σ 63 48 (x3 - 1) fun y4 =>
           kCall (fM_degreeOf x4 y4 σ) fun r6 τ5 =>
           fM_pivot_J327 r6 τ5)
          (kEq x2 2
             (kRd σ 63 48 x3 fun y1 =>
              kCall (fM_degreeOf x4 y1 σ) fun r3 τ2 =>
              fM_pivot_J327 r3 τ2)
             (fM_pivot_J327 x5 σ))))
def fM_pivot_J262 (x2 x3 x4 x5 x6 : Int) (σ : KM) : Option ((Int × Int × Int × KM) ⊕ (Int × KM)) :=
  kLet (x6 + 1) fun y1 =>
  some (.inl (x4, x5, y1, σ))
def fM_pivot_J244 (x2 x3 x4 x5 x6 x7 : Int) (σ : KM) : Option ((Int × Int × Int × KM) ⊕ (Int × KM)) :=
  kLt x5 x7
    (fM_pivot_J262 x2 x3 x6 x7 x6 σ)
    (fM_pivot_J262 x2 x3 x4 x5 x6 σ)
def fM_pivot_J236 (x2 x3 x4 x5 x6 x8 t0 : Int) (σ : KM) : Option ((Int × Int × KM) ⊕ ((Int × Int × Int × KM) ⊕ (Int × KM))) :=
  kLet (x8 + 1) fun y1 =>
  some (.inl (t0, y1, σ))
def fM_pivot_B196 (x2 x3 x4 x5 x6 x7 x8 : Int) (σ : KM) : Option ((Int × Int × KM) ⊕ ((Int × Int × Int × KM) ⊕ (Int × KM))) :=
  kLt x8 3
    (kCall (fM_toneOf x6 x8 σ) fun r2 τ1 =>
     kRd τ1 67 12 r2 fun y3 =>
     kLt y3 x7
       (kCall (fM_toneOf x6 x8 τ1) fun r5 τ4 =>
        kRd τ4 67 12 r5 fun y6 =>
        fM_pivot_J236 x2 x3 x4 x5 x6 x8 y6 τ4)
       (fM_pivot_J236 x2 x3 x4 x5 x6 x8 x7 τ1))
    (kExit (fM_pivot_J244 x2 x3 x4 x5 x6 x7 σ))
def fM_pivot_L196 (x2 x3 x4 x5 x6 x7 x8 : Int) (σ : KM) : Option ((Int × Int × Int × KM) ⊕ (Int × KM)) := kIter (fun s => fM_pivot_B196 x2 x3 x4 x5 x6 s.1 s.2.1 s.2.2) kF (x7, x8, σ)
def fM_pivot_B138 (x2 x3 x4 x5 x6 : Int) (σ : KM) : Option ((Int × Int × Int × KM) ⊕ (Int × KM)) :=
  kLt x6 36
    (kRd σ 63 48 (x3 - 1) fun y1 =>
     kCall (fM_degreeOf x6 y1 σ) fun r3 τ2 =>
     kEq r3 (-1)
       (fM_pivot_J262 x2 x3 x4 x5 x6 τ2)
       (kRd τ2 63 48 x3 fun y4 =>
        kCall (fM_degreeOf x6 y4 τ2) fun r6 τ5 =>
        kEq r6 (-1)
          (fM_pivot_J262 x2 x3 x4 x5 x6 τ5)
          (kCall (fM_toneOf x6 0 τ5) fun r8 τ7 =>
           kRd τ7 67 12 r8 fun y9 =>
           fM_pivot_L196 x2 x3 x4 x5 x6 y9 1 τ7)))
    (kExit (fM_pivot_J268 x2 x3 x4 x5 σ))
def fM_pivot_L138 (x2 x3 x4 x5 x6 : Int) (σ : KM) : Option (Int × KM) := kIter (fun s => fM_pivot_B138 x2 x3 s.1 s.2.1 s.2.2.1 s.2.2.2) kF (x4, x5, x6, σ)
def fM_pivot_J129 (x2 x3 : Int) (σ : KM) : Option (Int × KM) :=
  fM_pivot_L138 x2 x3 (-1) 0 0 σ
def fM_pivot_B99 (x2 x3 x4 : Int) (σ : KM) : Option ((Int × KM) ⊕ (Int × KM)) :=
  kLt x4 12
    (kRd σ 67 12 x4 fun y1 =>
     kRd σ 55 12 x4 fun y2 =>
     kWr σ 67 12 x4 (y1 + y2) fun τ3 =>
     kLet (x4 + 1) fun y4 =>
     some (.inl (y4, τ3)))
    (kExit (fM_pivot_J129 x2 x3 σ))
def fM_pivot_L99 (x2 x3 x4 : Int) (σ : KM) : Option (Int × KM) := kIter (fun s => fM_pivot_B99 x2 x3 s.1 s.2) kF (x4, σ)
def fM_pivot_J91 (x2 x3 : Int) (σ : KM) : Option (Int × KM) :=
  kCall (fM_countedIn x3 σ) fun _ τ1 =>
  fM_pivot_L99 x2 x3 0 τ1
def fM_pivot_B64 (x2 x3 x4 : Int) (σ : KM) : Option ((Int × KM) ⊕ (Int × KM)) :=
  kLt x4 12
    (kRd σ 55 12 x4 fun y1 =>
     kWr σ 67 12 x4 y1 fun τ2 =>
     kLet (x4 + 1) fun y3 =>
     some (.inl (y3, τ2)))
    (kExit (fM_pivot_J91 x2 x3 σ))
def fM_pivot_L64 (x2 x3 x4 : Int) (σ : KM) : Option (Int × KM) := kIter (fun s => fM_pivot_B64 x2 x3 s.1 s.2) kF (x4, σ)
def fM_pivot (x1 x2 : Int) (σ : KM) : Option (Int × KM) :=
  kWf σ 10 0 0 fun τ1 =>
  kCall (fM_hasPath τ1) fun r3 τ2 =>
  kEq r3 0
    (kRetI (-5) τ2)
    (kCk x1 <|
     kCall (fM_segmentsNow τ2) fun r5 τ4 =>
     kCk (r5 - 2) <|
     kCall (fM_isIn x1 0 (r5 - 2) τ4) fun r7 τ6 =>
     kEq r7 0
       (fM_pivot_J43 τ6)
       (kCk x2 <|
        kCall (fM_isIn x2 0 3 τ6) fun r9 τ8 =>
        kEq r9 0
          (fM_pivot_J43 τ8)
          (kCall (fM_firstOf (x1 + 1) τ8) fun r11 τ10 =>
           kCall (fM_countedIn (r11 - 1) τ10) fun _ τ12 =>
           fM_pivot_L64 x2 r11 0 τ12)))
def fM_progression_J86 (t0 : Int) (σ : KM) : Option (Int × KM) :=
  kRetI t0 σ
def fM_progression_J76 (x1 x2 : Int) (σ : KM) : Option (Int × KM) :=
  kEq x1 (-1)
    (fM_progression_J86 x2 σ)
    (fM_progression_J86 (-1) σ)
def fM_progression_J70 (x1 x2 x3 x4 : Int) (σ : KM) : Option ((Int × Int × Int × KM) ⊕ (Int × KM)) :=
  kLet (x4 + 1) fun y1 =>
  some (.inl (x2, x3, y1, σ))
def fM_progression_J61 (x5 : Int) (σ : KM) : Option (Int × KM) :=
  kRetI x5 σ
def fM_progression_B20 (x1 x2 x3 x4 : Int) (σ : KM) : Option ((Int × Int × Int × KM) ⊕ (Int × KM)) :=
  kCall (fM_windowMany σ) fun r2 τ1 =>
  kLt x4 r2
    (kCall (fM_countedIn x4 τ1) fun _ τ3 =>
     kCall (fM_chordNow τ3) fun r5 τ4 =>
     kEq r5 (-1)
       (fM_progression_J70 x1 x2 x3 x4 τ4)
       (kEq r5 x3
          (fM_progression_J70 x1 x2 x3 x4 τ4)
          (kEq x2 x1
             (kExit (fM_progression_J61 r5 τ4))
             (kLet (x2 + 1) fun y6 =>
              fM_progression_J70 x1 y6 r5 x4 τ4))))
    (kExit (fM_progression_J76 x1 x2 τ1))
def fM_progression_L20 (x1 x2 x3 x4 : Int) (σ : KM) : Option (Int × KM) := kIter (fun s => fM_progression_B20 x1 s.1 s.2.1 s.2.2.1 s.2.2.2) kF (x2, x3, x4, σ)
def fM_progression (x1 : Int) (σ : KM) : Option (Int × KM) :=
  kWf σ 10 0 0 fun τ1 =>
  kLt x1 (-1)
    (kRetI (-3) τ1)
    (fM_progression_L20 x1 0 (-1) 0 τ1)
def fM_put_J50 (σ : KM) : Option (Int × KM) :=
  kRetI (-3) σ
def fM_put (x1 x2 x3 : Int) (σ : KM) : Option (Int × KM) :=
  kWf σ 10 0 0 fun τ1 =>
  kCk x1 <|
  kCall (fM_isIn x1 0 511 τ1) fun r3 τ2 =>
  kEq r3 0
    (fM_put_J50 τ2)
    (kCk x2 <|
     kCall (fM_isIn x2 1 64 τ2) fun r5 τ4 =>
     kEq r5 0
       (fM_put_J50 τ4)
       (kCk x3 <|
        kCall (fM_isIn x3 0 127 τ4) fun r7 τ6 =>
        kEq r7 0
          (fM_put_J50 τ6)
          (kLt 512 (x1 + x2)
             (fM_put_J50 τ6)
             (kEq (τ6 10 7) 100
                (kRetI (-4) τ6)
                (kCall (fM_notesAct τ6) fun _ τ8 =>
                 kCall (fM_comes x1 x2 x3 τ8) fun r10 τ9 =>
                 kRetI r10 τ9)))))
def fM_ranked (x1 x2 : Int) (σ : KM) : Option (Int × KM) :=
  kWf σ 10 0 0 fun τ1 =>
  kCall (fM_isWindow x1 τ1) fun r3 τ2 =>
  kEq r3 0
    (kRetI (-2) τ2)
    (kCall (fM_isKey x2 τ2) fun r5 τ4 =>
     kEq r5 0
       (kRetI (-3) τ4)
       (kCall (fM_countedIn x1 τ4) fun _ τ6 =>
        kCall (fM_rankedNow x2 τ6) fun r8 τ7 =>
        kRetI r8 τ7))
def fM_roman_J33 (t0 : Int) (σ : KM) : Option (Int × KM) :=
  kRetI t0 σ
def fM_roman (x1 : Int) (σ : KM) : Option (Int × KM) :=
  kWf σ 10 0 0 fun τ1 =>
  kCall (fM_isWindow x1 τ1) fun r3 τ2 =>
  kEq r3 0
    (kRetI (-2) τ2)
    (kCall (fM_hasPath τ2) fun r5 τ4 =>
     kEq r5 0
       (fM_roman_J33 (-5) τ4)
       (kCall (fM_romanNow x1 τ4) fun r7 τ6 =>
        fM_roman_J33 r7 τ6))
def fM_second_J231 (t0 : Int) (σ : KM) : Option (Int × KM) :=
  kRetI t0 σ
def fM_second_J212 (x1 x2 x3 : Int) (σ : KM) : Option (Int × KM) :=
  kLt x2 1000000000
    (kEq x1 0
       (fM_second_J231 x2 σ)
       (fM_second_J231 x3 σ))
    (fM_second_J231 (-1) σ)
def fM_second_J202 (x1 x2 x3 x5 t0 t1 t2 : Int) (σ : KM) : Option ((Int × Int × Int × Int × KM) ⊕ (Int × KM)) :=
  kLet (t2 + (t1 + t0)) fun y1 =>
  kLet (x5 + 1) fun y2 =>
  some (.inl (x2, x3, y1, y2, σ))
def fM_second_J147 (x1 x2 x3 x4 x5 : Int) (σ : KM) : Option ((Int × Int × Int × Int × KM) ⊕ (Int × KM)) :=
  kRd σ 63 48 x5 fun y1 =>
  kRd σ 59 1152 ((24 * x5) + y1) fun y2 =>
  kEq x5 0
    (fM_second_J202 x1 x2 x3 x5 0 y2 x4 σ)
    (kRd σ 63 48 (x5 - 1) fun y3 =>
     kRd σ 63 48 x5 fun y4 =>
     kCall (fM_moves y3 y4 x5 (σ 10 16) σ) fun r6 τ5 =>
     fM_second_J202 x1 x2 x3 x5 r6 y2 x4 τ5)
def fM_second_J141 (x1 x2 x3 x4 x5 x6 : Int) (σ : KM) : Option ((Int × Int × Int × KM) ⊕ ((Int × Int × Int × Int × KM) ⊕ (Int × KM))) :=
  kLet (x6 + 1) fun y1 =>
  some (.inl (x2, x3, y1, σ))
def fM_second_J105 (x1 x2 x3 x4 x5 x6 t0 t1 : Int) (σ : KM) : Option ((Int × Int × Int × KM) ⊕ ((Int × Int × Int × Int × KM) ⊕ (Int × KM))) :=
  kCall (fM_added t1 t0 σ) fun r2 τ1 =>
  kRd τ1 61 1152 ((24 * x5) + x6) fun y3 =>
  kCall (fM_added r2 y3 τ1) fun r5 τ4 =>
  kLt r5 x2
    (fM_second_J141 x1 r5 x5 x4 x5 x6 τ4)
    (fM_second_J141 x1 x2 x3 x4 x5 x6 τ4)
def fM_second_B51 (x1 x4 x5 x2 x3 x6 : Int) (σ : KM) : Option ((Int × Int × Int × KM) ⊕ ((Int × Int × Int × Int × KM) ⊕ (Int × KM))) :=
  kLt x6 24
    (kRd σ 63 48 x5 fun y1 =>
     kEq x6 y1
       (fM_second_J141 x1 x2 x3 x4 x5 x6 σ)
       (kEq x5 0
          (fM_second_J105 x1 x2 x3 x4 x5 x6 0 x4 σ)
          (kRd σ 63 48 (x5 - 1) fun y2 =>
           kCall (fM_moves y2 x6 x5 (σ 10 16) σ) fun r4 τ3 =>
           fM_second_J105 x1 x2 x3 x4 x5 x6 r4 x4 τ3)))
    (kExit (fM_second_J147 x1 x2 x3 x4 x5 σ))
def fM_second_L51 (x1 x4 x5 x2 x3 x6 : Int) (σ : KM) : Option ((Int × Int × Int × Int × KM) ⊕ (Int × KM)) := kIter (fun s => fM_second_B51 x1 x4 x5 s.1 s.2.1 s.2.2.1 s.2.2.2) kF (x2, x3, x6, σ)
def fM_second_B39 (x1 x2 x3 x4 x5 : Int) (σ : KM) : Option ((Int × Int × Int × Int × KM) ⊕ (Int × KM)) :=
  kLt x5 (σ 10 37)
    (fM_second_L51 x1 x4 x5 x2 x3 0 σ)
    (kExit (fM_second_J212 x1 x2 x3 σ))
def fM_second_L39 (x1 x2 x3 x4 x5 : Int) (σ : KM) : Option (Int × KM) := kIter (fun s => fM_second_B39 x1 s.1 s.2.1 s.2.2.1 s.2.2.2.1 s.2.2.2.2) kF (x2, x3, x4, x5, σ)
def fM_second (x1 : Int) (σ : KM) : Option (Int × KM) :=
  kWf σ 10 0 0 fun τ1 =>
  kCk x1 <|
  kCall (fM_isIn x1 0 1 τ1) fun r3 τ2 =>
  kEq r3 0
    (kRetI (-2) τ2)
    (kCall (fM_hasPath τ2) fun r5 τ4 =>
     kEq r5 0
       (kRetI (-5) τ4)
       (fM_second_L39 x1 1000000000 (-1) 0 0 τ4))
def fM_segment_J43 (σ : KM) : Option (Int × KM) :=
  kRetI (-2) σ
def fM_segment_J97 (t0 : Int) (σ : KM) : Option (Int × KM) :=
  kRetI t0 σ
def fM_segment (x1 x2 : Int) (σ : KM) : Option (Int × KM) :=
  kWf σ 10 0 0 fun τ1 =>
  kCall (fM_hasPath τ1) fun r3 τ2 =>
  kEq r3 0
    (kRetI (-5) τ2)
    (kCk x1 <|
     kCall (fM_segmentsNow τ2) fun r5 τ4 =>
     kCk (r5 - 1) <|
     kCall (fM_isIn x1 0 (r5 - 1) τ4) fun r7 τ6 =>
     kEq r7 0
       (fM_segment_J43 τ6)
       (kCk x2 <|
        kCall (fM_isIn x2 0 3 τ6) fun r9 τ8 =>
        kEq r9 0
          (fM_segment_J43 τ8)
          (kCall (fM_firstOf x1 τ8) fun r11 τ10 =>
           kEq x2 0
             (fM_segment_J97 r11 τ10)
             (kEq x2 1
                (kCall (fM_firstOf (x1 + 1) τ10) fun r14 τ13 =>
                 fM_segment_J97 (r14 - 1) τ13)
                (kEq x2 2
                   (kRd τ10 63 48 r11 fun y12 =>
                    fM_segment_J97 y12 τ10)
                   (fM_segment_J97 ((τ10 10 12) * r11) τ10))))))
def fM_segments_J21 (t0 : Int) (σ : KM) : Option (Int × KM) :=
  kRetI t0 σ
def fM_segments (σ : KM) : Option (Int × KM) :=
  kWf σ 10 0 0 fun τ1 =>
  kCall (fM_hasPath τ1) fun r3 τ2 =>
  kEq r3 0
    (fM_segments_J21 (-5) τ2)
    (kCall (fM_segmentsNow τ2) fun r5 τ4 =>
     fM_segments_J21 r5 τ4)
def fM_shift_J90 (σ : KM) : Option (Int × KM) :=
  kRetI (σ 10 7) σ
def fM_shift_B66 (x1 x2 : Int) (σ : KM) : Option ((Int × KM) ⊕ (Int × KM)) :=
  kLt x2 (σ 10 7)
    (kRd σ 47 100 x2 fun y1 =>
     kWr σ 47 100 x2 (y1 + x1) fun τ2 =>
     kLet (x2 + 1) fun y3 =>
     some (.inl (y3, τ2)))
    (kExit (fM_shift_J90 σ))
def fM_shift_L66 (x1 x2 : Int) (σ : KM) : Option (Int × KM) := kIter (fun s => fM_shift_B66 x1 s.1 s.2) kF (x2, σ)
def fM_shift_J60 (x1 : Int) (σ : KM) : Option (Int × KM) :=
  kCall (fM_notesAct σ) fun _ τ1 =>
  fM_shift_L66 x1 0 τ1
def fM_shift_J51 (σ : KM) : Option (Int × KM) :=
  kRetI (-3) σ
def fM_shift_B24 (x1 x2 : Int) (σ : KM) : Option ((Int × KM) ⊕ (Int × KM)) :=
  kLt x2 (σ 10 7)
    (kRd σ 47 100 x2 fun y1 =>
     kCk (y1 + x1) <|
     kCall (fM_isIn (y1 + x1) 0 127 σ) fun r3 τ2 =>
     kEq r3 0
       (kExit (fM_shift_J51 τ2))
       (kLet (x2 + 1) fun y4 =>
        some (.inl (y4, τ2))))
    (kExit (fM_shift_J60 x1 σ))
def fM_shift_L24 (x1 x2 : Int) (σ : KM) : Option (Int × KM) := kIter (fun s => fM_shift_B24 x1 s.1 s.2) kF (x2, σ)
def fM_shift (x1 : Int) (σ : KM) : Option (Int × KM) :=
  kWf σ 10 0 0 fun τ1 =>
  kCk x1 <|
  kCall (fM_isIn x1 (-127) 127 τ1) fun r3 τ2 =>
  kEq r3 0
    (kRetI (-3) τ2)
    (fM_shift_L24 x1 0 τ2)
def fM_laysAhead_J131 (σ : KM) : Option (Int × KM) :=
  kRetI 0 σ
def fM_laysAhead_J125 (x1 : Int) (σ : KM) : Option ((Int × KM) ⊕ (Int × KM)) :=
  kLet (x1 + 1) fun y1 =>
  some (.inl (y1, σ))
def fM_laysAhead_J93 (x1 x2 x3 : Int) (σ : KM) : Option ((Int × KM) ⊕ ((Int × KM) ⊕ (Int × KM))) :=
  kRd σ 59 1152 ((24 * x1) + x2) fun y1 =>
  kCall (fM_added y1 x3 σ) fun r3 τ2 =>
  kWr τ2 60 1152 ((24 * x1) + x2) r3 fun τ4 =>
  kLet (x2 + 1) fun y5 =>
  some (.inl (y5, τ4))
def fM_laysAhead_J86 (x1 x2 x4 t0 : Int) (σ : KM) : Option ((Int × Int × KM) ⊕ ((Int × KM) ⊕ ((Int × KM) ⊕ (Int × KM)))) :=
  kLet (x4 + 1) fun y1 =>
  some (.inl (t0, y1, σ))
def fM_laysAhead_B32 (x1 x2 x3 x4 : Int) (σ : KM) : Option ((Int × Int × KM) ⊕ ((Int × KM) ⊕ ((Int × KM) ⊕ (Int × KM)))) :=
  kLt x4 24
    (kLt 0 x1
       (kRd σ 60 1152 ((24 * (x1 - 1)) + x4) fun y1 =>
        kCall (fM_moves x4 x2 x1 (σ 10 16) σ) fun r3 τ2 =>
        kCall (fM_added y1 r3 τ2) fun r5 τ4 =>
        kLt r5 x3
          (fM_laysAhead_J86 x1 x2 x4 r5 τ4)
          (fM_laysAhead_J86 x1 x2 x4 x3 τ4))
       (kExit (fM_laysAhead_J93 x1 x2 x3 σ)))
    (kExit (fM_laysAhead_J93 x1 x2 x3 σ))
def fM_laysAhead_L32 (x1 x2 x3 x4 : Int) (σ : KM) : Option ((Int × KM) ⊕ ((Int × KM) ⊕ (Int × KM))) := kIter (fun s => fM_laysAhead_B32 x1 x2 s.1 s.2.1 s.2.2) kF (x3, x4, σ)
def fM_laysAhead_J28 (x1 x2 t0 : Int) (σ : KM) : Option ((Int × KM) ⊕ ((Int × KM) ⊕ (Int × KM))) :=
  fM_laysAhead_L32 x1 x2 t0 0 σ
def fM_laysAhead_B12 (x1 x2 : Int) (σ : KM) : Option ((Int × KM) ⊕ ((Int × KM) ⊕ (Int × KM))) :=
  kLt x2 24
    (kEq x1 0
       (fM_laysAhead_J28 x1 x2 0 σ)
       (fM_laysAhead_J28 x1 x2 1000000000 σ))
    (kExit (fM_laysAhead_J125 x1 σ))
def fM_laysAhead_L12 (x1 x2 : Int) (σ : KM) : Option ((Int × KM) ⊕ (Int × KM)) := kIter (fun s => fM_laysAhead_B12 x1 s.1 s.2) kF (x2, σ)
def fM_laysAhead_B2 (x1 : Int) (σ : KM) : Option ((Int × KM) ⊕ (Int × KM)) :=
  kLt x1 (σ 10 37)
    (fM_laysAhead_L12 x1 0 σ)
    (kExit (fM_laysAhead_J131 σ))
def fM_laysAhead_L2 (x1 : Int) (σ : KM) : Option (Int × KM) := kIter (fun s => fM_laysAhead_B2 s.1 s.2) kF (x1, σ)
def fM_laysAhead (σ : KM) : Option (Int × KM) :=
  fM_laysAhead_L2 0 σ
def fM_throughNow_J44 (t0 : Int) (σ : KM) : Option (Int × KM) :=
  kRetI t0 σ
def fM_throughNow (x1 x2 : Int) (σ : KM) : Option (Int × KM) :=
  kLet ((24 * x1) + x2) fun y1 =>
  kRd σ 60 1152 y1 fun y2 =>
  kRd σ 61 1152 y1 fun y3 =>
  kCall (fM_added y2 y3 σ) fun r5 τ4 =>
  kLt r5 1000000000
    (kRd τ4 59 1152 y1 fun y6 =>
     fM_throughNow_J44 (r5 - y6) τ4)
    (fM_throughNow_J44 (-1) τ4)
def fM_through_J20 (σ : KM) : Option (Int × KM) :=
  kRetI (-2) σ
def fM_through (x1 x2 : Int) (σ : KM) : Option (Int × KM) :=
  kWf σ 10 0 0 fun τ1 =>
  kCall (fM_isWindow x1 τ1) fun r3 τ2 =>
  kEq r3 0
    (fM_through_J20 τ2)
    (kCall (fM_isKey x2 τ2) fun r5 τ4 =>
     kEq r5 0
       (fM_through_J20 τ4)
       (kCall (fM_hasPath τ4) fun r7 τ6 =>
        kEq r7 0
          (kRetI (-5) τ6)
          (kCall (fM_laysAhead τ6) fun _ τ8 =>
           kCall (fM_throughNow x1 x2 τ8) fun r10 τ9 =>
           kRetI r10 τ9)))
def fM_ties_J87 (t0 : Int) (σ : KM) : Option (Int × KM) :=
  kRetI t0 σ
def fM_ties_J73 (x1 : Int) (σ : KM) : Option (Int × KM) :=
  kLt 1000000 x1
    (fM_ties_J87 1000000 σ)
    (fM_ties_J87 x1 σ)
def fM_ties_J65 (x2 t0 t1 : Int) (σ : KM) : Option ((Int × Int × KM) ⊕ (Int × KM)) :=
  kLet (t1 + t0) fun y1 =>
  kLet (x2 + 1) fun y2 =>
  some (.inl (y1, y2, σ))
def fM_ties_J64 (x2 t0 : Int) (σ : KM) : Option ((Int × Int × KM) ⊕ (Int × KM)) :=
  fM_ties_J65 x2 0 t0 σ
def fM_ties_B28 (x1 x2 : Int) (σ : KM) : Option ((Int × Int × KM) ⊕ (Int × KM)) :=
  kLt x2 24
    (kRd σ 61 1152 x2 fun y1 =>
     kEq y1 (σ 10 38)
       (kLt x1 1000000
          (kRd σ 62 1152 x2 fun y2 =>
           fM_ties_J65 x2 y2 x1 σ)
          (fM_ties_J64 x2 x1 σ))
       (fM_ties_J64 x2 x1 σ))
    (kExit (fM_ties_J73 x1 σ))
def fM_ties_L28 (x1 x2 : Int) (σ : KM) : Option (Int × KM) := kIter (fun s => fM_ties_B28 s.1 s.2.1 s.2.2) kF (x1, x2, σ)
def fM_ties (σ : KM) : Option (Int × KM) :=
  kWf σ 10 0 0 fun τ1 =>
  kCall (fM_hasPath τ1) fun r3 τ2 =>
  kEq r3 0
    (kRetI (-5) τ2)
    (kEq (τ2 10 37) 0
       (kRetI 1 τ2)
       (fM_ties_L28 0 0 τ2))
def fM_tones_J59 (t0 : Int) (σ : KM) : Option (Int × KM) :=
  kRetI t0 σ
def fM_tones_J36 (x1 x2 : Int) (σ : KM) : Option (Int × KM) :=
  kCall (fM_countedIn x1 σ) fun _ τ1 =>
  kEq x2 (-1)
    (fM_tones_J59 (τ1 10 27) τ1)
    (kRd τ1 55 12 x2 fun y2 =>
     fM_tones_J59 y2 τ1)
def fM_tones (x1 x2 : Int) (σ : KM) : Option (Int × KM) :=
  kWf σ 10 0 0 fun τ1 =>
  kCall (fM_isWindow x1 τ1) fun r3 τ2 =>
  kEq r3 0
    (kRetI (-2) τ2)
    (kEq x2 (-1)
       (fM_tones_J36 x1 x2 τ2)
       (kCk x2 <|
        kCall (fM_isIn x2 0 11 τ2) fun r5 τ4 =>
        kEq r5 0
          (kRetI (-3) τ4)
          (fM_tones_J36 x1 x2 τ4)))
def fM_undo_J109 (σ : KM) : Option (Int × KM) :=
  kRetI (σ 10 10) σ
def fM_undo_B46 (x1 x2 : Int) (σ : KM) : Option ((Int × KM) ⊕ (Int × KM)) :=
  kLt x2 100
    (kRd σ 51 3010 ((x1 + 1) + x2) fun y1 =>
     kWr σ 45 100 x2 y1 fun τ2 =>
     kRd τ2 51 3010 ((x1 + 101) + x2) fun y3 =>
     kWr τ2 46 100 x2 y3 fun τ4 =>
     kRd τ4 51 3010 ((x1 + 201) + x2) fun y5 =>
     kWr τ4 47 100 x2 y5 fun τ6 =>
     kLet (x2 + 1) fun y7 =>
     some (.inl (y7, τ6)))
    (kExit (fM_undo_J109 σ))
def fM_undo_L46 (x1 x2 : Int) (σ : KM) : Option (Int × KM) := kIter (fun s => fM_undo_B46 x1 s.1 s.2) kF (x2, σ)
def fM_undo (σ : KM) : Option (Int × KM) :=
  kWf σ 10 0 0 fun τ1 =>
  kEq (τ1 10 10) 0
    (kRetI (-5) τ1)
    (kWf τ1 10 10 ((τ1 10 10) - 1) fun τ2 =>
     kLet (301 * (τ2 10 10)) fun y3 =>
     kRd τ2 51 3010 y3 fun y4 =>
     kWf τ2 10 7 y4 fun τ5 =>
     fM_undo_L46 y3 0 τ5)
def fM_unsure_J98 (x3 : Int) (σ : KM) : Option (Int × KM) :=
  kRetI x3 σ
def fM_unsure_J90 (x1 x2 x4 t0 t1 : Int) (σ : KM) : Option ((Int × Int × KM) ⊕ (Int × KM)) :=
  kLet (t1 + t0) fun y1 =>
  kLet (x4 + 1) fun y2 =>
  some (.inl (y1, y2, σ))
def fM_unsure_J89 (x1 x2 x4 t0 : Int) (σ : KM) : Option ((Int × Int × KM) ⊕ (Int × KM)) :=
  fM_unsure_J90 x1 x2 x4 0 t0 σ
def fM_unsure_B50 (x1 x2 x3 x4 : Int) (σ : KM) : Option ((Int × Int × KM) ⊕ (Int × KM)) :=
  kLt x4 24
    (kCall (fM_throughNow x1 x4 σ) fun r2 τ1 =>
     kEq r2 (-1)
       (fM_unsure_J89 x1 x2 x4 x3 τ1)
       (kCall (fM_throughNow x1 x4 τ1) fun r4 τ3 =>
        kLt ((τ3 10 38) + x2) r4
          (fM_unsure_J89 x1 x2 x4 x3 τ3)
          (fM_unsure_J90 x1 x2 x4 1 x3 τ3)))
    (kExit (fM_unsure_J98 x3 σ))
def fM_unsure_L50 (x1 x2 x3 x4 : Int) (σ : KM) : Option (Int × KM) := kIter (fun s => fM_unsure_B50 x1 x2 s.1 s.2.1 s.2.2) kF (x3, x4, σ)
def fM_unsure (x1 x2 : Int) (σ : KM) : Option (Int × KM) :=
  kWf σ 10 0 0 fun τ1 =>
  kCall (fM_isWindow x1 τ1) fun r3 τ2 =>
  kEq r3 0
    (kRetI (-2) τ2)
    (kCk x2 <|
     kCall (fM_isIn x2 0 9999 τ2) fun r5 τ4 =>
     kEq r5 0
       (kRetI (-3) τ4)
       (kCall (fM_hasPath τ4) fun r7 τ6 =>
        kEq r7 0
          (kRetI (-5) τ6)
          (kCall (fM_laysAhead τ6) fun _ τ8 =>
           fM_unsure_L50 x1 x2 0 0 τ8)))
def fM_way_J19 (σ : KM) : Option (Int × KM) :=
  kRetI (-2) σ
def fM_way_J150 (x4 : Int) (σ : KM) : Option (Int × KM) :=
  kRetI x4 σ
def fM_way_J140 (x3 x5 x6 : Int) (σ : KM) : Option ((Int × Int × KM) ⊕ (Int × KM)) :=
  kLet (x5 + 1) fun y1 =>
  some (.inl (x6, y1, σ))
def fM_way_J134 (x3 x4 x5 x6 x7 : Int) (σ : KM) : Option ((Int × Int × KM) ⊕ ((Int × Int × KM) ⊕ (Int × KM))) :=
  kLet (x7 + 1) fun y1 =>
  some (.inl (x6, y1, σ))
def fM_way_B65 (x3 x4 x5 x6 x7 : Int) (σ : KM) : Option ((Int × Int × KM) ⊕ ((Int × Int × KM) ⊕ (Int × KM))) :=
  kLt x7 4
    (kCall (fM_next x4 x7 σ) fun r2 τ1 =>
     kRd τ1 56 24 r2 fun y3 =>
     kCall (fM_costs x7 τ1) fun r5 τ4 =>
     kRd τ4 56 24 x4 fun y6 =>
     kEq (y3 + r5) y6
       (kRd τ4 57 24 r2 fun y7 =>
        kRd τ4 57 24 x4 fun y8 =>
        kEq (y7 + 1) y8
          (kLt r2 x6
             (fM_way_J134 x3 x4 x5 r2 x7 τ4)
             (fM_way_J134 x3 x4 x5 x6 x7 τ4))
          (fM_way_J134 x3 x4 x5 x6 x7 τ4))
       (fM_way_J134 x3 x4 x5 x6 x7 τ4))
    (kExit (fM_way_J140 x3 x5 x6 σ))
def fM_way_L65 (x3 x4 x5 x6 x7 : Int) (σ : KM) : Option ((Int × Int × KM) ⊕ (Int × KM)) := kIter (fun s => fM_way_B65 x3 x4 x5 s.1 s.2.1 s.2.2) kF (x6, x7, σ)
def fM_way_B52 (x3 x4 x5 : Int) (σ : KM) : Option ((Int × Int × KM) ⊕ (Int × KM)) :=
  kLt x5 x3
    (fM_way_L65 x3 x4 x5 24 0 σ)
    (kExit (fM_way_J150 x4 σ))
def fM_way_L52 (x3 x4 x5 : Int) (σ : KM) : Option (Int × KM) := kIter (fun s => fM_way_B52 x3 s.1 s.2.1 s.2.2) kF (x4, x5, σ)
def fM_way (x1 x2 x3 : Int) (σ : KM) : Option (Int × KM) :=
  kWf σ 10 0 0 fun τ1 =>
  kCall (fM_isKey x1 τ1) fun r3 τ2 =>
  kEq r3 0
    (fM_way_J19 τ2)
    (kCall (fM_isKey x2 τ2) fun r5 τ4 =>
     kEq r5 0
       (fM_way_J19 τ4)
       (kLt x3 0
          (kRetI (-3) τ4)
          (kCall (fM_laysFar x2 τ4) fun _ τ6 =>
           kRd τ6 57 24 x1 fun y7 =>
           kLt y7 x3
             (kRetI (-1) τ6)
             (fM_way_L52 x3 x1 0 τ6))))
def fM_weight_J24 (σ : KM) : Option (Int × KM) :=
  kRetI (-2) σ
def fM_weight (x1 x2 x3 : Int) (σ : KM) : Option (Int × KM) :=
  kWf σ 10 0 0 fun τ1 =>
  kCall (fM_isMode x1 τ1) fun r3 τ2 =>
  kEq r3 0
    (fM_weight_J24 τ2)
    (kCk x2 <|
     kCall (fM_isIn x2 0 11 τ2) fun r5 τ4 =>
     kEq r5 0
       (fM_weight_J24 τ4)
       (kCk x3 <|
        kCall (fM_isIn x3 0 99 τ4) fun r7 τ6 =>
        kEq r7 0
          (kRetI (-3) τ6)
          (kRd τ6 52 24 ((12 * x1) + x2) fun y8 =>
           kWr τ6 52 24 ((12 * x1) + x2) x3 fun τ9 =>
           kRetI y8 τ9)))
def fM_windows_J33 (σ : KM) : Option (Int × KM) :=
  kRetI (-3) σ
def fM_windows (x1 x2 : Int) (σ : KM) : Option (Int × KM) :=
  kWf σ 10 0 0 fun τ1 =>
  kCk x1 <|
  kCall (fM_isIn x1 4 128 τ1) fun r3 τ2 =>
  kEq r3 0
    (fM_windows_J33 τ2)
    (kCk x2 <|
     kCall (fM_isIn x2 4 128 τ2) fun r5 τ4 =>
     kEq r5 0
       (fM_windows_J33 τ4)
       (kCall (fM_windowsBy x2 τ4) fun r7 τ6 =>
        kLt 48 r7
          (kRetI (-4) τ6)
          (kWf τ6 10 11 x1 fun τ8 =>
           kWf τ8 10 12 x2 fun τ9 =>
           kCall (fM_windowMany τ9) fun r11 τ10 =>
           kRetI r11 τ10)))
def fM_within_J255 (x1 : Int) (σ : KM) : Option (Int × KM) :=
  kCall (fM_leastOf 0 (24 * (x1 + 1)) σ) fun r2 τ1 =>
  kRetI r2 τ1
def fM_within_J242 (x1 x2 : Int) (σ : KM) : Option ((Int × KM) ⊕ (Int × KM)) :=
  kCall (fM_turns (x1 + 1) σ) fun _ τ1 =>
  kLet (x2 + 1) fun y2 =>
  some (.inl (y2, τ1))
def fM_within_J236 (x1 x2 x3 : Int) (σ : KM) : Option ((Int × KM) ⊕ ((Int × KM) ⊕ (Int × KM))) :=
  kLet (x3 + 1) fun y1 =>
  some (.inl (y1, σ))
def fM_within_J201 (x1 x2 x3 x4 x5 : Int) (σ : KM) : Option ((Int × KM) ⊕ ((Int × KM) ⊕ ((Int × KM) ⊕ (Int × KM)))) :=
  kRd σ 59 1152 ((24 * x2) + x4) fun y1 =>
  kCall (fM_added x5 y1 σ) fun r3 τ2 =>
  kWr τ2 66 1152 ((24 * x3) + x4) r3 fun τ4 =>
  kLet (x4 + 1) fun y5 =>
  some (.inl (y5, τ4))
def fM_within_J193 (x1 x2 x3 x4 x6 t0 : Int) (σ : KM) : Option ((Int × Int × KM) ⊕ ((Int × KM) ⊕ ((Int × KM) ⊕ ((Int × KM) ⊕ (Int × KM))))) :=
  kLet (x6 + 1) fun y1 =>
  some (.inl (t0, y1, σ))
def fM_within_J177 (x1 x2 x3 x4 x5 x6 t0 : Int) (σ : KM) : Option ((Int × Int × KM) ⊕ ((Int × KM) ⊕ ((Int × KM) ⊕ ((Int × KM) ⊕ (Int × KM))))) :=
  kLt t0 x5
    (fM_within_J193 x1 x2 x3 x4 x6 t0 σ)
    (fM_within_J193 x1 x2 x3 x4 x6 x5 σ)
def fM_within_B124 (x1 x2 x3 x4 x5 x6 : Int) (σ : KM) : Option ((Int × Int × KM) ⊕ ((Int × KM) ⊕ ((Int × KM) ⊕ ((Int × KM) ⊕ (Int × KM))))) :=
  kLt x6 24
    (kLt 0 x3
       (kEq x6 x4
          (fM_within_J177 x1 x2 x3 x4 x5 x6 1000000000 σ)
          (kRd σ 65 1152 ((24 * (x3 - 1)) + x6) fun y1 =>
           kCall (fM_moves x6 x4 x2 (σ 10 16) σ) fun r3 τ2 =>
           kCall (fM_added y1 r3 τ2) fun r5 τ4 =>
           fM_within_J177 x1 x2 x3 x4 x5 x6 r5 τ4))
       (kExit (fM_within_J201 x1 x2 x3 x4 x5 σ)))
    (kExit (fM_within_J201 x1 x2 x3 x4 x5 σ))
def fM_within_L124 (x1 x2 x3 x4 x5 x6 : Int) (σ : KM) : Option ((Int × KM) ⊕ ((Int × KM) ⊕ ((Int × KM) ⊕ (Int × KM)))) := kIter (fun s => fM_within_B124 x1 x2 x3 x4 s.1 s.2.1 s.2.2) kF (x5, x6, σ)
def fM_within_B100 (x1 x2 x3 x4 : Int) (σ : KM) : Option ((Int × KM) ⊕ ((Int × KM) ⊕ ((Int × KM) ⊕ (Int × KM)))) :=
  kLt x4 24
    (kRd σ 65 1152 ((24 * x3) + x4) fun y1 =>
     fM_within_L124 x1 x2 x3 x4 y1 0 σ)
    (kExit (fM_within_J236 x1 x2 x3 σ))
def fM_within_L100 (x1 x2 x3 x4 : Int) (σ : KM) : Option ((Int × KM) ⊕ ((Int × KM) ⊕ (Int × KM))) := kIter (fun s => fM_within_B100 x1 x2 x3 s.1 s.2) kF (x4, σ)
def fM_within_B92 (x1 x2 x3 : Int) (σ : KM) : Option ((Int × KM) ⊕ ((Int × KM) ⊕ (Int × KM))) :=
  kLt x1 x3
    (kExit (fM_within_J242 x1 x2 σ))
    (fM_within_L100 x1 x2 x3 0 σ)
def fM_within_L92 (x1 x2 x3 : Int) (σ : KM) : Option ((Int × KM) ⊕ (Int × KM)) := kIter (fun s => fM_within_B92 x1 x2 s.1 s.2) kF (x3, σ)
def fM_within_B82 (x1 x2 : Int) (σ : KM) : Option ((Int × KM) ⊕ (Int × KM)) :=
  kLt x2 (σ 10 37)
    (fM_within_L92 x1 x2 0 σ)
    (kExit (fM_within_J255 x1 σ))
def fM_within_L82 (x1 x2 : Int) (σ : KM) : Option (Int × KM) := kIter (fun s => fM_within_B82 x1 s.1 s.2) kF (x2, σ)
def fM_within_J80 (x1 : Int) (σ : KM) : Option (Int × KM) :=
  fM_within_L82 x1 1 σ
def fM_within_J73 (x1 x2 t0 t1 : Int) (σ : KM) : Option ((Int × KM) ⊕ (Int × KM)) :=
  kWr σ 65 1152 t1 t0 fun τ1 =>
  kLet (x2 + 1) fun y2 =>
  some (.inl (y2, τ1))
def fM_within_B41 (x1 x2 : Int) (σ : KM) : Option ((Int × KM) ⊕ (Int × KM)) :=
  kLt x2 (24 * (x1 + 1))
    (kLt x2 24
       (kRd σ 59 1152 x2 fun y1 =>
        fM_within_J73 x1 x2 y1 x2 σ)
       (fM_within_J73 x1 x2 1000000000 x2 σ))
    (kExit (fM_within_J80 x1 σ))
def fM_within_L41 (x1 x2 : Int) (σ : KM) : Option (Int × KM) := kIter (fun s => fM_within_B41 x1 s.1 s.2) kF (x2, σ)
def fM_within (x1 : Int) (σ : KM) : Option (Int × KM) :=
  kWf σ 10 0 0 fun τ1 =>
  kCk x1 <|
  kCall (fM_isIn x1 0 47 τ1) fun r3 τ2 =>
  kEq r3 0
    (kRetI (-3) τ2)
    (kCall (fM_hasPath τ2) fun r5 τ4 =>
     kEq r5 0
       (kRetI (-5) τ4)
       (kEq (τ4 10 37) 0
          (kRetI 0 τ4)
          (fM_within_L41 x1 0 τ4)))
