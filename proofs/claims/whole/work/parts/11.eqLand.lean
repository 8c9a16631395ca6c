/-! equations of the methods: from the entry and each loop head a tree of tests; written by wip/gen/eqs.py -/
set_option maxRecDepth 100000 in
theorem eq_Judg_init_0 (cl : Nat → List Value → ej_Mem → Option ej_R) (a0 : Nat) (M : ej_Mem) : rn jm_Judg_init cl 0 [some (.ref a0)] [] M =
    bkV (cl jm_Terms_init [.ref (mZ M)] (newM M 6 0 5)) fun M1 =>
    ckk (mC M1 a0 = 2) (rn jm_Judg_init cl 15 [some (.ref a0)] [] (setR M1 a0 0 (some (mZ M)))) :=
  tr_eq [15, 20, 25, 30, 35, 40] 8 rfl
set_option maxRecDepth 100000 in
theorem eq_Judg_init_15 (cl : Nat → List Value → ej_Mem → Option ej_R) (a0 : Nat) (M : ej_Mem) : rn jm_Judg_init cl 15 [some (.ref a0)] [] M =
    ckk (mC M a0 = 2) (rn jm_Judg_init cl 20 [some (.ref a0)] [] (setI M a0 1 (0 : Int32))) :=
  tr_eq [15, 20, 25, 30, 35, 40] 4 rfl
set_option maxRecDepth 100000 in
theorem eq_Judg_init_20 (cl : Nat → List Value → ej_Mem → Option ej_R) (a0 : Nat) (M : ej_Mem) : rn jm_Judg_init cl 20 [some (.ref a0)] [] M =
    ckk (mC M a0 = 2) (rn jm_Judg_init cl 25 [some (.ref a0)] [] (setI M a0 2 (0 : Int32))) :=
  tr_eq [15, 20, 25, 30, 35, 40] 4 rfl
set_option maxRecDepth 100000 in
theorem eq_Judg_init_25 (cl : Nat → List Value → ej_Mem → Option ej_R) (a0 : Nat) (M : ej_Mem) : rn jm_Judg_init cl 25 [some (.ref a0)] [] M =
    ckk (mC M a0 = 2) (rn jm_Judg_init cl 30 [some (.ref a0)] [] (setI M a0 3 (0 : Int32))) :=
  tr_eq [15, 20, 25, 30, 35, 40] 4 rfl
set_option maxRecDepth 100000 in
theorem eq_Judg_init_30 (cl : Nat → List Value → ej_Mem → Option ej_R) (a0 : Nat) (M : ej_Mem) : rn jm_Judg_init cl 30 [some (.ref a0)] [] M =
    ckk (mC M a0 = 2) (rn jm_Judg_init cl 35 [some (.ref a0)] [] (setI M a0 4 (0 : Int32))) :=
  tr_eq [15, 20, 25, 30, 35, 40] 4 rfl
set_option maxRecDepth 100000 in
theorem eq_Judg_init_35 (cl : Nat → List Value → ej_Mem → Option ej_R) (a0 : Nat) (M : ej_Mem) : rn jm_Judg_init cl 35 [some (.ref a0)] [] M =
    ckk (mC M a0 = 2) (rn jm_Judg_init cl 40 [some (.ref a0)] [] (setI M a0 5 (0 : Int32))) :=
  tr_eq [15, 20, 25, 30, 35, 40] 4 rfl
set_option maxRecDepth 100000 in
theorem eq_Judg_init_40 (cl : Nat → List Value → ej_Mem → Option ej_R) (a0 : Nat) (M : ej_Mem) : rn jm_Judg_init cl 40 [some (.ref a0)] [] M =
    some (none, M) :=
  tr_eq [15, 20, 25, 30, 35, 40] 1 rfl
theorem ca_Judg_init (d : Nat) (a0 : Nat) (M : ej_Mem) : cal (d + 1) jm_Judg_init [.ref a0] M = rn jm_Judg_init (cal d) 0 [some (.ref a0)] [] M := call_eq (show 1 ≤ 1 by decide)
set_option maxRecDepth 100000 in
theorem eq_Judg_run_0 (cl : Nat → List Value → ej_Mem → Option ej_R) (a0 : Nat) (a1 : Nat) (l2 : Int32) (l3 : Int32) (l4 : Int32) (M : ej_Mem) : rn jm_Judg_run cl 0 [some (.ref a0), some (.ref a1), some (.int l2), some (.int l3), some (.int l4), none, none, none, none] [] M =
    ckk (mC M a1 = 3) (deR (mR M a1 6) fun q1 => ckk (mC M q1 = 4) (bkI (cl jm_Rolls_has [.ref q1, .int l2] M) fun x3 M2 =>
    (if x3 = (0 : Int32) then
      (ckk ((0 : Int32) = 0 ∨ (0 : Int32) = 1) (some (some (.int (0 : Int32)), M2))) else
      (ckk (mC M2 a1 = 3) (deR (mR M2 a1 6) fun q4 => ckk (mC M2 q4 = 4) (deR (mR M2 q4 1) fun q5 => ckk (mC M2 q5 = 100) (ckb l2 (mN M2 q5) (ckk (mC M2 a1 = 3) (bkQ (cl jm_Land_writ [.ref a1, .int (1 : Int32), .int (aI M2 q5 (Int32.toNatClampNeg l2))] M2)
        (fun M6 => ckk ((0 : Int32) = 0 ∨ (0 : Int32) = 1) (some (some (.int (0 : Int32)), M6)))
        (fun q7 M8 => ckk (mC M8 a0 = 2) (deR (mR M8 a0 0) fun q9 => ckk (mC M8 q9 = 6) (ckk (mC (setR M8 q9 0 (some q7)) a0 = 2) (deR (mR (setR M8 q9 0 (some q7)) a0 0) fun q10 => ckk (mC (setR M8 q9 0 (some q7)) a1 = 3) (deR (mR (setR M8 q9 0 (some q7)) a1 6) fun q11 => ckk (mC (setR M8 q9 0 (some q7)) q11 = 4) (deR (mR (setR M8 q9 0 (some q7)) q11 2) fun q12 => ckk (mC (setR M8 q9 0 (some q7)) q12 = 100) (ckb l2 (mN (setR M8 q9 0 (some q7)) q12) (ckk (mC (setR M8 q9 0 (some q7)) a1 = 3) (bkJ (cl jm_Land_movesOpenIn [.ref a1, .int (aI (setR M8 q9 0 (some q7)) q12 (Int32.toNatClampNeg l2))] (setR M8 q9 0 (some q7))) fun x14 M13 =>
        ckk (mC M13 q10 = 6) (ckk (mC (setL M13 q10 2 x14) a0 = 2) (deR (mR (setL M13 q10 2 x14) a0 0) fun q15 => ckk (mC (setL M13 q10 2 x14) q15 = 6) (ckk (mC (setI (setL M13 q10 2 x14) q15 3 l3) q7 = 7) (ckk (mC (setI (setL M13 q10 2 x14) q15 3 l3) a0 = 2) (ckk (mC (setI (setI (setL M13 q10 2 x14) q15 3 l3) a0 1 (mI (setI (setL M13 q10 2 x14) q15 3 l3) q7 0)) a0 = 2) (ckk (mC (setI (setI (setL M13 q10 2 x14) q15 3 l3) a0 1 (mI (setI (setL M13 q10 2 x14) q15 3 l3) q7 0)) a0 = 2) (ckk (mC (setI (setI (setI (setL M13 q10 2 x14) q15 3 l3) a0 1 (mI (setI (setL M13 q10 2 x14) q15 3 l3) q7 0)) a0 2 (mI (setI (setI (setL M13 q10 2 x14) q15 3 l3) a0 1 (mI (setI (setL M13 q10 2 x14) q15 3 l3) q7 0)) a0 1)) a0 = 2) (ckk (mC (setI (setI (setI (setI (setL M13 q10 2 x14) q15 3 l3) a0 1 (mI (setI (setL M13 q10 2 x14) q15 3 l3) q7 0)) a0 2 (mI (setI (setI (setL M13 q10 2 x14) q15 3 l3) a0 1 (mI (setI (setL M13 q10 2 x14) q15 3 l3) q7 0)) a0 1)) a0 3 (0 : Int32)) a0 = 2) (ckk (mC (setI (setI (setI (setI (setI (setL M13 q10 2 x14) q15 3 l3) a0 1 (mI (setI (setL M13 q10 2 x14) q15 3 l3) q7 0)) a0 2 (mI (setI (setI (setL M13 q10 2 x14) q15 3 l3) a0 1 (mI (setI (setL M13 q10 2 x14) q15 3 l3) q7 0)) a0 1)) a0 3 (0 : Int32)) a0 4 (0 : Int32)) a0 = 2) (rn jm_Judg_run cl 105 [some (.ref a0), some (.ref a1), some (.int l2), some (.int l3), some (.int l4), some (.ref q7), none, none, none] [] (setI (setI (setI (setI (setI (setI (setL M13 q10 2 x14) q15 3 l3) a0 1 (mI (setI (setL M13 q10 2 x14) q15 3 l3) q7 0)) a0 2 (mI (setI (setI (setL M13 q10 2 x14) q15 3 l3) a0 1 (mI (setI (setL M13 q10 2 x14) q15 3 l3) q7 0)) a0 1)) a0 3 (0 : Int32)) a0 4 (0 : Int32)) a0 5 (0 : Int32)))))))))))))))))))))))))))))) :=
  tr_eq [105] 52 rfl
set_option maxRecDepth 100000 in
theorem eq_Judg_run_105 (cl : Nat → List Value → ej_Mem → Option ej_R) (a0 : Nat) (a1 : Nat) (l2 : Int32) (l3 : Int32) (l4 : Int32) (a5 : Nat) (o6 : Option Value) (o7 : Option Value) (o8 : Option Value) (M : ej_Mem) : rn jm_Judg_run cl 105 [some (.ref a0), some (.ref a1), some (.int l2), some (.int l3), some (.int l4), some (.ref a5), o6, o7, o8] [] M =
    ckk (mC M a0 = 2) ((if l4 ≤ (mI M a0 3) then
      (ckk ((1 : Int32) = 0 ∨ (1 : Int32) = 1) (some (some (.int (1 : Int32)), M))) else
      (ckk (mC M a0 = 2) (ckk (mC M a1 = 3) (deR (mR M a1 6) fun q1 => ckk (mC M q1 = 4) (bkI (cl jm_Rolls_length [.ref q1, .int l2] M) fun x3 M2 =>
      (if x3 ≤ (mI M a0 3) then
        (ckk ((1 : Int32) = 0 ∨ (1 : Int32) = 1) (some (some (.int (1 : Int32)), M2))) else
        (ckk (mC M2 a1 = 3) (deR (mR M2 a1 6) fun q4 => ckk (mC M2 a0 = 2) (ckk (mC M2 q4 = 4) (bkI (cl jm_Rolls_move [.ref q4, .int l2, .int (mI M2 a0 3)] M2) fun x6 M5 =>
        ckk (mC M5 a1 = 3) (bkQ (cl jm_Land_writ [.ref a1, .int (0 : Int32), .int x6] M5)
          (fun M7 => ckk (mC M7 a0 = 2) (ckk (mC M7 a0 = 2) (deR (mR M7 a0 0) fun q10 => ckk (mC M7 a1 = 3) (bkI (cl jm_Land_ledTo [.ref a1, .int x6, .int (mI M7 a0 2), .ref q10] M7) fun x12 M11 =>
          ckk ((1 : Int32) = 0 ∨ (1 : Int32) = 1) (some (some (.int (1 : Int32)), M11))))))
          (fun q8 M9 => ckk (mC M9 a0 = 2) (ckk (mC M9 a0 = 2) (deR (mR M9 a0 0) fun q13 => ckk (mC M9 a1 = 3) (bkI (cl jm_Land_ledTo [.ref a1, .int x6, .int (mI M9 a0 2), .ref q13] M9) fun x15 M14 =>
          (if x15 = (-1 : Int32) then
            (ckk ((1 : Int32) = 0 ∨ (1 : Int32) = 1) (some (some (.int (1 : Int32)), M14))) else
            (ckk (mC M14 a0 = 2) (ckk (mC (setI M14 a0 2 x15) a0 = 2) (ckk (mC (setI M14 a0 2 x15) q8 = 7) (ckk (mC (setI M14 a0 2 x15) a0 = 2) (ckk (mC (setI (setI M14 a0 2 x15) a0 4 ((mI (setI M14 a0 2 x15) a0 4) + (mI (setI M14 a0 2 x15) q8 3))) a0 = 2) (ckk (mC (setI (setI M14 a0 2 x15) a0 4 ((mI (setI M14 a0 2 x15) a0 4) + (mI (setI M14 a0 2 x15) q8 3))) q8 = 7) (ckk (mC (setI (setI M14 a0 2 x15) a0 4 ((mI (setI M14 a0 2 x15) a0 4) + (mI (setI M14 a0 2 x15) q8 3))) a0 = 2) (ckk (mC (setI (setI (setI M14 a0 2 x15) a0 4 ((mI (setI M14 a0 2 x15) a0 4) + (mI (setI M14 a0 2 x15) q8 3))) a0 5 ((mI (setI (setI M14 a0 2 x15) a0 4 ((mI (setI M14 a0 2 x15) a0 4) + (mI (setI M14 a0 2 x15) q8 3))) a0 5) + (mI (setI (setI M14 a0 2 x15) a0 4 ((mI (setI M14 a0 2 x15) a0 4) + (mI (setI M14 a0 2 x15) q8 3))) q8 2))) a0 = 2) (ckk (mC (setI (setI (setI M14 a0 2 x15) a0 4 ((mI (setI M14 a0 2 x15) a0 4) + (mI (setI M14 a0 2 x15) q8 3))) a0 5 ((mI (setI (setI M14 a0 2 x15) a0 4 ((mI (setI M14 a0 2 x15) a0 4) + (mI (setI M14 a0 2 x15) q8 3))) a0 5) + (mI (setI (setI M14 a0 2 x15) a0 4 ((mI (setI M14 a0 2 x15) a0 4) + (mI (setI M14 a0 2 x15) q8 3))) q8 2))) a0 = 2) (rn jm_Judg_run cl 105 [some (.ref a0), some (.ref a1), some (.int l2), some (.int l3), some (.int l4), some (.ref a5), some (.int x6), some (.ref q8), some (.int x15)] [] (setI (setI (setI (setI M14 a0 2 x15) a0 4 ((mI (setI M14 a0 2 x15) a0 4) + (mI (setI M14 a0 2 x15) q8 3))) a0 5 ((mI (setI (setI M14 a0 2 x15) a0 4 ((mI (setI M14 a0 2 x15) a0 4) + (mI (setI M14 a0 2 x15) q8 3))) a0 5) + (mI (setI (setI M14 a0 2 x15) a0 4 ((mI (setI M14 a0 2 x15) a0 4) + (mI (setI M14 a0 2 x15) q8 3))) q8 2))) a0 3 ((mI (setI (setI (setI M14 a0 2 x15) a0 4 ((mI (setI M14 a0 2 x15) a0 4) + (mI (setI M14 a0 2 x15) q8 3))) a0 5 ((mI (setI (setI M14 a0 2 x15) a0 4 ((mI (setI M14 a0 2 x15) a0 4) + (mI (setI M14 a0 2 x15) q8 3))) a0 5) + (mI (setI (setI M14 a0 2 x15) a0 4 ((mI (setI M14 a0 2 x15) a0 4) + (mI (setI M14 a0 2 x15) q8 3))) q8 2))) a0 3) + (1 : Int32)))))))))))))))))))))))))))))) :=
  tr_eq [105] 61 rfl
theorem ca_Judg_run (d : Nat) (a0 : Nat) (a1 : Nat) (l2 : Int32) (l3 : Int32) (l4 : Int32) (M : ej_Mem) : cal (d + 1) jm_Judg_run [.ref a0, .ref a1, .int l2, .int l3, .int l4] M = rn jm_Judg_run (cal d) 0 [some (.ref a0), some (.ref a1), some (.int l2), some (.int l3), some (.int l4), none, none, none, none] [] M := call_eq (show 5 ≤ 9 by decide)
set_option maxRecDepth 100000 in
theorem eq_Land_init_0 (cl : Nat → List Value → ej_Mem → Option ej_R) (a0 : Nat) (M : ej_Mem) : rn jm_Land_init cl 0 [some (.ref a0)] [] M =
    ckk (¬ (72 : Int32) < 0 ∧ Int32.toNatClampNeg (72 : Int32) ≤ 67108864) (ckk (mC (newM M 103 (Int32.toNatClampNeg (72 : Int32)) (Int32.toNatClampNeg (72 : Int32))) a0 = 3) (rn jm_Land_init cl 13 [some (.ref a0)] [] (setR (newM M 103 (Int32.toNatClampNeg (72 : Int32)) (Int32.toNatClampNeg (72 : Int32))) a0 0 (some (mZ M))))) :=
  tr_eq [13, 20, 31, 42, 47, 55, 66, 71, 76, 81, 86] 7 rfl
set_option maxRecDepth 100000 in
theorem eq_Land_init_13 (cl : Nat → List Value → ej_Mem → Option ej_R) (a0 : Nat) (M : ej_Mem) : rn jm_Land_init cl 13 [some (.ref a0)] [] M =
    ckk (¬ (4 : Int32) < 0 ∧ Int32.toNatClampNeg (4 : Int32) ≤ 67108864) (ckk (mC (newM M 100 (Int32.toNatClampNeg (4 : Int32)) (Int32.toNatClampNeg (4 : Int32))) a0 = 3) (rn jm_Land_init cl 20 [some (.ref a0)] [] (setR (newM M 100 (Int32.toNatClampNeg (4 : Int32)) (Int32.toNatClampNeg (4 : Int32))) a0 1 (some (mZ M))))) :=
  tr_eq [13, 20, 31, 42, 47, 55, 66, 71, 76, 81, 86] 5 rfl
set_option maxRecDepth 100000 in
theorem eq_Land_init_20 (cl : Nat → List Value → ej_Mem → Option ej_R) (a0 : Nat) (M : ej_Mem) : rn jm_Land_init cl 20 [some (.ref a0)] [] M =
    ckk (mC M 1 = 110) (ckb (0 : Int32) (mN M 1) (ckk (¬ (aI M 1 (Int32.toNatClampNeg (0 : Int32))) < 0 ∧ Int32.toNatClampNeg (aI M 1 (Int32.toNatClampNeg (0 : Int32))) ≤ 67108864) (ckk (mC (newM M 100 (Int32.toNatClampNeg (aI M 1 (Int32.toNatClampNeg (0 : Int32)))) (Int32.toNatClampNeg (aI M 1 (Int32.toNatClampNeg (0 : Int32))))) a0 = 3) (rn jm_Land_init cl 31 [some (.ref a0)] [] (setR (newM M 100 (Int32.toNatClampNeg (aI M 1 (Int32.toNatClampNeg (0 : Int32)))) (Int32.toNatClampNeg (aI M 1 (Int32.toNatClampNeg (0 : Int32))))) a0 2 (some (mZ M))))))) :=
  tr_eq [13, 20, 31, 42, 47, 55, 66, 71, 76, 81, 86] 7 rfl
set_option maxRecDepth 100000 in
theorem eq_Land_init_31 (cl : Nat → List Value → ej_Mem → Option ej_R) (a0 : Nat) (M : ej_Mem) : rn jm_Land_init cl 31 [some (.ref a0)] [] M =
    ckk (mC M 1 = 110) (ckb (0 : Int32) (mN M 1) (ckk (¬ (aI M 1 (Int32.toNatClampNeg (0 : Int32))) < 0 ∧ Int32.toNatClampNeg (aI M 1 (Int32.toNatClampNeg (0 : Int32))) ≤ 67108864) (ckk (mC (newM M 100 (Int32.toNatClampNeg (aI M 1 (Int32.toNatClampNeg (0 : Int32)))) (Int32.toNatClampNeg (aI M 1 (Int32.toNatClampNeg (0 : Int32))))) a0 = 3) (rn jm_Land_init cl 42 [some (.ref a0)] [] (setR (newM M 100 (Int32.toNatClampNeg (aI M 1 (Int32.toNatClampNeg (0 : Int32)))) (Int32.toNatClampNeg (aI M 1 (Int32.toNatClampNeg (0 : Int32))))) a0 3 (some (mZ M))))))) :=
  tr_eq [13, 20, 31, 42, 47, 55, 66, 71, 76, 81, 86] 7 rfl
set_option maxRecDepth 100000 in
theorem eq_Land_init_42 (cl : Nat → List Value → ej_Mem → Option ej_R) (a0 : Nat) (M : ej_Mem) : rn jm_Land_init cl 42 [some (.ref a0)] [] M =
    ckk (mC M a0 = 3) (rn jm_Land_init cl 47 [some (.ref a0)] [] (setI M a0 4 (0 : Int32))) :=
  tr_eq [13, 20, 31, 42, 47, 55, 66, 71, 76, 81, 86] 4 rfl
set_option maxRecDepth 100000 in
theorem eq_Land_init_47 (cl : Nat → List Value → ej_Mem → Option ej_R) (a0 : Nat) (M : ej_Mem) : rn jm_Land_init cl 47 [some (.ref a0)] [] M =
    ckk (¬ (24 : Int32) < 0 ∧ Int32.toNatClampNeg (24 : Int32) ≤ 67108864) (ckk (mC (newM M 100 (Int32.toNatClampNeg (24 : Int32)) (Int32.toNatClampNeg (24 : Int32))) a0 = 3) (rn jm_Land_init cl 55 [some (.ref a0)] [] (setR (newM M 100 (Int32.toNatClampNeg (24 : Int32)) (Int32.toNatClampNeg (24 : Int32))) a0 5 (some (mZ M))))) :=
  tr_eq [13, 20, 31, 42, 47, 55, 66, 71, 76, 81, 86] 5 rfl
set_option maxRecDepth 100000 in
theorem eq_Land_init_55 (cl : Nat → List Value → ej_Mem → Option ej_R) (a0 : Nat) (M : ej_Mem) : rn jm_Land_init cl 55 [some (.ref a0)] [] M =
    bkV (cl jm_Rolls_init [.ref (mZ M)] (newM M 4 0 5)) fun M1 =>
    ckk (mC M1 a0 = 3) (rn jm_Land_init cl 66 [some (.ref a0)] [] (setR M1 a0 6 (some (mZ M)))) :=
  tr_eq [13, 20, 31, 42, 47, 55, 66, 71, 76, 81, 86] 6 rfl
set_option maxRecDepth 100000 in
theorem eq_Land_init_66 (cl : Nat → List Value → ej_Mem → Option ej_R) (a0 : Nat) (M : ej_Mem) : rn jm_Land_init cl 66 [some (.ref a0)] [] M =
    ckk (mC M a0 = 3) (rn jm_Land_init cl 71 [some (.ref a0)] [] (setR M a0 7 none)) :=
  tr_eq [13, 20, 31, 42, 47, 55, 66, 71, 76, 81, 86] 4 rfl
set_option maxRecDepth 100000 in
theorem eq_Land_init_71 (cl : Nat → List Value → ej_Mem → Option ej_R) (a0 : Nat) (M : ej_Mem) : rn jm_Land_init cl 71 [some (.ref a0)] [] M =
    ckk (mC M a0 = 3) (rn jm_Land_init cl 76 [some (.ref a0)] [] (setI M a0 8 (0 : Int32))) :=
  tr_eq [13, 20, 31, 42, 47, 55, 66, 71, 76, 81, 86] 4 rfl
set_option maxRecDepth 100000 in
theorem eq_Land_init_76 (cl : Nat → List Value → ej_Mem → Option ej_R) (a0 : Nat) (M : ej_Mem) : rn jm_Land_init cl 76 [some (.ref a0)] [] M =
    ckk (mC M a0 = 3) (rn jm_Land_init cl 81 [some (.ref a0)] [] (setI M a0 9 (0 : Int32))) :=
  tr_eq [13, 20, 31, 42, 47, 55, 66, 71, 76, 81, 86] 4 rfl
set_option maxRecDepth 100000 in
theorem eq_Land_init_81 (cl : Nat → List Value → ej_Mem → Option ej_R) (a0 : Nat) (M : ej_Mem) : rn jm_Land_init cl 81 [some (.ref a0)] [] M =
    ckk (mC M a0 = 3) (rn jm_Land_init cl 86 [some (.ref a0)] [] (setI M a0 10 (0 : Int32))) :=
  tr_eq [13, 20, 31, 42, 47, 55, 66, 71, 76, 81, 86] 4 rfl
set_option maxRecDepth 100000 in
theorem eq_Land_init_86 (cl : Nat → List Value → ej_Mem → Option ej_R) (a0 : Nat) (M : ej_Mem) : rn jm_Land_init cl 86 [some (.ref a0)] [] M =
    ckk (mC M a0 = 3) (deR (mR M a0 5) fun q1 => bkV (cl jm_Arrs_fill_53178 [.ref q1, .int (-1 : Int32)] M) fun M2 =>
    some (none, M2)) :=
  tr_eq [13, 20, 31, 42, 47, 55, 66, 71, 76, 81, 86] 5 rfl
theorem ca_Land_init (d : Nat) (a0 : Nat) (M : ej_Mem) : cal (d + 1) jm_Land_init [.ref a0] M = rn jm_Land_init (cal d) 0 [some (.ref a0)] [] M := call_eq (show 1 ≤ 1 by decide)
set_option maxRecDepth 100000 in
theorem eq_Land_hasRoom_0 (cl : Nat → List Value → ej_Mem → Option ej_R) (a0 : Nat) (l1 : Int32) (M : ej_Mem) : rn jm_Land_hasRoom cl 0 [some (.ref a0), some (.int l1)] [] M =
    ckk (mC M a0 = 3) (deR (mR M a0 1) fun q1 => ckk (mC M q1 = 100) (ckb l1 (mN M q1) (ckk (mC M 1 = 110) (ckb l1 (mN M 1) ((if (aI M 1 (Int32.toNatClampNeg l1)) ≤ (aI M q1 (Int32.toNatClampNeg l1)) then
      (ckk ((0 : Int32) = 0 ∨ (0 : Int32) = 1) (some (some (.int (0 : Int32)), M))) else
      (ckk ((1 : Int32) = 0 ∨ (1 : Int32) = 1) (some (some (.int (1 : Int32)), M))))))))) :=
  tr_eq [] 11 rfl
theorem ca_Land_hasRoom (d : Nat) (a0 : Nat) (l1 : Int32) (M : ej_Mem) : cal (d + 1) jm_Land_hasRoom [.ref a0, .int l1] M = rn jm_Land_hasRoom (cal d) 0 [some (.ref a0), some (.int l1)] [] M := call_eq (show 2 ≤ 2 by decide)
set_option maxRecDepth 100000 in
theorem eq_Land_add_0 (cl : Nat → List Value → ej_Mem → Option ej_R) (a0 : Nat) (l1 : Int32) (a2 : Nat) (M : ej_Mem) : rn jm_Land_add cl 0 [some (.ref a0), some (.int l1), some (.ref a2), none] [] M =
    ckk (mC M a0 = 3) (deR (mR M a0 1) fun q1 => ckk (mC M q1 = 100) (ckb l1 (mN M q1) (ckk (mC M a0 = 3) (deR (mR M a0 0) fun q2 => ckk (mC M 2 = 110) (ckb l1 (mN M 2) (ckk (mC M q2 = 103) (ckb ((aI M 2 (Int32.toNatClampNeg l1)) + (aI M q1 (Int32.toNatClampNeg l1))) (mN M q2) (ckk (mC M a2 = 7) (ckk (mC (setP M q2 (Int32.toNatClampNeg ((aI M 2 (Int32.toNatClampNeg l1)) + (aI M q1 (Int32.toNatClampNeg l1)))) (some a2)) a0 = 3) (deR (mR (setP M q2 (Int32.toNatClampNeg ((aI M 2 (Int32.toNatClampNeg l1)) + (aI M q1 (Int32.toNatClampNeg l1)))) (some a2)) a0 1) fun q3 => ckk (mC (setP M q2 (Int32.toNatClampNeg ((aI M 2 (Int32.toNatClampNeg l1)) + (aI M q1 (Int32.toNatClampNeg l1)))) (some a2)) q3 = 100) (ckb l1 (mN (setP M q2 (Int32.toNatClampNeg ((aI M 2 (Int32.toNatClampNeg l1)) + (aI M q1 (Int32.toNatClampNeg l1)))) (some a2)) q3) (ckk (mC (setP M q2 (Int32.toNatClampNeg ((aI M 2 (Int32.toNatClampNeg l1)) + (aI M q1 (Int32.toNatClampNeg l1)))) (some a2)) q3 = 100) (ckb l1 (mN (setP M q2 (Int32.toNatClampNeg ((aI M 2 (Int32.toNatClampNeg l1)) + (aI M q1 (Int32.toNatClampNeg l1)))) (some a2)) q3) ((if l1 = (0 : Int32) then
      (ckk (mC (setA (setP M q2 (Int32.toNatClampNeg ((aI M 2 (Int32.toNatClampNeg l1)) + (aI M q1 (Int32.toNatClampNeg l1)))) (some a2)) q3 (Int32.toNatClampNeg l1) ((aI (setP M q2 (Int32.toNatClampNeg ((aI M 2 (Int32.toNatClampNeg l1)) + (aI M q1 (Int32.toNatClampNeg l1)))) (some a2)) q3 (Int32.toNatClampNeg l1)) + (1 : Int32))) a0 = 3) (deR (mR (setA (setP M q2 (Int32.toNatClampNeg ((aI M 2 (Int32.toNatClampNeg l1)) + (aI M q1 (Int32.toNatClampNeg l1)))) (some a2)) q3 (Int32.toNatClampNeg l1) ((aI (setP M q2 (Int32.toNatClampNeg ((aI M 2 (Int32.toNatClampNeg l1)) + (aI M q1 (Int32.toNatClampNeg l1)))) (some a2)) q3 (Int32.toNatClampNeg l1)) + (1 : Int32))) a0 2) fun q4 => ckk (mC (setA (setP M q2 (Int32.toNatClampNeg ((aI M 2 (Int32.toNatClampNeg l1)) + (aI M q1 (Int32.toNatClampNeg l1)))) (some a2)) q3 (Int32.toNatClampNeg l1) ((aI (setP M q2 (Int32.toNatClampNeg ((aI M 2 (Int32.toNatClampNeg l1)) + (aI M q1 (Int32.toNatClampNeg l1)))) (some a2)) q3 (Int32.toNatClampNeg l1)) + (1 : Int32))) q4 = 100) (ckb (aI M q1 (Int32.toNatClampNeg l1)) (mN (setA (setP M q2 (Int32.toNatClampNeg ((aI M 2 (Int32.toNatClampNeg l1)) + (aI M q1 (Int32.toNatClampNeg l1)))) (some a2)) q3 (Int32.toNatClampNeg l1) ((aI (setP M q2 (Int32.toNatClampNeg ((aI M 2 (Int32.toNatClampNeg l1)) + (aI M q1 (Int32.toNatClampNeg l1)))) (some a2)) q3 (Int32.toNatClampNeg l1)) + (1 : Int32))) q4) (ckk (mC (setA (setA (setP M q2 (Int32.toNatClampNeg ((aI M 2 (Int32.toNatClampNeg l1)) + (aI M q1 (Int32.toNatClampNeg l1)))) (some a2)) q3 (Int32.toNatClampNeg l1) ((aI (setP M q2 (Int32.toNatClampNeg ((aI M 2 (Int32.toNatClampNeg l1)) + (aI M q1 (Int32.toNatClampNeg l1)))) (some a2)) q3 (Int32.toNatClampNeg l1)) + (1 : Int32))) q4 (Int32.toNatClampNeg (aI M q1 (Int32.toNatClampNeg l1))) (0 : Int32)) a0 = 3) (deR (mR (setA (setA (setP M q2 (Int32.toNatClampNeg ((aI M 2 (Int32.toNatClampNeg l1)) + (aI M q1 (Int32.toNatClampNeg l1)))) (some a2)) q3 (Int32.toNatClampNeg l1) ((aI (setP M q2 (Int32.toNatClampNeg ((aI M 2 (Int32.toNatClampNeg l1)) + (aI M q1 (Int32.toNatClampNeg l1)))) (some a2)) q3 (Int32.toNatClampNeg l1)) + (1 : Int32))) q4 (Int32.toNatClampNeg (aI M q1 (Int32.toNatClampNeg l1))) (0 : Int32)) a0 3) fun q5 => ckk (mC (setA (setA (setP M q2 (Int32.toNatClampNeg ((aI M 2 (Int32.toNatClampNeg l1)) + (aI M q1 (Int32.toNatClampNeg l1)))) (some a2)) q3 (Int32.toNatClampNeg l1) ((aI (setP M q2 (Int32.toNatClampNeg ((aI M 2 (Int32.toNatClampNeg l1)) + (aI M q1 (Int32.toNatClampNeg l1)))) (some a2)) q3 (Int32.toNatClampNeg l1)) + (1 : Int32))) q4 (Int32.toNatClampNeg (aI M q1 (Int32.toNatClampNeg l1))) (0 : Int32)) q5 = 100) (ckb (aI M q1 (Int32.toNatClampNeg l1)) (mN (setA (setA (setP M q2 (Int32.toNatClampNeg ((aI M 2 (Int32.toNatClampNeg l1)) + (aI M q1 (Int32.toNatClampNeg l1)))) (some a2)) q3 (Int32.toNatClampNeg l1) ((aI (setP M q2 (Int32.toNatClampNeg ((aI M 2 (Int32.toNatClampNeg l1)) + (aI M q1 (Int32.toNatClampNeg l1)))) (some a2)) q3 (Int32.toNatClampNeg l1)) + (1 : Int32))) q4 (Int32.toNatClampNeg (aI M q1 (Int32.toNatClampNeg l1))) (0 : Int32)) q5) (some (some (.int (aI M q1 (Int32.toNatClampNeg l1))), (setA (setA (setA (setP M q2 (Int32.toNatClampNeg ((aI M 2 (Int32.toNatClampNeg l1)) + (aI M q1 (Int32.toNatClampNeg l1)))) (some a2)) q3 (Int32.toNatClampNeg l1) ((aI (setP M q2 (Int32.toNatClampNeg ((aI M 2 (Int32.toNatClampNeg l1)) + (aI M q1 (Int32.toNatClampNeg l1)))) (some a2)) q3 (Int32.toNatClampNeg l1)) + (1 : Int32))) q4 (Int32.toNatClampNeg (aI M q1 (Int32.toNatClampNeg l1))) (0 : Int32)) q5 (Int32.toNatClampNeg (aI M q1 (Int32.toNatClampNeg l1))) (2999 : Int32)))))))))) else
      (some (some (.int (aI M q1 (Int32.toNatClampNeg l1))), (setA (setP M q2 (Int32.toNatClampNeg ((aI M 2 (Int32.toNatClampNeg l1)) + (aI M q1 (Int32.toNatClampNeg l1)))) (some a2)) q3 (Int32.toNatClampNeg l1) ((aI (setP M q2 (Int32.toNatClampNeg ((aI M 2 (Int32.toNatClampNeg l1)) + (aI M q1 (Int32.toNatClampNeg l1)))) (some a2)) q3 (Int32.toNatClampNeg l1)) + (1 : Int32)))))))))))))))))))) :=
  tr_eq [] 36 rfl
theorem ca_Land_add (d : Nat) (a0 : Nat) (l1 : Int32) (a2 : Nat) (M : ej_Mem) : cal (d + 1) jm_Land_add [.ref a0, .int l1, .ref a2] M = rn jm_Land_add (cal d) 0 [some (.ref a0), some (.int l1), some (.ref a2), none] [] M := call_eq (show 3 ≤ 4 by decide)
set_option maxRecDepth 100000 in
theorem eq_Land_writ_0 (cl : Nat → List Value → ej_Mem → Option ej_R) (a0 : Nat) (l1 : Int32) (l2 : Int32) (M : ej_Mem) : rn jm_Land_writ cl 0 [some (.ref a0), some (.int l1), some (.int l2)] [] M =
    (if l2 < (0 : Int32) then
      (some (some (.null), M)) else
      (ckk (mC M a0 = 3) (deR (mR M a0 1) fun q1 => ckk (mC M q1 = 100) (ckb l1 (mN M q1) ((if l2 < (aI M q1 (Int32.toNatClampNeg l1)) then
        (ckk (mC M a0 = 3) (deR (mR M a0 0) fun q2 => ckk (mC M 2 = 110) (ckb l1 (mN M 2) (ckk (mC M q2 = 103) (ckb ((aI M 2 (Int32.toNatClampNeg l1)) + l2) (mN M q2) (deQ (aR M q2 (Int32.toNatClampNeg ((aI M 2 (Int32.toNatClampNeg l1)) + l2)))
          (some (some (.null), M))
          (fun q3 => some (some (.ref q3), M)))))))) else
        (some (some (.null), M)))))))) :=
  tr_eq [] 17 rfl
theorem ca_Land_writ (d : Nat) (a0 : Nat) (l1 : Int32) (l2 : Int32) (M : ej_Mem) : cal (d + 1) jm_Land_writ [.ref a0, .int l1, .int l2] M = rn jm_Land_writ (cal d) 0 [some (.ref a0), some (.int l1), some (.int l2)] [] M := call_eq (show 3 ≤ 3 by decide)
set_option maxRecDepth 100000 in
theorem eq_Land_movesOpenIn_0 (cl : Nat → List Value → ej_Mem → Option ej_R) (a0 : Nat) (l1 : Int32) (M : ej_Mem) : rn jm_Land_movesOpenIn cl 0 [some (.ref a0), some (.int l1), none, none, none] [] M =
    rn jm_Land_movesOpenIn cl 5 [some (.ref a0), some (.int l1), some (.long (0 : Int64)), none, some (.int (0 : Int32))] [] M :=
  tr_eq [5] 5 rfl
set_option maxRecDepth 100000 in
theorem eq_Land_movesOpenIn_5 (cl : Nat → List Value → ej_Mem → Option ej_R) (a0 : Nat) (l1 : Int32) (l2 : Int64) (l4 : Int32) (M : ej_Mem) : rn jm_Land_movesOpenIn cl 5 [some (.ref a0), some (.int l1), some (.long l2), none, some (.int l4)] [] M =
    ckk (mC M a0 = 3) (deR (mR M a0 1) fun q1 => ckk (mC M q1 = 100) (ckb (0 : Int32) (mN M q1) ((if (aI M q1 (Int32.toNatClampNeg (0 : Int32))) ≤ l4 then
      (some (some (.long l2), M)) else
      (ckk (mC M a0 = 3) (deR (mR M a0 2) fun q2 => ckk (mC M q2 = 100) (ckb l4 (mN M q2) ((if l1 < (aI M q2 (Int32.toNatClampNeg l4)) then
        (rn jm_Land_movesOpenIn cl 5 [some (.ref a0), some (.int l1), some (.long l2), none, some (.int (l4 + (1 : Int32)))] [] M) else
        (ckk (mC M a0 = 3) (deR (mR M a0 3) fun q3 => ckk (mC M q3 = 100) (ckb l4 (mN M q3) ((if (aI M q3 (Int32.toNatClampNeg l4)) < l1 then
          (rn jm_Land_movesOpenIn cl 5 [some (.ref a0), some (.int l1), some (.long l2), none, some (.int (l4 + (1 : Int32)))] [] M) else
          (rn jm_Land_movesOpenIn cl 5 [some (.ref a0), some (.int l1), some (.long (l2 ||| (ej_ls 0 (1 : Int64) l4))), none, some (.int (l4 + (1 : Int32)))] [] M))))))))))))))) :=
  tr_eq [5] 27 rfl
theorem ca_Land_movesOpenIn (d : Nat) (a0 : Nat) (l1 : Int32) (M : ej_Mem) : cal (d + 1) jm_Land_movesOpenIn [.ref a0, .int l1] M = rn jm_Land_movesOpenIn (cal d) 0 [some (.ref a0), some (.int l1), none, none, none] [] M := call_eq (show 2 ≤ 5 by decide)
set_option maxRecDepth 100000 in
theorem eq_Land_lenders_0 (cl : Nat → List Value → ej_Mem → Option ej_R) (a0 : Nat) (M : ej_Mem) : rn jm_Land_lenders cl 0 [some (.ref a0)] [] M =
    ckk (mC M a0 = 3) (bkI (cl jm_Land_lendersOf [.ref a0, .long (-1 : Int64)] M) fun x2 M1 =>
    some (some (.int x2), M1)) :=
  tr_eq [] 4 rfl
theorem ca_Land_lenders (d : Nat) (a0 : Nat) (M : ej_Mem) : cal (d + 1) jm_Land_lenders [.ref a0] M = rn jm_Land_lenders (cal d) 0 [some (.ref a0)] [] M := call_eq (show 1 ≤ 1 by decide)
set_option maxRecDepth 100000 in
theorem eq_Land_lendersOf_0 (cl : Nat → List Value → ej_Mem → Option ej_R) (a0 : Nat) (l1 : Int64) (M : ej_Mem) : rn jm_Land_lendersOf cl 0 [some (.ref a0), some (.long l1), none, none, none] [] M =
    rn jm_Land_lendersOf cl 5 [some (.ref a0), some (.long l1), none, some (.int (0 : Int32)), some (.int (0 : Int32))] [] M :=
  tr_eq [5] 5 rfl
set_option maxRecDepth 100000 in
theorem eq_Land_lendersOf_5 (cl : Nat → List Value → ej_Mem → Option ej_R) (a0 : Nat) (l1 : Int64) (l3 : Int32) (l4 : Int32) (M : ej_Mem) : rn jm_Land_lendersOf cl 5 [some (.ref a0), some (.long l1), none, some (.int l3), some (.int l4)] [] M =
    ckk (mC M a0 = 3) (deR (mR M a0 1) fun q1 => ckk (mC M q1 = 100) (ckb (0 : Int32) (mN M q1) ((if (aI M q1 (Int32.toNatClampNeg (0 : Int32))) ≤ l4 then
      (some (some (.int l3), M)) else
      ((if (lg_cmp ((ej_ls 1 l1 l4) &&& (1 : Int64)) (0 : Int64)) = (0 : Int32) then
        (rn jm_Land_lendersOf cl 5 [some (.ref a0), some (.long l1), none, some (.int l3), some (.int (l4 + (1 : Int32)))] [] M) else
        (ckk (mC M a0 = 3) (deR (mR M a0 0) fun q2 => ckk (mC M q2 = 103) (ckb l4 (mN M q2) (deQ (aR M q2 (Int32.toNatClampNeg l4))
          (rn jm_Land_lendersOf cl 5 [some (.ref a0), some (.long l1), none, some (.int l3), some (.int (l4 + (1 : Int32)))] [] M)
          (fun q3 => ckk (mC M a0 = 3) (deR (mR M a0 0) fun q4 => ckk (mC M q4 = 103) (ckb l4 (mN M q4) (deQ (aR M q4 (Int32.toNatClampNeg l4))
            (none)
            (fun q5 => ckk (mC M q5 = 7) (rn jm_Land_lendersOf cl 5 [some (.ref a0), some (.long l1), none, some (.int (l3 ||| (mI M q5 4))), some (.int (l4 + (1 : Int32)))] [] M)))))))))))))))) :=
  tr_eq [5] 30 rfl
theorem ca_Land_lendersOf (d : Nat) (a0 : Nat) (l1 : Int64) (M : ej_Mem) : cal (d + 1) jm_Land_lendersOf [.ref a0, .long l1] M = rn jm_Land_lendersOf (cal d) 0 [some (.ref a0), some (.long l1), none, none, none] [] M := call_eq (show 3 ≤ 5 by decide)
set_option maxRecDepth 100000 in
theorem eq_Land_movesLentBy_0 (cl : Nat → List Value → ej_Mem → Option ej_R) (a0 : Nat) (l1 : Int32) (M : ej_Mem) : rn jm_Land_movesLentBy cl 0 [some (.ref a0), some (.int l1), none, none, none] [] M =
    rn jm_Land_movesLentBy cl 5 [some (.ref a0), some (.int l1), some (.long (0 : Int64)), none, some (.int (0 : Int32))] [] M :=
  tr_eq [5] 5 rfl
set_option maxRecDepth 100000 in
theorem eq_Land_movesLentBy_5 (cl : Nat → List Value → ej_Mem → Option ej_R) (a0 : Nat) (l1 : Int32) (l2 : Int64) (l4 : Int32) (M : ej_Mem) : rn jm_Land_movesLentBy cl 5 [some (.ref a0), some (.int l1), some (.long l2), none, some (.int l4)] [] M =
    ckk (mC M a0 = 3) (deR (mR M a0 1) fun q1 => ckk (mC M q1 = 100) (ckb (0 : Int32) (mN M q1) ((if (aI M q1 (Int32.toNatClampNeg (0 : Int32))) ≤ l4 then
      (some (some (.long l2), M)) else
      (ckk (mC M a0 = 3) (deR (mR M a0 0) fun q2 => ckk (mC M q2 = 103) (ckb l4 (mN M q2) (deQ (aR M q2 (Int32.toNatClampNeg l4))
        (rn jm_Land_movesLentBy cl 5 [some (.ref a0), some (.int l1), some (.long l2), none, some (.int (l4 + (1 : Int32)))] [] M)
        (fun q3 => ckk (mC M a0 = 3) (deR (mR M a0 0) fun q4 => ckk (mC M q4 = 103) (ckb l4 (mN M q4) (deQ (aR M q4 (Int32.toNatClampNeg l4))
          (none)
          (fun q5 => ckk (mC M q5 = 7) ((if ((mI M q5 4) &&& (l1 ^^^ (-1 : Int32))) = (0 : Int32) then
            (rn jm_Land_movesLentBy cl 5 [some (.ref a0), some (.int l1), some (.long (l2 ||| (ej_ls 0 (1 : Int64) l4))), none, some (.int (l4 + (1 : Int32)))] [] M) else
            (rn jm_Land_movesLentBy cl 5 [some (.ref a0), some (.int l1), some (.long l2), none, some (.int (l4 + (1 : Int32)))] [] M)))))))))))))))) :=
  tr_eq [5] 30 rfl
theorem ca_Land_movesLentBy (d : Nat) (a0 : Nat) (l1 : Int32) (M : ej_Mem) : cal (d + 1) jm_Land_movesLentBy [.ref a0, .int l1] M = rn jm_Land_movesLentBy (cal d) 0 [some (.ref a0), some (.int l1), none, none, none] [] M := call_eq (show 2 ≤ 5 by decide)
set_option maxRecDepth 100000 in
theorem eq_Land_holdersOf_0 (cl : Nat → List Value → ej_Mem → Option ej_R) (a0 : Nat) (l1 : Int32) (M : ej_Mem) : rn jm_Land_holdersOf cl 0 [some (.ref a0), some (.int l1), none, none] [] M =
    rn jm_Land_holdersOf cl 4 [some (.ref a0), some (.int l1), some (.int (0 : Int32)), some (.int (0 : Int32))] [] M :=
  tr_eq [4] 5 rfl
set_option maxRecDepth 100000 in
theorem eq_Land_holdersOf_4 (cl : Nat → List Value → ej_Mem → Option ej_R) (a0 : Nat) (l1 : Int32) (l2 : Int32) (l3 : Int32) (M : ej_Mem) : rn jm_Land_holdersOf cl 4 [some (.ref a0), some (.int l1), some (.int l2), some (.int l3)] [] M =
    (if (24 : Int32) ≤ l3 then
      (some (some (.int l2), M)) else
      ((if ((l1 >>> (l3 &&& 31)) &&& (1 : Int32)) = (0 : Int32) then
        (rn jm_Land_holdersOf cl 4 [some (.ref a0), some (.int l1), some (.int l2), some (.int (l3 + (1 : Int32)))] [] M) else
        (ckk (mC M a0 = 3) (deR (mR M a0 5) fun q1 => ckk (mC M q1 = 100) (ckb l3 (mN M q1) ((if (aI M q1 (Int32.toNatClampNeg l3)) = (-1 : Int32) then
          (rn jm_Land_holdersOf cl 4 [some (.ref a0), some (.int l1), some (.int l2), some (.int (l3 + (1 : Int32)))] [] M) else
          (ckk (mC M a0 = 3) (deR (mR M a0 5) fun q2 => ckk (mC M q2 = 100) (ckb l3 (mN M q2) (rn jm_Land_holdersOf cl 4 [some (.ref a0), some (.int l1), some (.int (l2 ||| ((1 : Int32) <<< ((aI M q2 (Int32.toNatClampNeg l3)) &&& 31)))), some (.int (l3 + (1 : Int32)))] [] M)))))))))))) :=
  tr_eq [4] 27 rfl
theorem ca_Land_holdersOf (d : Nat) (a0 : Nat) (l1 : Int32) (M : ej_Mem) : cal (d + 1) jm_Land_holdersOf [.ref a0, .int l1] M = rn jm_Land_holdersOf (cal d) 0 [some (.ref a0), some (.int l1), none, none] [] M := call_eq (show 2 ≤ 4 by decide)
set_option maxRecDepth 100000 in
theorem eq_Land_isStopped_0 (cl : Nat → List Value → ej_Mem → Option ej_R) (a0 : Nat) (l1 : Int32) (a2 : Nat) (M : ej_Mem) : rn jm_Land_isStopped cl 0 [some (.ref a0), some (.int l1), some (.ref a2), none, none] [] M =
    ckk (mC M a2 = 6) (deQ (mR M a2 0)
      (ckk ((1 : Int32) = 0 ∨ (1 : Int32) = 1) (some (some (.int (1 : Int32)), M)))
      (fun q1 => ckk (mC M a2 = 6) (deQ (mR M a2 0)
        (ckk (mC M a2 = 6) (deQ (mR M a2 0)
          (none)
          (fun q3 => ckk (mC M q3 = 7) (none))))
        (fun q2 => ckk (mC M a2 = 6) (deQ (mR M a2 0)
          (none)
          (fun q4 => ckk (mC M q4 = 7) (ckk (mC M q2 = 7) (bkI (cl jm_Writ_isTrue [.ref q2, .int (mI M q4 5), .int l1] M) fun x6 M5 =>
          (if x6 = (0 : Int32) then
            (rn jm_Land_isStopped cl 29 [some (.ref a0), some (.int l1), some (.ref a2), some (.int (0 : Int32)), none] [] M5) else
            (ckk ((1 : Int32) = 0 ∨ (1 : Int32) = 1) (some (some (.int (1 : Int32)), M5)))))))))))) :=
  tr_eq [29] 14 rfl
set_option maxRecDepth 100000 in
theorem eq_Land_isStopped_29 (cl : Nat → List Value → ej_Mem → Option ej_R) (a0 : Nat) (l1 : Int32) (a2 : Nat) (l3 : Int32) (o4 : Option Value) (M : ej_Mem) : rn jm_Land_isStopped cl 29 [some (.ref a0), some (.int l1), some (.ref a2), some (.int l3), o4] [] M =
    ckk (mC M a2 = 6) ((if ((mI M a2 3) >>> (l3 &&& 31)) = (0 : Int32) then
      (ckk ((0 : Int32) = 0 ∨ (0 : Int32) = 1) (some (some (.int (0 : Int32)), M))) else
      (ckk (mC M a0 = 3) (deR (mR M a0 1) fun q1 => ckk (mC M q1 = 100) (ckb (3 : Int32) (mN M q1) ((if (aI M q1 (Int32.toNatClampNeg (3 : Int32))) ≤ l3 then
        (ckk ((0 : Int32) = 0 ∨ (0 : Int32) = 1) (some (some (.int (0 : Int32)), M))) else
        (ckk (mC M a0 = 3) (bkQ (cl jm_Land_writ [.ref a0, .int (3 : Int32), .int l3] M)
          (fun M2 => ckk (mC M2 a2 = 6) ((if (((mI M2 a2 3) >>> (l3 &&& 31)) &&& (1 : Int32)) = (0 : Int32) then
            (rn jm_Land_isStopped cl 29 [some (.ref a0), some (.int l1), some (.ref a2), some (.int (l3 + (1 : Int32))), some (.null)] [] M2) else
            (rn jm_Land_isStopped cl 29 [some (.ref a0), some (.int l1), some (.ref a2), some (.int (l3 + (1 : Int32))), some (.null)] [] M2))))
          (fun q3 M4 => ckk (mC M4 a2 = 6) ((if (((mI M4 a2 3) >>> (l3 &&& 31)) &&& (1 : Int32)) = (0 : Int32) then
            (rn jm_Land_isStopped cl 29 [some (.ref a0), some (.int l1), some (.ref a2), some (.int (l3 + (1 : Int32))), some (.ref q3)] [] M4) else
            (ckk (mC M4 q3 = 7) (ckk (mC M4 q3 = 7) (bkI (cl jm_Writ_isTrue [.ref q3, .int (mI M4 q3 5), .int l1] M4) fun x6 M5 =>
            (if x6 = (0 : Int32) then
              (rn jm_Land_isStopped cl 29 [some (.ref a0), some (.int l1), some (.ref a2), some (.int (l3 + (1 : Int32))), some (.ref q3)] [] M5) else
              (ckk ((1 : Int32) = 0 ∨ (1 : Int32) = 1) (some (some (.int (1 : Int32)), M5))))))))))))))))))) :=
  tr_eq [29] 34 rfl
theorem ca_Land_isStopped (d : Nat) (a0 : Nat) (l1 : Int32) (a2 : Nat) (M : ej_Mem) : cal (d + 1) jm_Land_isStopped [.ref a0, .int l1, .ref a2] M = rn jm_Land_isStopped (cal d) 0 [some (.ref a0), some (.int l1), some (.ref a2), none, none] [] M := call_eq (show 3 ≤ 5 by decide)
set_option maxRecDepth 100000 in
theorem eq_Land_ledTo_0 (cl : Nat → List Value → ej_Mem → Option ej_R) (a0 : Nat) (l1 : Int32) (l2 : Int32) (a3 : Nat) (M : ej_Mem) : rn jm_Land_ledTo cl 0 [some (.ref a0), some (.int l1), some (.int l2), some (.ref a3), none, none] [] M =
    ckk (mC M a0 = 3) (bkQ (cl jm_Land_writ [.ref a0, .int (0 : Int32), .int l1] M)
      (fun M1 => some (some (.int (-1 : Int32)), M1))
      (fun q2 M3 => ckk (mC M3 a3 = 6) ((if (lg_cmp ((ej_ls 1 (mL M3 a3 2) l1) &&& (1 : Int64)) (0 : Int64)) = (0 : Int32) then
        (some (some (.int (-1 : Int32)), M3)) else
        (ckk (mC M3 q2 = 7) (bkI (cl jm_Writ_changed [.ref q2, .int l2] M3) fun x5 M4 =>
        (if x5 = l2 then
          (some (some (.int (-1 : Int32)), M4)) else
          (ckk (mC M4 q2 = 7) (ckk (mC M4 q2 = 7) (bkI (cl jm_Writ_isTrue [.ref q2, .int (mI M4 q2 5), .int l2] M4) fun x7 M6 =>
          (if x7 = (0 : Int32) then
            (some (some (.int (-1 : Int32)), M6)) else
            (ckk (mC M6 a0 = 3) (bkI (cl jm_Land_isStopped [.ref a0, .int x5, .ref a3] M6) fun x9 M8 =>
            (if x9 = (0 : Int32) then
              (some (some (.int x5), M8)) else
              (some (some (.int (-1 : Int32)), M8)))))))))))))))) :=
  tr_eq [] 36 rfl
theorem ca_Land_ledTo (d : Nat) (a0 : Nat) (l1 : Int32) (l2 : Int32) (a3 : Nat) (M : ej_Mem) : cal (d + 1) jm_Land_ledTo [.ref a0, .int l1, .int l2, .ref a3] M = rn jm_Land_ledTo (cal d) 0 [some (.ref a0), some (.int l1), some (.int l2), some (.ref a3), none, none] [] M := call_eq (show 4 ≤ 6 by decide)
set_option maxRecDepth 100000 in
theorem eq_Land_beginSearch_0 (cl : Nat → List Value → ej_Mem → Option ej_R) (a0 : Nat) (l1 : Int32) (l2 : Int32) (l3 : Int32) (l4 : Int32) (M : ej_Mem) : rn jm_Land_beginSearch cl 0 [some (.ref a0), some (.int l1), some (.int l2), some (.int l3), some (.int l4)] [] M =
    ckk (mC M a0 = 3) (ckk (mC (setI M a0 8 l1) a0 = 3) (ckk (mC (setI (setI M a0 8 l1) a0 9 l2) a0 = 3) (ckk (mC (setI (setI (setI M a0 8 l1) a0 9 l2) a0 10 l3) a0 = 3) (deQ (mR (setI (setI (setI M a0 8 l1) a0 9 l2) a0 10 l3) a0 7)
      (bkV (cl jm_Hunt_init [.ref (mZ (setI (setI (setI M a0 8 l1) a0 9 l2) a0 10 l3)), .int (4000 : Int32), .int (19 : Int32)] (newM (setI (setI (setI M a0 8 l1) a0 9 l2) a0 10 l3) 1 0 8)) fun M2 =>
      ckk (mC M2 a0 = 3) (ckk (mC (setR M2 a0 7 (some (mZ (setI (setI (setI M a0 8 l1) a0 9 l2) a0 10 l3)))) a0 = 3) (deQ (mR (setR M2 a0 7 (some (mZ (setI (setI (setI M a0 8 l1) a0 9 l2) a0 10 l3)))) a0 7)
        (ckk (mC (setR M2 a0 7 (some (mZ (setI (setI (setI M a0 8 l1) a0 9 l2) a0 10 l3)))) a0 = 3) (bkQ (cl jm_Land_writ [.ref a0, .int (2 : Int32), .int l2] (setR M2 a0 7 (some (mZ (setI (setI (setI M a0 8 l1) a0 9 l2) a0 10 l3)))))
          (fun M4 => none)
          (fun q5 M6 => none)))
        (fun q3 => ckk (mC (setR M2 a0 7 (some (mZ (setI (setI (setI M a0 8 l1) a0 9 l2) a0 10 l3)))) a0 = 3) (bkQ (cl jm_Land_writ [.ref a0, .int (2 : Int32), .int l2] (setR M2 a0 7 (some (mZ (setI (setI (setI M a0 8 l1) a0 9 l2) a0 10 l3)))))
          (fun M7 => ckk (mC M7 q3 = 1) (bkV (cl jm_Hunt_begin [.ref q3, .int l4, .null] M7) fun M10 =>
          some (none, M10)))
          (fun q8 M9 => ckk (mC M9 q3 = 1) (bkV (cl jm_Hunt_begin [.ref q3, .int l4, .ref q8] M9) fun M11 =>
          some (none, M11))))))))
      (fun q1 => ckk (mC (setI (setI (setI M a0 8 l1) a0 9 l2) a0 10 l3) a0 = 3) (deQ (mR (setI (setI (setI M a0 8 l1) a0 9 l2) a0 10 l3) a0 7)
        (ckk (mC (setI (setI (setI M a0 8 l1) a0 9 l2) a0 10 l3) a0 = 3) (bkQ (cl jm_Land_writ [.ref a0, .int (2 : Int32), .int l2] (setI (setI (setI M a0 8 l1) a0 9 l2) a0 10 l3))
          (fun M13 => none)
          (fun q14 M15 => none)))
        (fun q12 => ckk (mC (setI (setI (setI M a0 8 l1) a0 9 l2) a0 10 l3) a0 = 3) (bkQ (cl jm_Land_writ [.ref a0, .int (2 : Int32), .int l2] (setI (setI (setI M a0 8 l1) a0 9 l2) a0 10 l3))
          (fun M16 => ckk (mC M16 q12 = 1) (bkV (cl jm_Hunt_begin [.ref q12, .int l4, .null] M16) fun M19 =>
          some (none, M19)))
          (fun q17 M18 => ckk (mC M18 q12 = 1) (bkV (cl jm_Hunt_begin [.ref q12, .int l4, .ref q17] M18) fun M20 =>
          some (none, M20))))))))))) :=
  tr_eq [] 28 rfl
theorem ca_Land_beginSearch (d : Nat) (a0 : Nat) (l1 : Int32) (l2 : Int32) (l3 : Int32) (l4 : Int32) (M : ej_Mem) : cal (d + 1) jm_Land_beginSearch [.ref a0, .int l1, .int l2, .int l3, .int l4] M = rn jm_Land_beginSearch (cal d) 0 [some (.ref a0), some (.int l1), some (.int l2), some (.int l3), some (.int l4)] [] M := call_eq (show 5 ≤ 5 by decide)
set_option maxRecDepth 100000 in
theorem eq_Land_copyFrom_0 (cl : Nat → List Value → ej_Mem → Option ej_R) (a0 : Nat) (a1 : Nat) (M : ej_Mem) : rn jm_Land_copyFrom cl 0 [some (.ref a0), some (.ref a1), none] [] M =
    ckk (mC M a1 = 3) (deR (mR M a1 1) fun q1 => ckk (mC M a0 = 3) (deR (mR M a0 1) fun q2 => ckk (mC M a0 = 3) (deR (mR M a0 1) fun q3 => ckk (100 ≤ mC M q3 ∧ mC M q3 ≤ 104) (ckk (mC M q1 = 100 ∧ mC M q2 = 100 ∧ ej_cats [] ≤ 8) (ckk (¬ (0 : Int32) < 0 ∧ ¬ (0 : Int32) < 0 ∧ ¬ (Int32.ofNat (mN M q3)) < 0 ∧ (Int32.toNatClampNeg (0 : Int32)) + (Int32.toNatClampNeg (Int32.ofNat (mN M q3))) ≤ mN M q1 ∧ (Int32.toNatClampNeg (0 : Int32)) + (Int32.toNatClampNeg (Int32.ofNat (mN M q3))) ≤ mN M q2) (rn jm_Land_copyFrom cl 18 [some (.ref a0), some (.ref a1), none] [] (cpyM M q1 (Int32.toNatClampNeg (0 : Int32)) q2 (Int32.toNatClampNeg (0 : Int32)) (Int32.toNatClampNeg (Int32.ofNat (mN M q3)))))))))) :=
  tr_eq [18, 36, 54, 72, 74, 92, 106, 125, 133, 141] 11 rfl
set_option maxRecDepth 100000 in
theorem eq_Land_copyFrom_18 (cl : Nat → List Value → ej_Mem → Option ej_R) (a0 : Nat) (a1 : Nat) (o2 : Option Value) (M : ej_Mem) : rn jm_Land_copyFrom cl 18 [some (.ref a0), some (.ref a1), o2] [] M =
    ckk (mC M a1 = 3) (deR (mR M a1 2) fun q1 => ckk (mC M a0 = 3) (deR (mR M a0 2) fun q2 => ckk (mC M a0 = 3) (deR (mR M a0 2) fun q3 => ckk (100 ≤ mC M q3 ∧ mC M q3 ≤ 104) (ckk (mC M q1 = 100 ∧ mC M q2 = 100 ∧ ej_cats [] ≤ 8) (ckk (¬ (0 : Int32) < 0 ∧ ¬ (0 : Int32) < 0 ∧ ¬ (Int32.ofNat (mN M q3)) < 0 ∧ (Int32.toNatClampNeg (0 : Int32)) + (Int32.toNatClampNeg (Int32.ofNat (mN M q3))) ≤ mN M q1 ∧ (Int32.toNatClampNeg (0 : Int32)) + (Int32.toNatClampNeg (Int32.ofNat (mN M q3))) ≤ mN M q2) (rn jm_Land_copyFrom cl 36 [some (.ref a0), some (.ref a1), o2] [] (cpyM M q1 (Int32.toNatClampNeg (0 : Int32)) q2 (Int32.toNatClampNeg (0 : Int32)) (Int32.toNatClampNeg (Int32.ofNat (mN M q3)))))))))) :=
  tr_eq [18, 36, 54, 72, 74, 92, 106, 125, 133, 141] 11 rfl
set_option maxRecDepth 100000 in
theorem eq_Land_copyFrom_36 (cl : Nat → List Value → ej_Mem → Option ej_R) (a0 : Nat) (a1 : Nat) (o2 : Option Value) (M : ej_Mem) : rn jm_Land_copyFrom cl 36 [some (.ref a0), some (.ref a1), o2] [] M =
    ckk (mC M a1 = 3) (deR (mR M a1 3) fun q1 => ckk (mC M a0 = 3) (deR (mR M a0 3) fun q2 => ckk (mC M a0 = 3) (deR (mR M a0 3) fun q3 => ckk (100 ≤ mC M q3 ∧ mC M q3 ≤ 104) (ckk (mC M q1 = 100 ∧ mC M q2 = 100 ∧ ej_cats [] ≤ 8) (ckk (¬ (0 : Int32) < 0 ∧ ¬ (0 : Int32) < 0 ∧ ¬ (Int32.ofNat (mN M q3)) < 0 ∧ (Int32.toNatClampNeg (0 : Int32)) + (Int32.toNatClampNeg (Int32.ofNat (mN M q3))) ≤ mN M q1 ∧ (Int32.toNatClampNeg (0 : Int32)) + (Int32.toNatClampNeg (Int32.ofNat (mN M q3))) ≤ mN M q2) (rn jm_Land_copyFrom cl 54 [some (.ref a0), some (.ref a1), o2] [] (cpyM M q1 (Int32.toNatClampNeg (0 : Int32)) q2 (Int32.toNatClampNeg (0 : Int32)) (Int32.toNatClampNeg (Int32.ofNat (mN M q3)))))))))) :=
  tr_eq [18, 36, 54, 72, 74, 92, 106, 125, 133, 141] 11 rfl
set_option maxRecDepth 100000 in
theorem eq_Land_copyFrom_54 (cl : Nat → List Value → ej_Mem → Option ej_R) (a0 : Nat) (a1 : Nat) (o2 : Option Value) (M : ej_Mem) : rn jm_Land_copyFrom cl 54 [some (.ref a0), some (.ref a1), o2] [] M =
    ckk (mC M a1 = 3) (deR (mR M a1 5) fun q1 => ckk (mC M a0 = 3) (deR (mR M a0 5) fun q2 => ckk (mC M a0 = 3) (deR (mR M a0 5) fun q3 => ckk (100 ≤ mC M q3 ∧ mC M q3 ≤ 104) (ckk (mC M q1 = 100 ∧ mC M q2 = 100 ∧ ej_cats [] ≤ 8) (ckk (¬ (0 : Int32) < 0 ∧ ¬ (0 : Int32) < 0 ∧ ¬ (Int32.ofNat (mN M q3)) < 0 ∧ (Int32.toNatClampNeg (0 : Int32)) + (Int32.toNatClampNeg (Int32.ofNat (mN M q3))) ≤ mN M q1 ∧ (Int32.toNatClampNeg (0 : Int32)) + (Int32.toNatClampNeg (Int32.ofNat (mN M q3))) ≤ mN M q2) (rn jm_Land_copyFrom cl 72 [some (.ref a0), some (.ref a1), o2] [] (cpyM M q1 (Int32.toNatClampNeg (0 : Int32)) q2 (Int32.toNatClampNeg (0 : Int32)) (Int32.toNatClampNeg (Int32.ofNat (mN M q3)))))))))) :=
  tr_eq [18, 36, 54, 72, 74, 92, 106, 125, 133, 141] 11 rfl
set_option maxRecDepth 100000 in
theorem eq_Land_copyFrom_72 (cl : Nat → List Value → ej_Mem → Option ej_R) (a0 : Nat) (a1 : Nat) (o2 : Option Value) (M : ej_Mem) : rn jm_Land_copyFrom cl 72 [some (.ref a0), some (.ref a1), o2] [] M =
    rn jm_Land_copyFrom cl 74 [some (.ref a0), some (.ref a1), some (.int (0 : Int32))] [] M :=
  tr_eq [18, 36, 54, 72, 74, 92, 106, 125, 133, 141] 3 rfl
set_option maxRecDepth 100000 in
theorem eq_Land_copyFrom_74 (cl : Nat → List Value → ej_Mem → Option ej_R) (a0 : Nat) (a1 : Nat) (l2 : Int32) (M : ej_Mem) : rn jm_Land_copyFrom cl 74 [some (.ref a0), some (.ref a1), some (.int l2)] [] M =
    (if (72 : Int32) ≤ l2 then
      (ckk (mC M a1 = 3) (ckk (mC M a0 = 3) (rn jm_Land_copyFrom cl 106 [some (.ref a0), some (.ref a1), some (.int l2)] [] (setI M a0 4 (mI M a1 4))))) else
      (ckk (mC M a0 = 3) (deR (mR M a0 0) fun q1 => ckk (mC M a1 = 3) (deR (mR M a1 0) fun q2 => ckk (mC M q2 = 103) (ckb l2 (mN M q2) (deQ (aR M q2 (Int32.toNatClampNeg l2))
        (ckk (mC M q1 = 103) (ckb l2 (mN M q1) (rn jm_Land_copyFrom cl 92 [some (.ref a0), some (.ref a1), some (.int l2)] [] (setP M q1 (Int32.toNatClampNeg l2) none))))
        (fun q3 => ckk (mC M q1 = 103) (ckb l2 (mN M q1) (ckk (mC M q3 = 7) (rn jm_Land_copyFrom cl 92 [some (.ref a0), some (.ref a1), some (.int l2)] [] (setP M q1 (Int32.toNatClampNeg l2) (some q3)))))))))))) :=
  tr_eq [18, 36, 54, 72, 74, 92, 106, 125, 133, 141] 12 rfl
set_option maxRecDepth 100000 in
theorem eq_Land_copyFrom_92 (cl : Nat → List Value → ej_Mem → Option ej_R) (a0 : Nat) (a1 : Nat) (l2 : Int32) (M : ej_Mem) : rn jm_Land_copyFrom cl 92 [some (.ref a0), some (.ref a1), some (.int l2)] [] M =
    rn jm_Land_copyFrom cl 74 [some (.ref a0), some (.ref a1), some (.int (l2 + (1 : Int32)))] [] M :=
  tr_eq [18, 36, 54, 72, 74, 92, 106, 125, 133, 141] 3 rfl
set_option maxRecDepth 100000 in
theorem eq_Land_copyFrom_106 (cl : Nat → List Value → ej_Mem → Option ej_R) (a0 : Nat) (a1 : Nat) (l2 : Int32) (M : ej_Mem) : rn jm_Land_copyFrom cl 106 [some (.ref a0), some (.ref a1), some (.int l2)] [] M =
    ckk (mC M a0 = 3) (deR (mR M a0 6) fun q1 => ckk (mC M a1 = 3) (deR (mR M a1 6) fun q2 => ckk (mC M q1 = 4) (bkV (cl jm_Rolls_copyFrom [.ref q1, .ref q2] M) fun M3 =>
    ckk (mC M3 a1 = 3) (ckk (mC M3 a0 = 3) (rn jm_Land_copyFrom cl 125 [some (.ref a0), some (.ref a1), some (.int l2)] [] (setI M3 a0 8 (mI M3 a1 8))))))) :=
  tr_eq [18, 36, 54, 72, 74, 92, 106, 125, 133, 141] 10 rfl
set_option maxRecDepth 100000 in
theorem eq_Land_copyFrom_125 (cl : Nat → List Value → ej_Mem → Option ej_R) (a0 : Nat) (a1 : Nat) (l2 : Int32) (M : ej_Mem) : rn jm_Land_copyFrom cl 125 [some (.ref a0), some (.ref a1), some (.int l2)] [] M =
    ckk (mC M a1 = 3) (ckk (mC M a0 = 3) (rn jm_Land_copyFrom cl 133 [some (.ref a0), some (.ref a1), some (.int l2)] [] (setI M a0 9 (mI M a1 9)))) :=
  tr_eq [18, 36, 54, 72, 74, 92, 106, 125, 133, 141] 5 rfl
set_option maxRecDepth 100000 in
theorem eq_Land_copyFrom_133 (cl : Nat → List Value → ej_Mem → Option ej_R) (a0 : Nat) (a1 : Nat) (l2 : Int32) (M : ej_Mem) : rn jm_Land_copyFrom cl 133 [some (.ref a0), some (.ref a1), some (.int l2)] [] M =
    ckk (mC M a1 = 3) (ckk (mC M a0 = 3) (rn jm_Land_copyFrom cl 141 [some (.ref a0), some (.ref a1), some (.int l2)] [] (setI M a0 10 (mI M a1 10)))) :=
  tr_eq [18, 36, 54, 72, 74, 92, 106, 125, 133, 141] 5 rfl
set_option maxRecDepth 100000 in
theorem eq_Land_copyFrom_141 (cl : Nat → List Value → ej_Mem → Option ej_R) (a0 : Nat) (a1 : Nat) (l2 : Int32) (M : ej_Mem) : rn jm_Land_copyFrom cl 141 [some (.ref a0), some (.ref a1), some (.int l2)] [] M =
    ckk (mC M a1 = 3) (deQ (mR M a1 7)
      (ckk (mC M a0 = 3) (bkV (cl jm_Land_copySearch [.ref a0, .null] M) fun M2 =>
      some (none, M2)))
      (fun q1 => ckk (mC M a0 = 3) (bkV (cl jm_Land_copySearch [.ref a0, .ref q1] M) fun M3 =>
      some (none, M3)))) :=
  tr_eq [18, 36, 54, 72, 74, 92, 106, 125, 133, 141] 5 rfl
theorem ca_Land_copyFrom (d : Nat) (a0 : Nat) (a1 : Nat) (M : ej_Mem) : cal (d + 1) jm_Land_copyFrom [.ref a0, .ref a1] M = rn jm_Land_copyFrom (cal d) 0 [some (.ref a0), some (.ref a1), none] [] M := call_eq (show 2 ≤ 3 by decide)
set_option maxRecDepth 100000 in
theorem eq_Land_copySearch_0 (cl : Nat → List Value → ej_Mem → Option ej_R) (a0 : Nat) (a1 : Nat) (M : ej_Mem) : rn jm_Land_copySearch cl 0 [some (.ref a0), some (.ref a1)] [] M =
    ckk (mC M a1 = 1) ((if (mI M a1 7) = (0 : Int32) then
      (ckk (mC M a0 = 3) (deQ (mR M a0 7)
        (some (none, M))
        (fun q7 => ckk (mC M a0 = 3) (deQ (mR M a0 7)
          (none)
          (fun q8 => ckk (mC M q8 = 1) (bkV (cl jm_Hunt_forget [.ref q8] M) fun M9 =>
          some (none, M9))))))) else
      (ckk (mC M a0 = 3) (deQ (mR M a0 7)
        (bkV (cl jm_Hunt_init [.ref (mZ M), .int (4000 : Int32), .int (19 : Int32)] (newM M 1 0 8)) fun M2 =>
        ckk (mC M2 a0 = 3) (ckk (mC (setR M2 a0 7 (some (mZ M))) a0 = 3) (deQ (mR (setR M2 a0 7 (some (mZ M))) a0 7)
          (none)
          (fun q3 => ckk (mC (setR M2 a0 7 (some (mZ M))) q3 = 1) (bkV (cl jm_Hunt_copyFrom [.ref q3, .ref a1] (setR M2 a0 7 (some (mZ M)))) fun M4 =>
          some (none, M4))))))
        (fun q1 => ckk (mC M a0 = 3) (deQ (mR M a0 7)
          (none)
          (fun q5 => ckk (mC M q5 = 1) (bkV (cl jm_Hunt_copyFrom [.ref q5, .ref a1] M) fun M6 =>
          some (none, M6))))))))) :=
  tr_eq [] 20 rfl
theorem ca_Land_copySearch (d : Nat) (a0 : Nat) (a1 : Nat) (M : ej_Mem) : cal (d + 1) jm_Land_copySearch [.ref a0, .ref a1] M = rn jm_Land_copySearch (cal d) 0 [some (.ref a0), some (.ref a1)] [] M := call_eq (show 2 ≤ 2 by decide)
set_option maxRecDepth 100000 in
theorem eq_Rolls_init_0 (cl : Nat → List Value → ej_Mem → Option ej_R) (a0 : Nat) (M : ej_Mem) : rn jm_Rolls_init cl 0 [some (.ref a0)] [] M =
    ckk (mC M a0 = 4) (rn jm_Rolls_init cl 9 [some (.ref a0)] [] (setI M a0 0 (0 : Int32))) :=
  tr_eq [9, 17, 25, 33, 42] 6 rfl
set_option maxRecDepth 100000 in
theorem eq_Rolls_init_9 (cl : Nat → List Value → ej_Mem → Option ej_R) (a0 : Nat) (M : ej_Mem) : rn jm_Rolls_init cl 9 [some (.ref a0)] [] M =
    ckk (¬ (30 : Int32) < 0 ∧ Int32.toNatClampNeg (30 : Int32) ≤ 67108864) (ckk (mC (newM M 100 (Int32.toNatClampNeg (30 : Int32)) (Int32.toNatClampNeg (30 : Int32))) a0 = 4) (rn jm_Rolls_init cl 17 [some (.ref a0)] [] (setR (newM M 100 (Int32.toNatClampNeg (30 : Int32)) (Int32.toNatClampNeg (30 : Int32))) a0 1 (some (mZ M))))) :=
  tr_eq [9, 17, 25, 33, 42] 5 rfl
set_option maxRecDepth 100000 in
theorem eq_Rolls_init_17 (cl : Nat → List Value → ej_Mem → Option ej_R) (a0 : Nat) (M : ej_Mem) : rn jm_Rolls_init cl 17 [some (.ref a0)] [] M =
    ckk (¬ (30 : Int32) < 0 ∧ Int32.toNatClampNeg (30 : Int32) ≤ 67108864) (ckk (mC (newM M 100 (Int32.toNatClampNeg (30 : Int32)) (Int32.toNatClampNeg (30 : Int32))) a0 = 4) (rn jm_Rolls_init cl 25 [some (.ref a0)] [] (setR (newM M 100 (Int32.toNatClampNeg (30 : Int32)) (Int32.toNatClampNeg (30 : Int32))) a0 2 (some (mZ M))))) :=
  tr_eq [9, 17, 25, 33, 42] 5 rfl
set_option maxRecDepth 100000 in
theorem eq_Rolls_init_25 (cl : Nat → List Value → ej_Mem → Option ej_R) (a0 : Nat) (M : ej_Mem) : rn jm_Rolls_init cl 25 [some (.ref a0)] [] M =
    ckk (¬ (30 : Int32) < 0 ∧ Int32.toNatClampNeg (30 : Int32) ≤ 67108864) (ckk (mC (newM M 100 (Int32.toNatClampNeg (30 : Int32)) (Int32.toNatClampNeg (30 : Int32))) a0 = 4) (rn jm_Rolls_init cl 33 [some (.ref a0)] [] (setR (newM M 100 (Int32.toNatClampNeg (30 : Int32)) (Int32.toNatClampNeg (30 : Int32))) a0 3 (some (mZ M))))) :=
  tr_eq [9, 17, 25, 33, 42] 5 rfl
set_option maxRecDepth 100000 in
theorem eq_Rolls_init_33 (cl : Nat → List Value → ej_Mem → Option ej_R) (a0 : Nat) (M : ej_Mem) : rn jm_Rolls_init cl 33 [some (.ref a0)] [] M =
    ckk (¬ (720 : Int32) < 0 ∧ Int32.toNatClampNeg (720 : Int32) ≤ 67108864) (ckk (mC (newM M 100 (Int32.toNatClampNeg (720 : Int32)) (Int32.toNatClampNeg (720 : Int32))) a0 = 4) (rn jm_Rolls_init cl 42 [some (.ref a0)] [] (setR (newM M 100 (Int32.toNatClampNeg (720 : Int32)) (Int32.toNatClampNeg (720 : Int32))) a0 4 (some (mZ M))))) :=
  tr_eq [9, 17, 25, 33, 42] 5 rfl
set_option maxRecDepth 100000 in
theorem eq_Rolls_init_42 (cl : Nat → List Value → ej_Mem → Option ej_R) (a0 : Nat) (M : ej_Mem) : rn jm_Rolls_init cl 42 [some (.ref a0)] [] M =
    some (none, M) :=
  tr_eq [9, 17, 25, 33, 42] 1 rfl
theorem ca_Rolls_init (d : Nat) (a0 : Nat) (M : ej_Mem) : cal (d + 1) jm_Rolls_init [.ref a0] M = rn jm_Rolls_init (cal d) 0 [some (.ref a0)] [] M := call_eq (show 1 ≤ 1 by decide)
set_option maxRecDepth 100000 in
theorem eq_Rolls_has_0 (cl : Nat → List Value → ej_Mem → Option ej_R) (a0 : Nat) (l1 : Int32) (M : ej_Mem) : rn jm_Rolls_has cl 0 [some (.ref a0), some (.int l1)] [] M =
    (if l1 < (0 : Int32) then
      (ckk ((0 : Int32) = 0 ∨ (0 : Int32) = 1) (some (some (.int (0 : Int32)), M))) else
      (ckk (mC M a0 = 4) ((if (mI M a0 0) ≤ l1 then
        (ckk ((0 : Int32) = 0 ∨ (0 : Int32) = 1) (some (some (.int (0 : Int32)), M))) else
        (ckk ((1 : Int32) = 0 ∨ (1 : Int32) = 1) (some (some (.int (1 : Int32)), M))))))) :=
  tr_eq [] 9 rfl
theorem ca_Rolls_has (d : Nat) (a0 : Nat) (l1 : Int32) (M : ej_Mem) : cal (d + 1) jm_Rolls_has [.ref a0, .int l1] M = rn jm_Rolls_has (cal d) 0 [some (.ref a0), some (.int l1)] [] M := call_eq (show 2 ≤ 2 by decide)
set_option maxRecDepth 100000 in
theorem eq_Rolls_begin_0 (cl : Nat → List Value → ej_Mem → Option ej_R) (a0 : Nat) (l1 : Int32) (l2 : Int32) (M : ej_Mem) : rn jm_Rolls_begin cl 0 [some (.ref a0), some (.int l1), some (.int l2)] [] M =
    ckk (mC M a0 = 4) ((if (mI M a0 0) < (30 : Int32) then
      (ckk (mC M a0 = 4) (deR (mR M a0 1) fun q1 => ckk (mC M a0 = 4) (ckk (mC M q1 = 100) (ckb (mI M a0 0) (mN M q1) (ckk (mC (setA M q1 (Int32.toNatClampNeg (mI M a0 0)) l1) a0 = 4) (deR (mR (setA M q1 (Int32.toNatClampNeg (mI M a0 0)) l1) a0 2) fun q2 => ckk (mC (setA M q1 (Int32.toNatClampNeg (mI M a0 0)) l1) a0 = 4) (ckk (mC (setA M q1 (Int32.toNatClampNeg (mI M a0 0)) l1) q2 = 100) (ckb (mI (setA M q1 (Int32.toNatClampNeg (mI M a0 0)) l1) a0 0) (mN (setA M q1 (Int32.toNatClampNeg (mI M a0 0)) l1) q2) (ckk (mC (setA (setA M q1 (Int32.toNatClampNeg (mI M a0 0)) l1) q2 (Int32.toNatClampNeg (mI (setA M q1 (Int32.toNatClampNeg (mI M a0 0)) l1) a0 0)) l2) a0 = 4) (deR (mR (setA (setA M q1 (Int32.toNatClampNeg (mI M a0 0)) l1) q2 (Int32.toNatClampNeg (mI (setA M q1 (Int32.toNatClampNeg (mI M a0 0)) l1) a0 0)) l2) a0 3) fun q3 => ckk (mC (setA (setA M q1 (Int32.toNatClampNeg (mI M a0 0)) l1) q2 (Int32.toNatClampNeg (mI (setA M q1 (Int32.toNatClampNeg (mI M a0 0)) l1) a0 0)) l2) a0 = 4) (ckk (mC (setA (setA M q1 (Int32.toNatClampNeg (mI M a0 0)) l1) q2 (Int32.toNatClampNeg (mI (setA M q1 (Int32.toNatClampNeg (mI M a0 0)) l1) a0 0)) l2) q3 = 100) (ckb (mI (setA (setA M q1 (Int32.toNatClampNeg (mI M a0 0)) l1) q2 (Int32.toNatClampNeg (mI (setA M q1 (Int32.toNatClampNeg (mI M a0 0)) l1) a0 0)) l2) a0 0) (mN (setA (setA M q1 (Int32.toNatClampNeg (mI M a0 0)) l1) q2 (Int32.toNatClampNeg (mI (setA M q1 (Int32.toNatClampNeg (mI M a0 0)) l1) a0 0)) l2) q3) (ckk (mC (setA (setA (setA M q1 (Int32.toNatClampNeg (mI M a0 0)) l1) q2 (Int32.toNatClampNeg (mI (setA M q1 (Int32.toNatClampNeg (mI M a0 0)) l1) a0 0)) l2) q3 (Int32.toNatClampNeg (mI (setA (setA M q1 (Int32.toNatClampNeg (mI M a0 0)) l1) q2 (Int32.toNatClampNeg (mI (setA M q1 (Int32.toNatClampNeg (mI M a0 0)) l1) a0 0)) l2) a0 0)) (0 : Int32)) a0 = 4) (ckk (mC (setA (setA (setA M q1 (Int32.toNatClampNeg (mI M a0 0)) l1) q2 (Int32.toNatClampNeg (mI (setA M q1 (Int32.toNatClampNeg (mI M a0 0)) l1) a0 0)) l2) q3 (Int32.toNatClampNeg (mI (setA (setA M q1 (Int32.toNatClampNeg (mI M a0 0)) l1) q2 (Int32.toNatClampNeg (mI (setA M q1 (Int32.toNatClampNeg (mI M a0 0)) l1) a0 0)) l2) a0 0)) (0 : Int32)) a0 = 4) (ckk (mC (setI (setA (setA (setA M q1 (Int32.toNatClampNeg (mI M a0 0)) l1) q2 (Int32.toNatClampNeg (mI (setA M q1 (Int32.toNatClampNeg (mI M a0 0)) l1) a0 0)) l2) q3 (Int32.toNatClampNeg (mI (setA (setA M q1 (Int32.toNatClampNeg (mI M a0 0)) l1) q2 (Int32.toNatClampNeg (mI (setA M q1 (Int32.toNatClampNeg (mI M a0 0)) l1) a0 0)) l2) a0 0)) (0 : Int32)) a0 0 ((mI (setA (setA (setA M q1 (Int32.toNatClampNeg (mI M a0 0)) l1) q2 (Int32.toNatClampNeg (mI (setA M q1 (Int32.toNatClampNeg (mI M a0 0)) l1) a0 0)) l2) q3 (Int32.toNatClampNeg (mI (setA (setA M q1 (Int32.toNatClampNeg (mI M a0 0)) l1) q2 (Int32.toNatClampNeg (mI (setA M q1 (Int32.toNatClampNeg (mI M a0 0)) l1) a0 0)) l2) a0 0)) (0 : Int32)) a0 0) + (1 : Int32))) a0 = 4) (some (some (.int ((mI (setI (setA (setA (setA M q1 (Int32.toNatClampNeg (mI M a0 0)) l1) q2 (Int32.toNatClampNeg (mI (setA M q1 (Int32.toNatClampNeg (mI M a0 0)) l1) a0 0)) l2) q3 (Int32.toNatClampNeg (mI (setA (setA M q1 (Int32.toNatClampNeg (mI M a0 0)) l1) q2 (Int32.toNatClampNeg (mI (setA M q1 (Int32.toNatClampNeg (mI M a0 0)) l1) a0 0)) l2) a0 0)) (0 : Int32)) a0 0 ((mI (setA (setA (setA M q1 (Int32.toNatClampNeg (mI M a0 0)) l1) q2 (Int32.toNatClampNeg (mI (setA M q1 (Int32.toNatClampNeg (mI M a0 0)) l1) a0 0)) l2) q3 (Int32.toNatClampNeg (mI (setA (setA M q1 (Int32.toNatClampNeg (mI M a0 0)) l1) q2 (Int32.toNatClampNeg (mI (setA M q1 (Int32.toNatClampNeg (mI M a0 0)) l1) a0 0)) l2) a0 0)) (0 : Int32)) a0 0) + (1 : Int32))) a0 0) - (1 : Int32))), (setI (setA (setA (setA M q1 (Int32.toNatClampNeg (mI M a0 0)) l1) q2 (Int32.toNatClampNeg (mI (setA M q1 (Int32.toNatClampNeg (mI M a0 0)) l1) a0 0)) l2) q3 (Int32.toNatClampNeg (mI (setA (setA M q1 (Int32.toNatClampNeg (mI M a0 0)) l1) q2 (Int32.toNatClampNeg (mI (setA M q1 (Int32.toNatClampNeg (mI M a0 0)) l1) a0 0)) l2) a0 0)) (0 : Int32)) a0 0 ((mI (setA (setA (setA M q1 (Int32.toNatClampNeg (mI M a0 0)) l1) q2 (Int32.toNatClampNeg (mI (setA M q1 (Int32.toNatClampNeg (mI M a0 0)) l1) a0 0)) l2) q3 (Int32.toNatClampNeg (mI (setA (setA M q1 (Int32.toNatClampNeg (mI M a0 0)) l1) q2 (Int32.toNatClampNeg (mI (setA M q1 (Int32.toNatClampNeg (mI M a0 0)) l1) a0 0)) l2) a0 0)) (0 : Int32)) a0 0) + (1 : Int32)))))))))))))))))))) else
      (some (some (.int (-1 : Int32)), M)))) :=
  tr_eq [] 33 rfl
theorem ca_Rolls_begin (d : Nat) (a0 : Nat) (l1 : Int32) (l2 : Int32) (M : ej_Mem) : cal (d + 1) jm_Rolls_begin [.ref a0, .int l1, .int l2] M = rn jm_Rolls_begin (cal d) 0 [some (.ref a0), some (.int l1), some (.int l2)] [] M := call_eq (show 3 ≤ 3 by decide)
set_option maxRecDepth 100000 in
theorem eq_Rolls_write_0 (cl : Nat → List Value → ej_Mem → Option ej_R) (a0 : Nat) (l1 : Int32) (l2 : Int32) (M : ej_Mem) : rn jm_Rolls_write cl 0 [some (.ref a0), some (.int l1), some (.int l2)] [] M =
    ckk (mC M a0 = 4) (bkI (cl jm_Rolls_has [.ref a0, .int l1] M) fun x2 M1 =>
    (if x2 = (0 : Int32) then
      (some (some (.int (-1 : Int32)), M1)) else
      (ckk (mC M1 a0 = 4) (deR (mR M1 a0 3) fun q3 => ckk (mC M1 q3 = 100) (ckb l1 (mN M1 q3) ((if (aI M1 q3 (Int32.toNatClampNeg l1)) < (24 : Int32) then
        (ckk (mC M1 a0 = 4) (deR (mR M1 a0 4) fun q4 => ckk (mC M1 a0 = 4) (deR (mR M1 a0 3) fun q5 => ckk (mC M1 q5 = 100) (ckb l1 (mN M1 q5) (ckk (mC M1 q4 = 100) (ckb ((l1 * (24 : Int32)) + (aI M1 q5 (Int32.toNatClampNeg l1))) (mN M1 q4) (ckk (mC (setA M1 q4 (Int32.toNatClampNeg ((l1 * (24 : Int32)) + (aI M1 q5 (Int32.toNatClampNeg l1)))) l2) a0 = 4) (deR (mR (setA M1 q4 (Int32.toNatClampNeg ((l1 * (24 : Int32)) + (aI M1 q5 (Int32.toNatClampNeg l1)))) l2) a0 3) fun q6 => ckk (mC (setA M1 q4 (Int32.toNatClampNeg ((l1 * (24 : Int32)) + (aI M1 q5 (Int32.toNatClampNeg l1)))) l2) q6 = 100) (ckb l1 (mN (setA M1 q4 (Int32.toNatClampNeg ((l1 * (24 : Int32)) + (aI M1 q5 (Int32.toNatClampNeg l1)))) l2) q6) (ckk (mC (setA M1 q4 (Int32.toNatClampNeg ((l1 * (24 : Int32)) + (aI M1 q5 (Int32.toNatClampNeg l1)))) l2) q6 = 100) (ckb l1 (mN (setA M1 q4 (Int32.toNatClampNeg ((l1 * (24 : Int32)) + (aI M1 q5 (Int32.toNatClampNeg l1)))) l2) q6) (ckk (mC (setA (setA M1 q4 (Int32.toNatClampNeg ((l1 * (24 : Int32)) + (aI M1 q5 (Int32.toNatClampNeg l1)))) l2) q6 (Int32.toNatClampNeg l1) ((aI (setA M1 q4 (Int32.toNatClampNeg ((l1 * (24 : Int32)) + (aI M1 q5 (Int32.toNatClampNeg l1)))) l2) q6 (Int32.toNatClampNeg l1)) + (1 : Int32))) a0 = 4) (deR (mR (setA (setA M1 q4 (Int32.toNatClampNeg ((l1 * (24 : Int32)) + (aI M1 q5 (Int32.toNatClampNeg l1)))) l2) q6 (Int32.toNatClampNeg l1) ((aI (setA M1 q4 (Int32.toNatClampNeg ((l1 * (24 : Int32)) + (aI M1 q5 (Int32.toNatClampNeg l1)))) l2) q6 (Int32.toNatClampNeg l1)) + (1 : Int32))) a0 3) fun q7 => ckk (mC (setA (setA M1 q4 (Int32.toNatClampNeg ((l1 * (24 : Int32)) + (aI M1 q5 (Int32.toNatClampNeg l1)))) l2) q6 (Int32.toNatClampNeg l1) ((aI (setA M1 q4 (Int32.toNatClampNeg ((l1 * (24 : Int32)) + (aI M1 q5 (Int32.toNatClampNeg l1)))) l2) q6 (Int32.toNatClampNeg l1)) + (1 : Int32))) q7 = 100) (ckb l1 (mN (setA (setA M1 q4 (Int32.toNatClampNeg ((l1 * (24 : Int32)) + (aI M1 q5 (Int32.toNatClampNeg l1)))) l2) q6 (Int32.toNatClampNeg l1) ((aI (setA M1 q4 (Int32.toNatClampNeg ((l1 * (24 : Int32)) + (aI M1 q5 (Int32.toNatClampNeg l1)))) l2) q6 (Int32.toNatClampNeg l1)) + (1 : Int32))) q7) (some (some (.int (aI (setA (setA M1 q4 (Int32.toNatClampNeg ((l1 * (24 : Int32)) + (aI M1 q5 (Int32.toNatClampNeg l1)))) l2) q6 (Int32.toNatClampNeg l1) ((aI (setA M1 q4 (Int32.toNatClampNeg ((l1 * (24 : Int32)) + (aI M1 q5 (Int32.toNatClampNeg l1)))) l2) q6 (Int32.toNatClampNeg l1)) + (1 : Int32))) q7 (Int32.toNatClampNeg l1))), (setA (setA M1 q4 (Int32.toNatClampNeg ((l1 * (24 : Int32)) + (aI M1 q5 (Int32.toNatClampNeg l1)))) l2) q6 (Int32.toNatClampNeg l1) ((aI (setA M1 q4 (Int32.toNatClampNeg ((l1 * (24 : Int32)) + (aI M1 q5 (Int32.toNatClampNeg l1)))) l2) q6 (Int32.toNatClampNeg l1)) + (1 : Int32))))))))))))))))))) else
        (some (some (.int (-1 : Int32)), M1))))))))) :=
  tr_eq [] 35 rfl
theorem ca_Rolls_write (d : Nat) (a0 : Nat) (l1 : Int32) (l2 : Int32) (M : ej_Mem) : cal (d + 1) jm_Rolls_write [.ref a0, .int l1, .int l2] M = rn jm_Rolls_write (cal d) 0 [some (.ref a0), some (.int l1), some (.int l2)] [] M := call_eq (show 3 ≤ 3 by decide)
set_option maxRecDepth 100000 in
theorem eq_Rolls_length_0 (cl : Nat → List Value → ej_Mem → Option ej_R) (a0 : Nat) (l1 : Int32) (M : ej_Mem) : rn jm_Rolls_length cl 0 [some (.ref a0), some (.int l1)] [] M =
    ckk (mC M a0 = 4) (bkI (cl jm_Rolls_has [.ref a0, .int l1] M) fun x2 M1 =>
    (if x2 = (0 : Int32) then
      (some (some (.int (0 : Int32)), M1)) else
      (ckk (mC M1 a0 = 4) (deR (mR M1 a0 3) fun q3 => ckk (mC M1 q3 = 100) (ckb l1 (mN M1 q3) (some (some (.int (aI M1 q3 (Int32.toNatClampNeg l1))), M1))))))) :=
  tr_eq [] 10 rfl
theorem ca_Rolls_length (d : Nat) (a0 : Nat) (l1 : Int32) (M : ej_Mem) : cal (d + 1) jm_Rolls_length [.ref a0, .int l1] M = rn jm_Rolls_length (cal d) 0 [some (.ref a0), some (.int l1)] [] M := call_eq (show 2 ≤ 2 by decide)
set_option maxRecDepth 100000 in
theorem eq_Rolls_move_0 (cl : Nat → List Value → ej_Mem → Option ej_R) (a0 : Nat) (l1 : Int32) (l2 : Int32) (M : ej_Mem) : rn jm_Rolls_move cl 0 [some (.ref a0), some (.int l1), some (.int l2)] [] M =
    (if l2 < (0 : Int32) then
      (some (some (.int (-1 : Int32)), M)) else
      (ckk (mC M a0 = 4) (bkI (cl jm_Rolls_length [.ref a0, .int l1] M) fun x2 M1 =>
      (if x2 ≤ l2 then
        (some (some (.int (-1 : Int32)), M1)) else
        (ckk (mC M1 a0 = 4) (deR (mR M1 a0 4) fun q3 => ckk (mC M1 q3 = 100) (ckb ((l1 * (24 : Int32)) + l2) (mN M1 q3) (some (some (.int (aI M1 q3 (Int32.toNatClampNeg ((l1 * (24 : Int32)) + l2)))), M1))))))))) :=
  tr_eq [] 17 rfl
theorem ca_Rolls_move (d : Nat) (a0 : Nat) (l1 : Int32) (l2 : Int32) (M : ej_Mem) : cal (d + 1) jm_Rolls_move [.ref a0, .int l1, .int l2] M = rn jm_Rolls_move (cal d) 0 [some (.ref a0), some (.int l1), some (.int l2)] [] M := call_eq (show 3 ≤ 3 by decide)
set_option maxRecDepth 100000 in
theorem eq_Rolls_copyFrom_0 (cl : Nat → List Value → ej_Mem → Option ej_R) (a0 : Nat) (a1 : Nat) (M : ej_Mem) : rn jm_Rolls_copyFrom cl 0 [some (.ref a0), some (.ref a1)] [] M =
    ckk (mC M a1 = 4) (ckk (mC M a0 = 4) (rn jm_Rolls_copyFrom cl 8 [some (.ref a0), some (.ref a1)] [] (setI M a0 0 (mI M a1 0)))) :=
  tr_eq [8, 26, 44, 62, 80] 5 rfl
set_option maxRecDepth 100000 in
theorem eq_Rolls_copyFrom_8 (cl : Nat → List Value → ej_Mem → Option ej_R) (a0 : Nat) (a1 : Nat) (M : ej_Mem) : rn jm_Rolls_copyFrom cl 8 [some (.ref a0), some (.ref a1)] [] M =
    ckk (mC M a1 = 4) (deR (mR M a1 1) fun q1 => ckk (mC M a0 = 4) (deR (mR M a0 1) fun q2 => ckk (mC M a0 = 4) (deR (mR M a0 1) fun q3 => ckk (100 ≤ mC M q3 ∧ mC M q3 ≤ 104) (ckk (mC M q1 = 100 ∧ mC M q2 = 100 ∧ ej_cats [] ≤ 8) (ckk (¬ (0 : Int32) < 0 ∧ ¬ (0 : Int32) < 0 ∧ ¬ (Int32.ofNat (mN M q3)) < 0 ∧ (Int32.toNatClampNeg (0 : Int32)) + (Int32.toNatClampNeg (Int32.ofNat (mN M q3))) ≤ mN M q1 ∧ (Int32.toNatClampNeg (0 : Int32)) + (Int32.toNatClampNeg (Int32.ofNat (mN M q3))) ≤ mN M q2) (rn jm_Rolls_copyFrom cl 26 [some (.ref a0), some (.ref a1)] [] (cpyM M q1 (Int32.toNatClampNeg (0 : Int32)) q2 (Int32.toNatClampNeg (0 : Int32)) (Int32.toNatClampNeg (Int32.ofNat (mN M q3)))))))))) :=
  tr_eq [8, 26, 44, 62, 80] 11 rfl
set_option maxRecDepth 100000 in
theorem eq_Rolls_copyFrom_26 (cl : Nat → List Value → ej_Mem → Option ej_R) (a0 : Nat) (a1 : Nat) (M : ej_Mem) : rn jm_Rolls_copyFrom cl 26 [some (.ref a0), some (.ref a1)] [] M =
    ckk (mC M a1 = 4) (deR (mR M a1 2) fun q1 => ckk (mC M a0 = 4) (deR (mR M a0 2) fun q2 => ckk (mC M a0 = 4) (deR (mR M a0 2) fun q3 => ckk (100 ≤ mC M q3 ∧ mC M q3 ≤ 104) (ckk (mC M q1 = 100 ∧ mC M q2 = 100 ∧ ej_cats [] ≤ 8) (ckk (¬ (0 : Int32) < 0 ∧ ¬ (0 : Int32) < 0 ∧ ¬ (Int32.ofNat (mN M q3)) < 0 ∧ (Int32.toNatClampNeg (0 : Int32)) + (Int32.toNatClampNeg (Int32.ofNat (mN M q3))) ≤ mN M q1 ∧ (Int32.toNatClampNeg (0 : Int32)) + (Int32.toNatClampNeg (Int32.ofNat (mN M q3))) ≤ mN M q2) (rn jm_Rolls_copyFrom cl 44 [some (.ref a0), some (.ref a1)] [] (cpyM M q1 (Int32.toNatClampNeg (0 : Int32)) q2 (Int32.toNatClampNeg (0 : Int32)) (Int32.toNatClampNeg (Int32.ofNat (mN M q3)))))))))) :=
  tr_eq [8, 26, 44, 62, 80] 11 rfl
set_option maxRecDepth 100000 in
theorem eq_Rolls_copyFrom_44 (cl : Nat → List Value → ej_Mem → Option ej_R) (a0 : Nat) (a1 : Nat) (M : ej_Mem) : rn jm_Rolls_copyFrom cl 44 [some (.ref a0), some (.ref a1)] [] M =
    ckk (mC M a1 = 4) (deR (mR M a1 3) fun q1 => ckk (mC M a0 = 4) (deR (mR M a0 3) fun q2 => ckk (mC M a0 = 4) (deR (mR M a0 3) fun q3 => ckk (100 ≤ mC M q3 ∧ mC M q3 ≤ 104) (ckk (mC M q1 = 100 ∧ mC M q2 = 100 ∧ ej_cats [] ≤ 8) (ckk (¬ (0 : Int32) < 0 ∧ ¬ (0 : Int32) < 0 ∧ ¬ (Int32.ofNat (mN M q3)) < 0 ∧ (Int32.toNatClampNeg (0 : Int32)) + (Int32.toNatClampNeg (Int32.ofNat (mN M q3))) ≤ mN M q1 ∧ (Int32.toNatClampNeg (0 : Int32)) + (Int32.toNatClampNeg (Int32.ofNat (mN M q3))) ≤ mN M q2) (rn jm_Rolls_copyFrom cl 62 [some (.ref a0), some (.ref a1)] [] (cpyM M q1 (Int32.toNatClampNeg (0 : Int32)) q2 (Int32.toNatClampNeg (0 : Int32)) (Int32.toNatClampNeg (Int32.ofNat (mN M q3)))))))))) :=
  tr_eq [8, 26, 44, 62, 80] 11 rfl
set_option maxRecDepth 100000 in
theorem eq_Rolls_copyFrom_62 (cl : Nat → List Value → ej_Mem → Option ej_R) (a0 : Nat) (a1 : Nat) (M : ej_Mem) : rn jm_Rolls_copyFrom cl 62 [some (.ref a0), some (.ref a1)] [] M =
    ckk (mC M a1 = 4) (deR (mR M a1 4) fun q1 => ckk (mC M a0 = 4) (deR (mR M a0 4) fun q2 => ckk (mC M a0 = 4) (deR (mR M a0 4) fun q3 => ckk (100 ≤ mC M q3 ∧ mC M q3 ≤ 104) (ckk (mC M q1 = 100 ∧ mC M q2 = 100 ∧ ej_cats [] ≤ 8) (ckk (¬ (0 : Int32) < 0 ∧ ¬ (0 : Int32) < 0 ∧ ¬ (Int32.ofNat (mN M q3)) < 0 ∧ (Int32.toNatClampNeg (0 : Int32)) + (Int32.toNatClampNeg (Int32.ofNat (mN M q3))) ≤ mN M q1 ∧ (Int32.toNatClampNeg (0 : Int32)) + (Int32.toNatClampNeg (Int32.ofNat (mN M q3))) ≤ mN M q2) (rn jm_Rolls_copyFrom cl 80 [some (.ref a0), some (.ref a1)] [] (cpyM M q1 (Int32.toNatClampNeg (0 : Int32)) q2 (Int32.toNatClampNeg (0 : Int32)) (Int32.toNatClampNeg (Int32.ofNat (mN M q3)))))))))) :=
  tr_eq [8, 26, 44, 62, 80] 11 rfl
set_option maxRecDepth 100000 in
theorem eq_Rolls_copyFrom_80 (cl : Nat → List Value → ej_Mem → Option ej_R) (a0 : Nat) (a1 : Nat) (M : ej_Mem) : rn jm_Rolls_copyFrom cl 80 [some (.ref a0), some (.ref a1)] [] M =
    some (none, M) :=
  tr_eq [8, 26, 44, 62, 80] 1 rfl
theorem ca_Rolls_copyFrom (d : Nat) (a0 : Nat) (a1 : Nat) (M : ej_Mem) : cal (d + 1) jm_Rolls_copyFrom [.ref a0, .ref a1] M = rn jm_Rolls_copyFrom (cal d) 0 [some (.ref a0), some (.ref a1)] [] M := call_eq (show 2 ≤ 2 by decide)
set_option maxRecDepth 100000 in
theorem eq_Terms_init_0 (cl : Nat → List Value → ej_Mem → Option ej_R) (a0 : Nat) (M : ej_Mem) : rn jm_Terms_init cl 0 [some (.ref a0)] [] M =
    ckk (mC M a0 = 6) (rn jm_Terms_init cl 9 [some (.ref a0)] [] (setR M a0 0 none)) :=
  tr_eq [9, 14, 19, 24, 30] 6 rfl
set_option maxRecDepth 100000 in
theorem eq_Terms_init_9 (cl : Nat → List Value → ej_Mem → Option ej_R) (a0 : Nat) (M : ej_Mem) : rn jm_Terms_init cl 9 [some (.ref a0)] [] M =
    ckk (mC M a0 = 6) (rn jm_Terms_init cl 14 [some (.ref a0)] [] (setR M a0 1 none)) :=
  tr_eq [9, 14, 19, 24, 30] 4 rfl
set_option maxRecDepth 100000 in
theorem eq_Terms_init_14 (cl : Nat → List Value → ej_Mem → Option ej_R) (a0 : Nat) (M : ej_Mem) : rn jm_Terms_init cl 14 [some (.ref a0)] [] M =
    ckk (mC M a0 = 6) (rn jm_Terms_init cl 19 [some (.ref a0)] [] (setL M a0 2 (0 : Int64))) :=
  tr_eq [9, 14, 19, 24, 30] 4 rfl
set_option maxRecDepth 100000 in
theorem eq_Terms_init_19 (cl : Nat → List Value → ej_Mem → Option ej_R) (a0 : Nat) (M : ej_Mem) : rn jm_Terms_init cl 19 [some (.ref a0)] [] M =
    ckk (mC M a0 = 6) (rn jm_Terms_init cl 24 [some (.ref a0)] [] (setI M a0 3 (0 : Int32))) :=
  tr_eq [9, 14, 19, 24, 30] 4 rfl
set_option maxRecDepth 100000 in
theorem eq_Terms_init_24 (cl : Nat → List Value → ej_Mem → Option ej_R) (a0 : Nat) (M : ej_Mem) : rn jm_Terms_init cl 24 [some (.ref a0)] [] M =
    ckk (mC M a0 = 6) (rn jm_Terms_init cl 30 [some (.ref a0)] [] (setI M a0 4 (65535 : Int32))) :=
  tr_eq [9, 14, 19, 24, 30] 4 rfl
set_option maxRecDepth 100000 in
theorem eq_Terms_init_30 (cl : Nat → List Value → ej_Mem → Option ej_R) (a0 : Nat) (M : ej_Mem) : rn jm_Terms_init cl 30 [some (.ref a0)] [] M =
    some (none, M) :=
  tr_eq [9, 14, 19, 24, 30] 1 rfl
theorem ca_Terms_init (d : Nat) (a0 : Nat) (M : ej_Mem) : cal (d + 1) jm_Terms_init [.ref a0] M = rn jm_Terms_init (cal d) 0 [some (.ref a0)] [] M := call_eq (show 1 ≤ 1 by decide)
set_option maxRecDepth 100000 in
theorem eq_Writ_init_0 (cl : Nat → List Value → ej_Mem → Option ej_R) (a0 : Nat) (M : ej_Mem) : rn jm_Writ_init cl 0 [some (.ref a0)] [] M =
    ckk (mC M a0 = 7) (rn jm_Writ_init cl 9 [some (.ref a0)] [] (setI M a0 0 (0 : Int32))) :=
  tr_eq [9, 14, 19, 24, 29, 34, 39, 44] 6 rfl
set_option maxRecDepth 100000 in
theorem eq_Writ_init_9 (cl : Nat → List Value → ej_Mem → Option ej_R) (a0 : Nat) (M : ej_Mem) : rn jm_Writ_init cl 9 [some (.ref a0)] [] M =
    ckk (mC M a0 = 7) (rn jm_Writ_init cl 14 [some (.ref a0)] [] (setI M a0 1 (0 : Int32))) :=
  tr_eq [9, 14, 19, 24, 29, 34, 39, 44] 4 rfl
set_option maxRecDepth 100000 in
theorem eq_Writ_init_14 (cl : Nat → List Value → ej_Mem → Option ej_R) (a0 : Nat) (M : ej_Mem) : rn jm_Writ_init cl 14 [some (.ref a0)] [] M =
    ckk (mC M a0 = 7) (rn jm_Writ_init cl 19 [some (.ref a0)] [] (setI M a0 2 (0 : Int32))) :=
  tr_eq [9, 14, 19, 24, 29, 34, 39, 44] 4 rfl
set_option maxRecDepth 100000 in
theorem eq_Writ_init_19 (cl : Nat → List Value → ej_Mem → Option ej_R) (a0 : Nat) (M : ej_Mem) : rn jm_Writ_init cl 19 [some (.ref a0)] [] M =
    ckk (mC M a0 = 7) (rn jm_Writ_init cl 24 [some (.ref a0)] [] (setI M a0 3 (0 : Int32))) :=
  tr_eq [9, 14, 19, 24, 29, 34, 39, 44] 4 rfl
set_option maxRecDepth 100000 in
theorem eq_Writ_init_24 (cl : Nat → List Value → ej_Mem → Option ej_R) (a0 : Nat) (M : ej_Mem) : rn jm_Writ_init cl 24 [some (.ref a0)] [] M =
    ckk (mC M a0 = 7) (rn jm_Writ_init cl 29 [some (.ref a0)] [] (setI M a0 4 (0 : Int32))) :=
  tr_eq [9, 14, 19, 24, 29, 34, 39, 44] 4 rfl
set_option maxRecDepth 100000 in
theorem eq_Writ_init_29 (cl : Nat → List Value → ej_Mem → Option ej_R) (a0 : Nat) (M : ej_Mem) : rn jm_Writ_init cl 29 [some (.ref a0)] [] M =
    ckk (mC M a0 = 7) (rn jm_Writ_init cl 34 [some (.ref a0)] [] (setI M a0 5 (-1 : Int32))) :=
  tr_eq [9, 14, 19, 24, 29, 34, 39, 44] 4 rfl
set_option maxRecDepth 100000 in
theorem eq_Writ_init_34 (cl : Nat → List Value → ej_Mem → Option ej_R) (a0 : Nat) (M : ej_Mem) : rn jm_Writ_init cl 34 [some (.ref a0)] [] M =
    ckk (mC M a0 = 7) (rn jm_Writ_init cl 39 [some (.ref a0)] [] (setR M a0 6 none)) :=
  tr_eq [9, 14, 19, 24, 29, 34, 39, 44] 4 rfl
set_option maxRecDepth 100000 in
theorem eq_Writ_init_39 (cl : Nat → List Value → ej_Mem → Option ej_R) (a0 : Nat) (M : ej_Mem) : rn jm_Writ_init cl 39 [some (.ref a0)] [] M =
    ckk (mC M a0 = 7) (rn jm_Writ_init cl 44 [some (.ref a0)] [] (setR M a0 7 none)) :=
  tr_eq [9, 14, 19, 24, 29, 34, 39, 44] 4 rfl
set_option maxRecDepth 100000 in
theorem eq_Writ_init_44 (cl : Nat → List Value → ej_Mem → Option ej_R) (a0 : Nat) (M : ej_Mem) : rn jm_Writ_init cl 44 [some (.ref a0)] [] M =
    some (none, M) :=
  tr_eq [9, 14, 19, 24, 29, 34, 39, 44] 1 rfl
theorem ca_Writ_init (d : Nat) (a0 : Nat) (M : ej_Mem) : cal (d + 1) jm_Writ_init [.ref a0] M = rn jm_Writ_init (cal d) 0 [some (.ref a0)] [] M := call_eq (show 1 ≤ 1 by decide)
set_option maxRecDepth 100000 in
theorem eq_Writ_isTrue_0 (cl : Nat → List Value → ej_Mem → Option ej_R) (a0 : Nat) (l1 : Int32) (l2 : Int32) (M : ej_Mem) : rn jm_Writ_isTrue cl 0 [some (.ref a0), some (.int l1), some (.int l2), none, none, none, none] [] M =
    ckk (mC M a0 = 7) (deQ (mR M a0 6)
      ((if l1 = (-1 : Int32) then
        (rn jm_Writ_isTrue cl 19 [some (.ref a0), some (.int l1), some (.int l2), some (.int l1), none, none, none] [.int (1 : Int32)] M) else
        (rn jm_Writ_isTrue cl 19 [some (.ref a0), some (.int l1), some (.int l2), some (.int l1), none, none, none] [.int (0 : Int32)] M)))
      (fun q1 => ckk (mC M a0 = 7) (deQ (mR M a0 6)
        (none)
        (fun q2 => ckk (100 ≤ mC M q2 ∧ mC M q2 ≤ 104) (rn jm_Writ_isTrue cl 27 [some (.ref a0), some (.int l1), some (.int l2), some (.int l1), some (.int (Int32.ofNat (mN M q2))), none, none] [] M))))) :=
  tr_eq [19, 27, 90, 91, 117, 124, 134] 11 rfl
set_option maxRecDepth 100000 in
theorem eq_Writ_isTrue_19 (cl : Nat → List Value → ej_Mem → Option ej_R) (a0 : Nat) (l1 : Int32) (l2 : Int32) (l3 : Int32) (o4 : Option Value) (o5 : Option Value) (o6 : Option Value) (s0 : Int32) (M : ej_Mem) : rn jm_Writ_isTrue cl 19 [some (.ref a0), some (.int l1), some (.int l2), some (.int l3), o4, o5, o6] [.int s0] M =
    ckk (s0 = 0 ∨ s0 = 1) (some (some (.int s0), M)) :=
  tr_eq [19, 27, 90, 91, 117, 124, 134] 1 rfl
set_option maxRecDepth 100000 in
theorem eq_Writ_isTrue_27 (cl : Nat → List Value → ej_Mem → Option ej_R) (a0 : Nat) (l1 : Int32) (l2 : Int32) (l3 : Int32) (l4 : Int32) (o5 : Option Value) (o6 : Option Value) (M : ej_Mem) : rn jm_Writ_isTrue cl 27 [some (.ref a0), some (.int l1), some (.int l2), some (.int l3), some (.int l4), o5, o6] [] M =
    (if l4 ≤ (0 : Int32) then
      (rn jm_Writ_isTrue cl 124 [some (.ref a0), some (.int l1), some (.int l2), some (.int l3), some (.int l4), o5, o6] [] M) else
      ((if l3 < (0 : Int32) then
        (rn jm_Writ_isTrue cl 124 [some (.ref a0), some (.int l1), some (.int l2), some (.int l3), some (.int l4), o5, o6] [] M) else
        (ckk (mC M a0 = 7) (deQ (mR M a0 6)
          (none)
          (fun q1 => ckk (100 ≤ mC M q1 ∧ mC M q1 ≤ 104) ((if (Int32.ofNat (mN M q1)) < (l3 + (5 : Int32)) then
            (rn jm_Writ_isTrue cl 124 [some (.ref a0), some (.int l1), some (.int l2), some (.int l3), some (.int l4), o5, o6] [] M) else
            (ckk (mC M a0 = 7) (deQ (mR M a0 6)
              (none)
              (fun q2 => ckk (mC M q2 = 100) (ckb l3 (mN M q2) (bkI (cl jm_Intg_bitCount_0f7a4 [.int (l2 &&& (aI M q2 (Int32.toNatClampNeg l3)))] M) fun x4 M3 =>
              ckk (mC M3 a0 = 7) (deQ (mR M3 a0 6)
                (none)
                (fun q5 => ckk (mC M3 q5 = 100) (ckb (l3 + (1 : Int32)) (mN M3 q5) ((if x4 < (aI M3 q5 (Int32.toNatClampNeg (l3 + (1 : Int32)))) then
                  (rn jm_Writ_isTrue cl 90 [some (.ref a0), some (.int l1), some (.int l2), some (.int l3), some (.int l4), some (.int x4), o6] [] M3) else
                  (ckk (mC M3 a0 = 7) (deQ (mR M3 a0 6)
                    (none)
                    (fun q6 => ckk (mC M3 q6 = 100) (ckb (l3 + (2 : Int32)) (mN M3 q6) ((if (aI M3 q6 (Int32.toNatClampNeg (l3 + (2 : Int32)))) < x4 then
                      (rn jm_Writ_isTrue cl 90 [some (.ref a0), some (.int l1), some (.int l2), some (.int l3), some (.int l4), some (.int x4), o6] [] M3) else
                      (rn jm_Writ_isTrue cl 91 [some (.ref a0), some (.int l1), some (.int l2), some (.int l3), some (.int l4), some (.int x4), o6] [.int (1 : Int32)] M3))))))))))))))))))))))))) :=
  tr_eq [19, 27, 90, 91, 117, 124, 134] 38 rfl
set_option maxRecDepth 100000 in
theorem eq_Writ_isTrue_90 (cl : Nat → List Value → ej_Mem → Option ej_R) (a0 : Nat) (l1 : Int32) (l2 : Int32) (l3 : Int32) (l4 : Int32) (l5 : Int32) (o6 : Option Value) (M : ej_Mem) : rn jm_Writ_isTrue cl 90 [some (.ref a0), some (.int l1), some (.int l2), some (.int l3), some (.int l4), some (.int l5), o6] [] M =
    rn jm_Writ_isTrue cl 91 [some (.ref a0), some (.int l1), some (.int l2), some (.int l3), some (.int l4), some (.int l5), o6] [.int (0 : Int32)] M :=
  tr_eq [19, 27, 90, 91, 117, 124, 134] 2 rfl
set_option maxRecDepth 100000 in
theorem eq_Writ_isTrue_91 (cl : Nat → List Value → ej_Mem → Option ej_R) (a0 : Nat) (l1 : Int32) (l2 : Int32) (l3 : Int32) (l4 : Int32) (l5 : Int32) (o6 : Option Value) (s0 : Int32) (M : ej_Mem) : rn jm_Writ_isTrue cl 91 [some (.ref a0), some (.int l1), some (.int l2), some (.int l3), some (.int l4), some (.int l5), o6] [.int s0] M =
    (if s0 = (0 : Int32) then
      (ckk (mC M a0 = 7) (deQ (mR M a0 6)
        (none)
        (fun q1 => ckk (mC M q1 = 100) (ckb (l3 + (4 : Int32)) (mN M q1) (rn jm_Writ_isTrue cl 117 [some (.ref a0), some (.int l1), some (.int l2), some (.int l3), some (.int l4), some (.int l5), some (.int s0)] [.int (aI M q1 (Int32.toNatClampNeg (l3 + (4 : Int32))))] M))))) else
      (ckk (mC M a0 = 7) (deQ (mR M a0 6)
        (none)
        (fun q2 => ckk (mC M q2 = 100) (ckb (l3 + (3 : Int32)) (mN M q2) (rn jm_Writ_isTrue cl 117 [some (.ref a0), some (.int l1), some (.int l2), some (.int l3), some (.int l4), some (.int l5), some (.int s0)] [.int (aI M q2 (Int32.toNatClampNeg (l3 + (3 : Int32))))] M)))))) :=
  tr_eq [19, 27, 90, 91, 117, 124, 134] 11 rfl
set_option maxRecDepth 100000 in
theorem eq_Writ_isTrue_117 (cl : Nat → List Value → ej_Mem → Option ej_R) (a0 : Nat) (l1 : Int32) (l2 : Int32) (l3 : Int32) (l4 : Int32) (l5 : Int32) (l6 : Int32) (s0 : Int32) (M : ej_Mem) : rn jm_Writ_isTrue cl 117 [some (.ref a0), some (.int l1), some (.int l2), some (.int l3), some (.int l4), some (.int l5), some (.int l6)] [.int s0] M =
    rn jm_Writ_isTrue cl 27 [some (.ref a0), some (.int l1), some (.int l2), some (.int s0), some (.int (l4 + (-5 : Int32))), some (.int l5), some (.int l6)] [] M :=
  tr_eq [19, 27, 90, 91, 117, 124, 134] 4 rfl
set_option maxRecDepth 100000 in
theorem eq_Writ_isTrue_124 (cl : Nat → List Value → ej_Mem → Option ej_R) (a0 : Nat) (l1 : Int32) (l2 : Int32) (l3 : Int32) (l4 : Int32) (o5 : Option Value) (o6 : Option Value) (M : ej_Mem) : rn jm_Writ_isTrue cl 124 [some (.ref a0), some (.int l1), some (.int l2), some (.int l3), some (.int l4), o5, o6] [] M =
    (if l3 = (-1 : Int32) then
      (rn jm_Writ_isTrue cl 134 [some (.ref a0), some (.int l1), some (.int l2), some (.int l3), some (.int l4), o5, o6] [.int (1 : Int32)] M) else
      (rn jm_Writ_isTrue cl 134 [some (.ref a0), some (.int l1), some (.int l2), some (.int l3), some (.int l4), o5, o6] [.int (0 : Int32)] M)) :=
  tr_eq [19, 27, 90, 91, 117, 124, 134] 6 rfl
set_option maxRecDepth 100000 in
theorem eq_Writ_isTrue_134 (cl : Nat → List Value → ej_Mem → Option ej_R) (a0 : Nat) (l1 : Int32) (l2 : Int32) (l3 : Int32) (l4 : Int32) (o5 : Option Value) (o6 : Option Value) (s0 : Int32) (M : ej_Mem) : rn jm_Writ_isTrue cl 134 [some (.ref a0), some (.int l1), some (.int l2), some (.int l3), some (.int l4), o5, o6] [.int s0] M =
    ckk (s0 = 0 ∨ s0 = 1) (some (some (.int s0), M)) :=
  tr_eq [19, 27, 90, 91, 117, 124, 134] 1 rfl
theorem ca_Writ_isTrue (d : Nat) (a0 : Nat) (l1 : Int32) (l2 : Int32) (M : ej_Mem) : cal (d + 1) jm_Writ_isTrue [.ref a0, .int l1, .int l2] M = rn jm_Writ_isTrue (cal d) 0 [some (.ref a0), some (.int l1), some (.int l2), none, none, none, none] [] M := call_eq (show 3 ≤ 7 by decide)
set_option maxRecDepth 100000 in
theorem eq_Writ_changed_0 (cl : Nat → List Value → ej_Mem → Option ej_R) (a0 : Nat) (l1 : Int32) (M : ej_Mem) : rn jm_Writ_changed cl 0 [some (.ref a0), some (.int l1)] [] M =
    ckk (mC M a0 = 7) (ckk (mC M a0 = 7) (some (some (.int ((l1 &&& ((mI M a0 1) ^^^ (-1 : Int32))) ||| (mI M a0 0))), M))) :=
  tr_eq [] 10 rfl
theorem ca_Writ_changed (d : Nat) (a0 : Nat) (l1 : Int32) (M : ej_Mem) : cal (d + 1) jm_Writ_changed [.ref a0, .int l1] M = rn jm_Writ_changed (cal d) 0 [some (.ref a0), some (.int l1)] [] M := call_eq (show 2 ≤ 2 by decide)
set_option maxRecDepth 100000 in
theorem eq_Writ_turners_0 (cl : Nat → List Value → ej_Mem → Option ej_R) (a0 : Nat) (l1 : Int32) (M : ej_Mem) : rn jm_Writ_turners cl 0 [some (.ref a0), some (.int l1), none, none] [] M =
    ckk (mC M a0 = 7) (deQ (mR M a0 7)
      (some (some (.int (0 : Int32)), M))
      (fun q1 => rn jm_Writ_turners cl 13 [some (.ref a0), some (.int l1), some (.int (0 : Int32)), some (.int (0 : Int32))] [] M)) :=
  tr_eq [13] 8 rfl
set_option maxRecDepth 100000 in
theorem eq_Writ_turners_13 (cl : Nat → List Value → ej_Mem → Option ej_R) (a0 : Nat) (l1 : Int32) (l2 : Int32) (l3 : Int32) (M : ej_Mem) : rn jm_Writ_turners cl 13 [some (.ref a0), some (.int l1), some (.int l2), some (.int l3)] [] M =
    ckk (mC M a0 = 7) (deQ (mR M a0 7)
      (none)
      (fun q1 => ckk (100 ≤ mC M q1 ∧ mC M q1 ≤ 104) ((if (Int32.ofNat (mN M q1)) ≤ (l3 + (1 : Int32)) then
        (some (some (.int l2), M)) else
        (ckk (mC M a0 = 7) (deQ (mR M a0 7)
          (none)
          (fun q2 => ckk (mC M q2 = 100) (ckb (l3 + (1 : Int32)) (mN M q2) (ckk (mC M a0 = 7) (bkI (cl jm_Writ_isTrue [.ref a0, .int (aI M q2 (Int32.toNatClampNeg (l3 + (1 : Int32)))), .int l1] M) fun x4 M3 =>
          (if x4 = (0 : Int32) then
            (rn jm_Writ_turners cl 13 [some (.ref a0), some (.int l1), some (.int l2), some (.int (l3 + (2 : Int32)))] [] M3) else
            (ckk (mC M3 a0 = 7) (deQ (mR M3 a0 7)
              (none)
              (fun q5 => ckk (mC M3 q5 = 100) (ckb l3 (mN M3 q5) (rn jm_Writ_turners cl 13 [some (.ref a0), some (.int l1), some (.int (l2 ||| ((1 : Int32) <<< ((aI M3 q5 (Int32.toNatClampNeg l3)) &&& 31)))), some (.int (l3 + (2 : Int32)))] [] M3)))))))))))))))) :=
  tr_eq [13] 29 rfl
theorem ca_Writ_turners (d : Nat) (a0 : Nat) (l1 : Int32) (M : ej_Mem) : cal (d + 1) jm_Writ_turners [.ref a0, .int l1] M = rn jm_Writ_turners (cal d) 0 [some (.ref a0), some (.int l1), none, none] [] M := call_eq (show 2 ≤ 4 by decide)
set_option maxRecDepth 100000 in
theorem eq_Intg_bitCount_0f7a4_0 (cl : Nat → List Value → ej_Mem → Option ej_R) (l0 : Int32) (M : ej_Mem) : rn jm_Intg_bitCount_0f7a4 cl 0 [some (.int l0)] [] M =
    some (some (.int ((((((((l0 - ((ej_bin 8 l0 (1 : Int32)) &&& (1431655765 : Int32))) &&& (858993459 : Int32)) + ((ej_bin 8 (l0 - ((ej_bin 8 l0 (1 : Int32)) &&& (1431655765 : Int32))) (2 : Int32)) &&& (858993459 : Int32))) + (ej_bin 8 (((l0 - ((ej_bin 8 l0 (1 : Int32)) &&& (1431655765 : Int32))) &&& (858993459 : Int32)) + ((ej_bin 8 (l0 - ((ej_bin 8 l0 (1 : Int32)) &&& (1431655765 : Int32))) (2 : Int32)) &&& (858993459 : Int32))) (4 : Int32))) &&& (252645135 : Int32)) + (ej_bin 8 (((((l0 - ((ej_bin 8 l0 (1 : Int32)) &&& (1431655765 : Int32))) &&& (858993459 : Int32)) + ((ej_bin 8 (l0 - ((ej_bin 8 l0 (1 : Int32)) &&& (1431655765 : Int32))) (2 : Int32)) &&& (858993459 : Int32))) + (ej_bin 8 (((l0 - ((ej_bin 8 l0 (1 : Int32)) &&& (1431655765 : Int32))) &&& (858993459 : Int32)) + ((ej_bin 8 (l0 - ((ej_bin 8 l0 (1 : Int32)) &&& (1431655765 : Int32))) (2 : Int32)) &&& (858993459 : Int32))) (4 : Int32))) &&& (252645135 : Int32)) (8 : Int32))) + (ej_bin 8 ((((((l0 - ((ej_bin 8 l0 (1 : Int32)) &&& (1431655765 : Int32))) &&& (858993459 : Int32)) + ((ej_bin 8 (l0 - ((ej_bin 8 l0 (1 : Int32)) &&& (1431655765 : Int32))) (2 : Int32)) &&& (858993459 : Int32))) + (ej_bin 8 (((l0 - ((ej_bin 8 l0 (1 : Int32)) &&& (1431655765 : Int32))) &&& (858993459 : Int32)) + ((ej_bin 8 (l0 - ((ej_bin 8 l0 (1 : Int32)) &&& (1431655765 : Int32))) (2 : Int32)) &&& (858993459 : Int32))) (4 : Int32))) &&& (252645135 : Int32)) + (ej_bin 8 (((((l0 - ((ej_bin 8 l0 (1 : Int32)) &&& (1431655765 : Int32))) &&& (858993459 : Int32)) + ((ej_bin 8 (l0 - ((ej_bin 8 l0 (1 : Int32)) &&& (1431655765 : Int32))) (2 : Int32)) &&& (858993459 : Int32))) + (ej_bin 8 (((l0 - ((ej_bin 8 l0 (1 : Int32)) &&& (1431655765 : Int32))) &&& (858993459 : Int32)) + ((ej_bin 8 (l0 - ((ej_bin 8 l0 (1 : Int32)) &&& (1431655765 : Int32))) (2 : Int32)) &&& (858993459 : Int32))) (4 : Int32))) &&& (252645135 : Int32)) (8 : Int32))) (16 : Int32))) &&& (63 : Int32))), M) :=
  tr_eq [] 42 rfl
theorem ca_Intg_bitCount_0f7a4 (d : Nat) (l0 : Int32) (M : ej_Mem) : cal (d + 1) jm_Intg_bitCount_0f7a4 [.int l0] M = rn jm_Intg_bitCount_0f7a4 (cal d) 0 [some (.int l0)] [] M := call_eq (show 1 ≤ 1 by decide)
set_option maxRecDepth 100000 in
theorem eq_Str_length_8abf5_0 (cl : Nat → List Value → ej_Mem → Option ej_R) (a0 : Nat) (M : ej_Mem) : rn jm_Str_length_8abf5 cl 0 [some (.ref a0)] [] M =
    ckk (mC M a0 = 10) (deR (mR M a0 0) fun q1 => ckk (110 ≤ mC M q1 ∧ mC M q1 ≤ 111) (ckk (mC M a0 = 10) (bkI (cl jm_Str_coder_7d493 [.ref a0] M) fun x3 M2 =>
    some (some (.int ((Int32.ofNat (mN M q1)) >>> (x3 &&& 31))), M2)))) :=
  tr_eq [] 7 rfl
theorem ca_Str_length_8abf5 (d : Nat) (a0 : Nat) (M : ej_Mem) : cal (d + 1) jm_Str_length_8abf5 [.ref a0] M = rn jm_Str_length_8abf5 (cal d) 0 [some (.ref a0)] [] M := call_eq (show 1 ≤ 1 by decide)
set_option maxRecDepth 100000 in
theorem eq_Str_charAt_5068e_0 (cl : Nat → List Value → ej_Mem → Option ej_R) (a0 : Nat) (l1 : Int32) (M : ej_Mem) : rn jm_Str_charAt_5068e cl 0 [some (.ref a0), some (.int l1)] [] M =
    ckk (mC M a0 = 10) (bkI (cl jm_Str_isLatin1_aae02 [.ref a0] M) fun x2 M1 =>
    (if x2 = (0 : Int32) then
      (ckk (mC M1 a0 = 10) (deR (mR M1 a0 0) fun q3 => bkI (cl jm_Utf_charAt_3b067 [.ref q3, .int l1] M1) fun x5 M4 =>
      ckk ((Int32.toUInt32 x5 % 65536).toInt32 = x5) (some (some (.int x5), M4)))) else
      (ckk (mC M1 a0 = 10) (deR (mR M1 a0 0) fun q6 => bkI (cl jm_Lat_charAt_3b067 [.ref q6, .int l1] M1) fun x8 M7 =>
      ckk ((Int32.toUInt32 x8 % 65536).toInt32 = x8) (some (some (.int x8), M7)))))) :=
  tr_eq [] 8 rfl
theorem ca_Str_charAt_5068e (d : Nat) (a0 : Nat) (l1 : Int32) (M : ej_Mem) : cal (d + 1) jm_Str_charAt_5068e [.ref a0, .int l1] M = rn jm_Str_charAt_5068e (cal d) 0 [some (.ref a0), some (.int l1)] [] M := call_eq (show 2 ≤ 2 by decide)
set_option maxRecDepth 100000 in
theorem eq_Str_coder_7d493_0 (cl : Nat → List Value → ej_Mem → Option ej_R) (a0 : Nat) (M : ej_Mem) : rn jm_Str_coder_7d493 cl 0 [some (.ref a0)] [] M =
    (if (1 : Int32) = (0 : Int32) then
      (ckk ((Int32.toInt8 (1 : Int32)).toInt32 = (1 : Int32)) (some (some (.int (1 : Int32)), M))) else
      (ckk (mC M a0 = 10) (ckk ((Int32.toInt8 (mI M a0 1)).toInt32 = (mI M a0 1)) (some (some (.int (mI M a0 1)), M))))) :=
  tr_eq [] 6 rfl
theorem ca_Str_coder_7d493 (d : Nat) (a0 : Nat) (M : ej_Mem) : cal (d + 1) jm_Str_coder_7d493 [.ref a0] M = rn jm_Str_coder_7d493 (cal d) 0 [some (.ref a0)] [] M := call_eq (show 1 ≤ 1 by decide)
set_option maxRecDepth 100000 in
theorem eq_Str_isLatin1_aae02_0 (cl : Nat → List Value → ej_Mem → Option ej_R) (a0 : Nat) (M : ej_Mem) : rn jm_Str_isLatin1_aae02 cl 0 [some (.ref a0)] [] M =
    (if (1 : Int32) = (0 : Int32) then
      (ckk ((0 : Int32) = 0 ∨ (0 : Int32) = 1) (some (some (.int (0 : Int32)), M))) else
      (ckk (mC M a0 = 10) ((if (mI M a0 1) = (0 : Int32) then
        (ckk ((1 : Int32) = 0 ∨ (1 : Int32) = 1) (some (some (.int (1 : Int32)), M))) else
        (ckk ((0 : Int32) = 0 ∨ (0 : Int32) = 1) (some (some (.int (0 : Int32)), M))))))) :=
  tr_eq [] 8 rfl
theorem ca_Str_isLatin1_aae02 (d : Nat) (a0 : Nat) (M : ej_Mem) : cal (d + 1) jm_Str_isLatin1_aae02 [.ref a0] M = rn jm_Str_isLatin1_aae02 (cal d) 0 [some (.ref a0)] [] M := call_eq (show 1 ≤ 1 by decide)
set_option maxRecDepth 100000 in
theorem eq_Str_checkIndex_df160_0 (cl : Nat → List Value → ej_Mem → Option ej_R) (l0 : Int32) (l1 : Int32) (M : ej_Mem) : rn jm_Str_checkIndex_df160 cl 0 [some (.int l0), some (.int l1)] [] M =
    bkI (cl jm_Prec_checkIndex_8e157 [.int l0, .int l1, .float 0] M) fun x2 M1 =>
    some (none, M1) :=
  tr_eq [] 6 rfl
theorem ca_Str_checkIndex_df160 (d : Nat) (l0 : Int32) (l1 : Int32) (M : ej_Mem) : cal (d + 1) jm_Str_checkIndex_df160 [.int l0, .int l1] M = rn jm_Str_checkIndex_df160 (cal d) 0 [some (.int l0), some (.int l1)] [] M := call_eq (show 2 ≤ 2 by decide)
set_option maxRecDepth 100000 in
theorem eq_Lat_charAt_3b067_0 (cl : Nat → List Value → ej_Mem → Option ej_R) (a0 : Nat) (l1 : Int32) (M : ej_Mem) : rn jm_Lat_charAt_3b067 cl 0 [some (.ref a0), some (.int l1)] [] M =
    ckk (110 ≤ mC M a0 ∧ mC M a0 ≤ 111) (bkV (cl jm_Str_checkIndex_df160 [.int l1, .int (Int32.ofNat (mN M a0))] M) fun M1 =>
    ckk (mC M1 a0 = 111) (ckb l1 (mN M1 a0) (ckk ((Int32.toUInt32 ((Int32.toUInt32 ((aI M1 a0 (Int32.toNatClampNeg l1)) &&& (255 : Int32)) % 65536).toInt32) % 65536).toInt32 = ((Int32.toUInt32 ((aI M1 a0 (Int32.toNatClampNeg l1)) &&& (255 : Int32)) % 65536).toInt32)) (some (some (.int ((Int32.toUInt32 ((aI M1 a0 (Int32.toNatClampNeg l1)) &&& (255 : Int32)) % 65536).toInt32)), M1))))) :=
  tr_eq [] 11 rfl
theorem ca_Lat_charAt_3b067 (d : Nat) (a0 : Nat) (l1 : Int32) (M : ej_Mem) : cal (d + 1) jm_Lat_charAt_3b067 [.ref a0, .int l1] M = rn jm_Lat_charAt_3b067 (cal d) 0 [some (.ref a0), some (.int l1)] [] M := call_eq (show 2 ≤ 2 by decide)
set_option maxRecDepth 100000 in
theorem eq_Arrs_fill_53178_0 (cl : Nat → List Value → ej_Mem → Option ej_R) (a0 : Nat) (l1 : Int32) (M : ej_Mem) : rn jm_Arrs_fill_53178 cl 0 [some (.ref a0), some (.int l1), none, none] [] M =
    ckk (100 ≤ mC M a0 ∧ mC M a0 ≤ 104) (rn jm_Arrs_fill_53178 cl 5 [some (.ref a0), some (.int l1), some (.int (0 : Int32)), some (.int (Int32.ofNat (mN M a0)))] [] M) :=
  tr_eq [5] 6 rfl
set_option maxRecDepth 100000 in
theorem eq_Arrs_fill_53178_5 (cl : Nat → List Value → ej_Mem → Option ej_R) (a0 : Nat) (l1 : Int32) (l2 : Int32) (l3 : Int32) (M : ej_Mem) : rn jm_Arrs_fill_53178 cl 5 [some (.ref a0), some (.int l1), some (.int l2), some (.int l3)] [] M =
    (if l3 ≤ l2 then
      (some (none, M)) else
      (ckk (mC M a0 = 100) (ckb l2 (mN M a0) (rn jm_Arrs_fill_53178 cl 5 [some (.ref a0), some (.int l1), some (.int (l2 + (1 : Int32))), some (.int l3)] [] (setA M a0 (Int32.toNatClampNeg l2) l1))))) :=
  tr_eq [5] 10 rfl
theorem ca_Arrs_fill_53178 (d : Nat) (a0 : Nat) (l1 : Int32) (M : ej_Mem) : cal (d + 1) jm_Arrs_fill_53178 [.ref a0, .int l1] M = rn jm_Arrs_fill_53178 (cal d) 0 [some (.ref a0), some (.int l1), none, none] [] M := call_eq (show 2 ≤ 4 by decide)
set_option maxRecDepth 100000 in
theorem eq_Arrs_copyOf_59c91_0 (cl : Nat → List Value → ej_Mem → Option ej_R) (a0 : Nat) (l1 : Int32) (M : ej_Mem) : rn jm_Arrs_copyOf_59c91 cl 0 [some (.ref a0), some (.int l1), none] [] M =
    ckk (100 ≤ mC M a0 ∧ mC M a0 ≤ 104) ((if l1 = (Int32.ofNat (mN M a0)) then
      (ckk (mC M a0 = 100 ∧ ej_cats [] ≤ 8) (ckk (mC (cloneM M a0) (mZ M) = 100) (some (some (.ref (mZ M)), (cloneM M a0))))) else
      (ckk (¬ l1 < 0 ∧ Int32.toNatClampNeg l1 ≤ 67108864) (ckk (100 ≤ mC (newM M 100 (Int32.toNatClampNeg l1) (Int32.toNatClampNeg l1)) a0 ∧ mC (newM M 100 (Int32.toNatClampNeg l1) (Int32.toNatClampNeg l1)) a0 ≤ 104) (ckk (ej_cats [.int (0 : Int32), .ref (mZ M), .int (0 : Int32), .ref a0] ≤ 8) (ckk (mC (newM M 100 (Int32.toNatClampNeg l1) (Int32.toNatClampNeg l1)) a0 = 100 ∧ mC (newM M 100 (Int32.toNatClampNeg l1) (Int32.toNatClampNeg l1)) (mZ M) = 100 ∧ ej_cats [] ≤ 8) (ckk (¬ (0 : Int32) < 0 ∧ ¬ (0 : Int32) < 0 ∧ ¬ (if l1 < (Int32.ofNat (mN (newM M 100 (Int32.toNatClampNeg l1) (Int32.toNatClampNeg l1)) a0)) then l1 else Int32.ofNat (mN (newM M 100 (Int32.toNatClampNeg l1) (Int32.toNatClampNeg l1)) a0)) < 0 ∧ (Int32.toNatClampNeg (0 : Int32)) + (Int32.toNatClampNeg (if l1 < (Int32.ofNat (mN (newM M 100 (Int32.toNatClampNeg l1) (Int32.toNatClampNeg l1)) a0)) then l1 else Int32.ofNat (mN (newM M 100 (Int32.toNatClampNeg l1) (Int32.toNatClampNeg l1)) a0))) ≤ mN (newM M 100 (Int32.toNatClampNeg l1) (Int32.toNatClampNeg l1)) a0 ∧ (Int32.toNatClampNeg (0 : Int32)) + (Int32.toNatClampNeg (if l1 < (Int32.ofNat (mN (newM M 100 (Int32.toNatClampNeg l1) (Int32.toNatClampNeg l1)) a0)) then l1 else Int32.ofNat (mN (newM M 100 (Int32.toNatClampNeg l1) (Int32.toNatClampNeg l1)) a0))) ≤ mN (newM M 100 (Int32.toNatClampNeg l1) (Int32.toNatClampNeg l1)) (mZ M)) (some (some (.ref (mZ M)), (cpyM (newM M 100 (Int32.toNatClampNeg l1) (Int32.toNatClampNeg l1)) a0 (Int32.toNatClampNeg (0 : Int32)) (mZ M) (Int32.toNatClampNeg (0 : Int32)) (Int32.toNatClampNeg (if l1 < (Int32.ofNat (mN (newM M 100 (Int32.toNatClampNeg l1) (Int32.toNatClampNeg l1)) a0)) then l1 else Int32.ofNat (mN (newM M 100 (Int32.toNatClampNeg l1) (Int32.toNatClampNeg l1)) a0))))))))))))) :=
  tr_eq [] 18 rfl
theorem ca_Arrs_copyOf_59c91 (d : Nat) (a0 : Nat) (l1 : Int32) (M : ej_Mem) : cal (d + 1) jm_Arrs_copyOf_59c91 [.ref a0, .int l1] M = rn jm_Arrs_copyOf_59c91 (cal d) 0 [some (.ref a0), some (.int l1), none] [] M := call_eq (show 2 ≤ 3 by decide)
set_option maxRecDepth 100000 in
theorem eq_Prec_checkIndex_8e157_0 (cl : Nat → List Value → ej_Mem → Option ej_R) (l0 : Int32) (l1 : Int32) (M : ej_Mem) : rn jm_Prec_checkIndex_8e157 cl 0 [some (.int l0), some (.int l1), some (.float 0)] [] M =
    (if l0 < (0 : Int32) then
      (none) else
      ((if l0 < l1 then
        (some (some (.int l0), M)) else
        (none)))) :=
  tr_eq [] 9 rfl
theorem ca_Prec_checkIndex_8e157 (d : Nat) (l0 : Int32) (l1 : Int32) (M : ej_Mem) : cal (d + 1) jm_Prec_checkIndex_8e157 [.int l0, .int l1, .float 0] M = rn jm_Prec_checkIndex_8e157 (cal d) 0 [some (.int l0), some (.int l1), some (.float 0)] [] M := call_eq (show 3 ≤ 3 by decide)
