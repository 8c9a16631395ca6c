/-! equations of the methods: from the entry and each loop head a tree of tests; written by wip/gen/eqs.py -/
set_option maxRecDepth 100000 in
theorem eq_Law_law_0 (cl : Nat → List Value → ej_Mem → Option ej_R) (a0 : Nat) (M : ej_Mem) : rn jm_Law_law cl 0 [some (.ref a0), none, none, none] [] M =
    bkV (cl jm_Suit_init [.ref (mZ M)] (newM M 8 0 9)) fun M1 =>
    bkV (cl jm_Ref_init [.ref (mZ M1)] (newM M1 9 0 59)) fun M2 =>
    rn jm_Law_law cl 18 [some (.ref a0), some (.ref (mZ M)), some (.ref (mZ M1)), some (.int (0 : Int32))] [] M2 :=
  tr_eb [18, 180, 243, 266, 289, 332, 355, 388, 411, 444, 497, 530, 563, 616, 639, 662, 685, 708, 751, 804, 857, 910, 954, 1007, 1040, 1073, 1106, 1129, 1162, 1195, 1228, 1291, 1314, 1337, 1360] 11 rfl
set_option maxRecDepth 100000 in
theorem eq_Law_law_18 (cl : Nat → List Value → ej_Mem → Option ej_R) (a0 : Nat) (a1 : Nat) (a2 : Nat) (l3 : Int32) (M : ej_Mem) : rn jm_Law_law cl 18 [some (.ref a0), some (.ref a1), some (.ref a2), some (.int l3)] [] M =
    ckk (110 ≤ mC M a0 ∧ mC M a0 ≤ 111) ((if ((Int32.ofNat (mN M a0)) - (6 : Int32)) < l3 then
      (ckk ((1 : Int32) = 0 ∨ (1 : Int32) = 1) (some (some (.int (1 : Int32)), M))) else
      (ckk (mC M a0 = 110) (ckb l3 (mN M a0) ((if ((aI M a0 (Int32.toNatClampNeg l3)) &&& (63 : Int32)) = (0 : Int32) then
        (rn jm_Law_law cl 180 [some (.ref a0), some (.ref a1), some (.ref a2), some (.int l3)] [] M) else if ((aI M a0 (Int32.toNatClampNeg l3)) &&& (63 : Int32)) = (1 : Int32) then
        (rn jm_Law_law cl 243 [some (.ref a0), some (.ref a1), some (.ref a2), some (.int l3)] [] M) else if ((aI M a0 (Int32.toNatClampNeg l3)) &&& (63 : Int32)) = (2 : Int32) then
        (rn jm_Law_law cl 266 [some (.ref a0), some (.ref a1), some (.ref a2), some (.int l3)] [] M) else if ((aI M a0 (Int32.toNatClampNeg l3)) &&& (63 : Int32)) = (3 : Int32) then
        (rn jm_Law_law cl 289 [some (.ref a0), some (.ref a1), some (.ref a2), some (.int l3)] [] M) else if ((aI M a0 (Int32.toNatClampNeg l3)) &&& (63 : Int32)) = (4 : Int32) then
        (rn jm_Law_law cl 332 [some (.ref a0), some (.ref a1), some (.ref a2), some (.int l3)] [] M) else if ((aI M a0 (Int32.toNatClampNeg l3)) &&& (63 : Int32)) = (5 : Int32) then
        (rn jm_Law_law cl 355 [some (.ref a0), some (.ref a1), some (.ref a2), some (.int l3)] [] M) else if ((aI M a0 (Int32.toNatClampNeg l3)) &&& (63 : Int32)) = (6 : Int32) then
        (rn jm_Law_law cl 388 [some (.ref a0), some (.ref a1), some (.ref a2), some (.int l3)] [] M) else if ((aI M a0 (Int32.toNatClampNeg l3)) &&& (63 : Int32)) = (7 : Int32) then
        (rn jm_Law_law cl 411 [some (.ref a0), some (.ref a1), some (.ref a2), some (.int l3)] [] M) else if ((aI M a0 (Int32.toNatClampNeg l3)) &&& (63 : Int32)) = (8 : Int32) then
        (rn jm_Law_law cl 444 [some (.ref a0), some (.ref a1), some (.ref a2), some (.int l3)] [] M) else if ((aI M a0 (Int32.toNatClampNeg l3)) &&& (63 : Int32)) = (9 : Int32) then
        (rn jm_Law_law cl 497 [some (.ref a0), some (.ref a1), some (.ref a2), some (.int l3)] [] M) else if ((aI M a0 (Int32.toNatClampNeg l3)) &&& (63 : Int32)) = (10 : Int32) then
        (rn jm_Law_law cl 530 [some (.ref a0), some (.ref a1), some (.ref a2), some (.int l3)] [] M) else if ((aI M a0 (Int32.toNatClampNeg l3)) &&& (63 : Int32)) = (11 : Int32) then
        (rn jm_Law_law cl 563 [some (.ref a0), some (.ref a1), some (.ref a2), some (.int l3)] [] M) else if ((aI M a0 (Int32.toNatClampNeg l3)) &&& (63 : Int32)) = (12 : Int32) then
        (rn jm_Law_law cl 616 [some (.ref a0), some (.ref a1), some (.ref a2), some (.int l3)] [] M) else if ((aI M a0 (Int32.toNatClampNeg l3)) &&& (63 : Int32)) = (13 : Int32) then
        (rn jm_Law_law cl 639 [some (.ref a0), some (.ref a1), some (.ref a2), some (.int l3)] [] M) else if ((aI M a0 (Int32.toNatClampNeg l3)) &&& (63 : Int32)) = (14 : Int32) then
        (rn jm_Law_law cl 662 [some (.ref a0), some (.ref a1), some (.ref a2), some (.int l3)] [] M) else if ((aI M a0 (Int32.toNatClampNeg l3)) &&& (63 : Int32)) = (15 : Int32) then
        (rn jm_Law_law cl 685 [some (.ref a0), some (.ref a1), some (.ref a2), some (.int l3)] [] M) else if ((aI M a0 (Int32.toNatClampNeg l3)) &&& (63 : Int32)) = (16 : Int32) then
        (rn jm_Law_law cl 708 [some (.ref a0), some (.ref a1), some (.ref a2), some (.int l3)] [] M) else if ((aI M a0 (Int32.toNatClampNeg l3)) &&& (63 : Int32)) = (17 : Int32) then
        (rn jm_Law_law cl 751 [some (.ref a0), some (.ref a1), some (.ref a2), some (.int l3)] [] M) else if ((aI M a0 (Int32.toNatClampNeg l3)) &&& (63 : Int32)) = (18 : Int32) then
        (rn jm_Law_law cl 804 [some (.ref a0), some (.ref a1), some (.ref a2), some (.int l3)] [] M) else if ((aI M a0 (Int32.toNatClampNeg l3)) &&& (63 : Int32)) = (19 : Int32) then
        (rn jm_Law_law cl 857 [some (.ref a0), some (.ref a1), some (.ref a2), some (.int l3)] [] M) else if ((aI M a0 (Int32.toNatClampNeg l3)) &&& (63 : Int32)) = (20 : Int32) then
        (rn jm_Law_law cl 910 [some (.ref a0), some (.ref a1), some (.ref a2), some (.int l3)] [] M) else if ((aI M a0 (Int32.toNatClampNeg l3)) &&& (63 : Int32)) = (21 : Int32) then
        (rn jm_Law_law cl 954 [some (.ref a0), some (.ref a1), some (.ref a2), some (.int l3)] [] M) else if ((aI M a0 (Int32.toNatClampNeg l3)) &&& (63 : Int32)) = (22 : Int32) then
        (rn jm_Law_law cl 1007 [some (.ref a0), some (.ref a1), some (.ref a2), some (.int l3)] [] M) else if ((aI M a0 (Int32.toNatClampNeg l3)) &&& (63 : Int32)) = (23 : Int32) then
        (rn jm_Law_law cl 1040 [some (.ref a0), some (.ref a1), some (.ref a2), some (.int l3)] [] M) else if ((aI M a0 (Int32.toNatClampNeg l3)) &&& (63 : Int32)) = (24 : Int32) then
        (rn jm_Law_law cl 1073 [some (.ref a0), some (.ref a1), some (.ref a2), some (.int l3)] [] M) else if ((aI M a0 (Int32.toNatClampNeg l3)) &&& (63 : Int32)) = (25 : Int32) then
        (rn jm_Law_law cl 1106 [some (.ref a0), some (.ref a1), some (.ref a2), some (.int l3)] [] M) else if ((aI M a0 (Int32.toNatClampNeg l3)) &&& (63 : Int32)) = (26 : Int32) then
        (rn jm_Law_law cl 1129 [some (.ref a0), some (.ref a1), some (.ref a2), some (.int l3)] [] M) else if ((aI M a0 (Int32.toNatClampNeg l3)) &&& (63 : Int32)) = (27 : Int32) then
        (rn jm_Law_law cl 1162 [some (.ref a0), some (.ref a1), some (.ref a2), some (.int l3)] [] M) else if ((aI M a0 (Int32.toNatClampNeg l3)) &&& (63 : Int32)) = (28 : Int32) then
        (rn jm_Law_law cl 1195 [some (.ref a0), some (.ref a1), some (.ref a2), some (.int l3)] [] M) else if ((aI M a0 (Int32.toNatClampNeg l3)) &&& (63 : Int32)) = (29 : Int32) then
        (rn jm_Law_law cl 1228 [some (.ref a0), some (.ref a1), some (.ref a2), some (.int l3)] [] M) else if ((aI M a0 (Int32.toNatClampNeg l3)) &&& (63 : Int32)) = (30 : Int32) then
        (rn jm_Law_law cl 1291 [some (.ref a0), some (.ref a1), some (.ref a2), some (.int l3)] [] M) else if ((aI M a0 (Int32.toNatClampNeg l3)) &&& (63 : Int32)) = (31 : Int32) then
        (rn jm_Law_law cl 1314 [some (.ref a0), some (.ref a1), some (.ref a2), some (.int l3)] [] M) else if ((aI M a0 (Int32.toNatClampNeg l3)) &&& (63 : Int32)) = (32 : Int32) then
        (rn jm_Law_law cl 1337 [some (.ref a0), some (.ref a1), some (.ref a2), some (.int l3)] [] M) else (rn jm_Law_law cl 1360 [some (.ref a0), some (.ref a1), some (.ref a2), some (.int l3)] [] M))))))) :=
  tr_eb [18, 180, 243, 266, 289, 332, 355, 388, 411, 444, 497, 530, 563, 616, 639, 662, 685, 708, 751, 804, 857, 910, 954, 1007, 1040, 1073, 1106, 1129, 1162, 1195, 1228, 1291, 1314, 1337, 1360] 13 rfl
set_option maxRecDepth 100000 in
theorem eq_Law_law_180 (cl : Nat → List Value → ej_Mem → Option ej_R) (a0 : Nat) (a1 : Nat) (a2 : Nat) (l3 : Int32) (M : ej_Mem) : rn jm_Law_law cl 180 [some (.ref a0), some (.ref a1), some (.ref a2), some (.int l3)] [] M =
    ckk (mC M a0 = 110) (ckb (l3 + (1 : Int32)) (mN M a0) (ckk (mC M a0 = 110) (ckb (l3 + (2 : Int32)) (mN M a0) (ckk (mC M a0 = 110) (ckb (l3 + (3 : Int32)) (mN M a0) (ckk (mC M a0 = 110) (ckb (l3 + (4 : Int32)) (mN M a0) (ckk (mC M a0 = 110) (ckb (l3 + (5 : Int32)) (mN M a0) (ckk (mC M a1 = 8) (bkI (cl jm_Suit_feed [.ref a1, .int (aI M a0 (Int32.toNatClampNeg (l3 + (1 : Int32)))), .int (aI M a0 (Int32.toNatClampNeg (l3 + (2 : Int32)))), .int (aI M a0 (Int32.toNatClampNeg (l3 + (3 : Int32)))), .int (aI M a0 (Int32.toNatClampNeg (l3 + (4 : Int32)))), .int (aI M a0 (Int32.toNatClampNeg (l3 + (5 : Int32))))] M) fun x2 M1 =>
    ckk (mC M1 a0 = 110) (ckb (l3 + (1 : Int32)) (mN M1 a0) (ckk (mC M1 a0 = 110) (ckb (l3 + (2 : Int32)) (mN M1 a0) (ckk (mC M1 a0 = 110) (ckb (l3 + (3 : Int32)) (mN M1 a0) (ckk (mC M1 a0 = 110) (ckb (l3 + (4 : Int32)) (mN M1 a0) (ckk (mC M1 a0 = 110) (ckb (l3 + (5 : Int32)) (mN M1 a0) (ckk (mC M1 a2 = 9) (bkI (cl jm_Ref_feed [.ref a2, .int (aI M1 a0 (Int32.toNatClampNeg (l3 + (1 : Int32)))), .int (aI M1 a0 (Int32.toNatClampNeg (l3 + (2 : Int32)))), .int (aI M1 a0 (Int32.toNatClampNeg (l3 + (3 : Int32)))), .int (aI M1 a0 (Int32.toNatClampNeg (l3 + (4 : Int32)))), .int (aI M1 a0 (Int32.toNatClampNeg (l3 + (5 : Int32))))] M1) fun x4 M3 =>
    (if x2 = x4 then
      (rn jm_Law_law cl 1360 [some (.ref a0), some (.ref a1), some (.ref a2), some (.int l3)] [] M3) else
      (ckk ((0 : Int32) = 0 ∨ (0 : Int32) = 1) (some (some (.int (0 : Int32)), M3)))))))))))))))))))))))))) :=
  tr_eb [18, 180, 243, 266, 289, 332, 355, 388, 411, 444, 497, 530, 563, 616, 639, 662, 685, 708, 751, 804, 857, 910, 954, 1007, 1040, 1073, 1106, 1129, 1162, 1195, 1228, 1291, 1314, 1337, 1360] 57 rfl
set_option maxRecDepth 100000 in
theorem eq_Law_law_243 (cl : Nat → List Value → ej_Mem → Option ej_R) (a0 : Nat) (a1 : Nat) (a2 : Nat) (l3 : Int32) (M : ej_Mem) : rn jm_Law_law cl 243 [some (.ref a0), some (.ref a1), some (.ref a2), some (.int l3)] [] M =
    ckk (mC M a0 = 110) (ckb (l3 + (1 : Int32)) (mN M a0) (ckk (mC M a1 = 8) (bkI (cl jm_Suit_end [.ref a1, .int (aI M a0 (Int32.toNatClampNeg (l3 + (1 : Int32))))] M) fun x2 M1 =>
    ckk (mC M1 a0 = 110) (ckb (l3 + (1 : Int32)) (mN M1 a0) (ckk (mC M1 a2 = 9) (bkI (cl jm_Ref_end [.ref a2, .int (aI M1 a0 (Int32.toNatClampNeg (l3 + (1 : Int32))))] M1) fun x4 M3 =>
    (if x2 = x4 then
      (rn jm_Law_law cl 1360 [some (.ref a0), some (.ref a1), some (.ref a2), some (.int l3)] [] M3) else
      (ckk ((0 : Int32) = 0 ∨ (0 : Int32) = 1) (some (some (.int (0 : Int32)), M3)))))))))) :=
  tr_eb [18, 180, 243, 266, 289, 332, 355, 388, 411, 444, 497, 530, 563, 616, 639, 662, 685, 708, 751, 804, 857, 910, 954, 1007, 1040, 1073, 1106, 1129, 1162, 1195, 1228, 1291, 1314, 1337, 1360] 17 rfl
set_option maxRecDepth 100000 in
theorem eq_Law_law_266 (cl : Nat → List Value → ej_Mem → Option ej_R) (a0 : Nat) (a1 : Nat) (a2 : Nat) (l3 : Int32) (M : ej_Mem) : rn jm_Law_law cl 266 [some (.ref a0), some (.ref a1), some (.ref a2), some (.int l3)] [] M =
    ckk (mC M a0 = 110) (ckb (l3 + (1 : Int32)) (mN M a0) (ckk (mC M a1 = 8) (bkI (cl jm_Suit_text [.ref a1, .int (aI M a0 (Int32.toNatClampNeg (l3 + (1 : Int32))))] M) fun x2 M1 =>
    ckk (mC M1 a0 = 110) (ckb (l3 + (1 : Int32)) (mN M1 a0) (ckk (mC M1 a2 = 9) (bkI (cl jm_Ref_text [.ref a2, .int (aI M1 a0 (Int32.toNatClampNeg (l3 + (1 : Int32))))] M1) fun x4 M3 =>
    (if x2 = x4 then
      (rn jm_Law_law cl 1360 [some (.ref a0), some (.ref a1), some (.ref a2), some (.int l3)] [] M3) else
      (ckk ((0 : Int32) = 0 ∨ (0 : Int32) = 1) (some (some (.int (0 : Int32)), M3)))))))))) :=
  tr_eb [18, 180, 243, 266, 289, 332, 355, 388, 411, 444, 497, 530, 563, 616, 639, 662, 685, 708, 751, 804, 857, 910, 954, 1007, 1040, 1073, 1106, 1129, 1162, 1195, 1228, 1291, 1314, 1337, 1360] 17 rfl
set_option maxRecDepth 100000 in
theorem eq_Law_law_289 (cl : Nat → List Value → ej_Mem → Option ej_R) (a0 : Nat) (a1 : Nat) (a2 : Nat) (l3 : Int32) (M : ej_Mem) : rn jm_Law_law cl 289 [some (.ref a0), some (.ref a1), some (.ref a2), some (.int l3)] [] M =
    ckk (mC M a0 = 110) (ckb (l3 + (1 : Int32)) (mN M a0) (ckk (mC M a0 = 110) (ckb (l3 + (2 : Int32)) (mN M a0) (ckk (mC M a0 = 110) (ckb (l3 + (3 : Int32)) (mN M a0) (ckk (mC M a1 = 8) (bkI (cl jm_Suit_open [.ref a1, .int (aI M a0 (Int32.toNatClampNeg (l3 + (1 : Int32)))), .int (aI M a0 (Int32.toNatClampNeg (l3 + (2 : Int32)))), .int (aI M a0 (Int32.toNatClampNeg (l3 + (3 : Int32))))] M) fun x2 M1 =>
    ckk (mC M1 a0 = 110) (ckb (l3 + (1 : Int32)) (mN M1 a0) (ckk (mC M1 a0 = 110) (ckb (l3 + (2 : Int32)) (mN M1 a0) (ckk (mC M1 a0 = 110) (ckb (l3 + (3 : Int32)) (mN M1 a0) (ckk (mC M1 a2 = 9) (bkI (cl jm_Ref_open [.ref a2, .int (aI M1 a0 (Int32.toNatClampNeg (l3 + (1 : Int32)))), .int (aI M1 a0 (Int32.toNatClampNeg (l3 + (2 : Int32)))), .int (aI M1 a0 (Int32.toNatClampNeg (l3 + (3 : Int32))))] M1) fun x4 M3 =>
    (if x2 = x4 then
      (rn jm_Law_law cl 1360 [some (.ref a0), some (.ref a1), some (.ref a2), some (.int l3)] [] M3) else
      (ckk ((0 : Int32) = 0 ∨ (0 : Int32) = 1) (some (some (.int (0 : Int32)), M3)))))))))))))))))) :=
  tr_eb [18, 180, 243, 266, 289, 332, 355, 388, 411, 444, 497, 530, 563, 616, 639, 662, 685, 708, 751, 804, 857, 910, 954, 1007, 1040, 1073, 1106, 1129, 1162, 1195, 1228, 1291, 1314, 1337, 1360] 37 rfl
set_option maxRecDepth 100000 in
theorem eq_Law_law_332 (cl : Nat → List Value → ej_Mem → Option ej_R) (a0 : Nat) (a1 : Nat) (a2 : Nat) (l3 : Int32) (M : ej_Mem) : rn jm_Law_law cl 332 [some (.ref a0), some (.ref a1), some (.ref a2), some (.int l3)] [] M =
    ckk (mC M a0 = 110) (ckb (l3 + (1 : Int32)) (mN M a0) (ckk (mC M a1 = 8) (bkI (cl jm_Suit_force [.ref a1, .int (aI M a0 (Int32.toNatClampNeg (l3 + (1 : Int32))))] M) fun x2 M1 =>
    ckk (mC M1 a0 = 110) (ckb (l3 + (1 : Int32)) (mN M1 a0) (ckk (mC M1 a2 = 9) (bkI (cl jm_Ref_force [.ref a2, .int (aI M1 a0 (Int32.toNatClampNeg (l3 + (1 : Int32))))] M1) fun x4 M3 =>
    (if x2 = x4 then
      (rn jm_Law_law cl 1360 [some (.ref a0), some (.ref a1), some (.ref a2), some (.int l3)] [] M3) else
      (ckk ((0 : Int32) = 0 ∨ (0 : Int32) = 1) (some (some (.int (0 : Int32)), M3)))))))))) :=
  tr_eb [18, 180, 243, 266, 289, 332, 355, 388, 411, 444, 497, 530, 563, 616, 639, 662, 685, 708, 751, 804, 857, 910, 954, 1007, 1040, 1073, 1106, 1129, 1162, 1195, 1228, 1291, 1314, 1337, 1360] 17 rfl
set_option maxRecDepth 100000 in
theorem eq_Law_law_355 (cl : Nat → List Value → ej_Mem → Option ej_R) (a0 : Nat) (a1 : Nat) (a2 : Nat) (l3 : Int32) (M : ej_Mem) : rn jm_Law_law cl 355 [some (.ref a0), some (.ref a1), some (.ref a2), some (.int l3)] [] M =
    ckk (mC M a0 = 110) (ckb (l3 + (1 : Int32)) (mN M a0) (ckk (mC M a0 = 110) (ckb (l3 + (2 : Int32)) (mN M a0) (ckk (mC M a1 = 8) (bkI (cl jm_Suit_holds [.ref a1, .int (aI M a0 (Int32.toNatClampNeg (l3 + (1 : Int32)))), .int (aI M a0 (Int32.toNatClampNeg (l3 + (2 : Int32))))] M) fun x2 M1 =>
    ckk (mC M1 a0 = 110) (ckb (l3 + (1 : Int32)) (mN M1 a0) (ckk (mC M1 a0 = 110) (ckb (l3 + (2 : Int32)) (mN M1 a0) (ckk (mC M1 a2 = 9) (bkI (cl jm_Ref_holds [.ref a2, .int (aI M1 a0 (Int32.toNatClampNeg (l3 + (1 : Int32)))), .int (aI M1 a0 (Int32.toNatClampNeg (l3 + (2 : Int32))))] M1) fun x4 M3 =>
    (if x2 = x4 then
      (rn jm_Law_law cl 1360 [some (.ref a0), some (.ref a1), some (.ref a2), some (.int l3)] [] M3) else
      (ckk ((0 : Int32) = 0 ∨ (0 : Int32) = 1) (some (some (.int (0 : Int32)), M3)))))))))))))) :=
  tr_eb [18, 180, 243, 266, 289, 332, 355, 388, 411, 444, 497, 530, 563, 616, 639, 662, 685, 708, 751, 804, 857, 910, 954, 1007, 1040, 1073, 1106, 1129, 1162, 1195, 1228, 1291, 1314, 1337, 1360] 27 rfl
set_option maxRecDepth 100000 in
theorem eq_Law_law_388 (cl : Nat → List Value → ej_Mem → Option ej_R) (a0 : Nat) (a1 : Nat) (a2 : Nat) (l3 : Int32) (M : ej_Mem) : rn jm_Law_law cl 388 [some (.ref a0), some (.ref a1), some (.ref a2), some (.int l3)] [] M =
    ckk (mC M a0 = 110) (ckb (l3 + (1 : Int32)) (mN M a0) (ckk (mC M a1 = 8) (bkI (cl jm_Suit_first [.ref a1, .int (aI M a0 (Int32.toNatClampNeg (l3 + (1 : Int32))))] M) fun x2 M1 =>
    ckk (mC M1 a0 = 110) (ckb (l3 + (1 : Int32)) (mN M1 a0) (ckk (mC M1 a2 = 9) (bkI (cl jm_Ref_first [.ref a2, .int (aI M1 a0 (Int32.toNatClampNeg (l3 + (1 : Int32))))] M1) fun x4 M3 =>
    (if x2 = x4 then
      (rn jm_Law_law cl 1360 [some (.ref a0), some (.ref a1), some (.ref a2), some (.int l3)] [] M3) else
      (ckk ((0 : Int32) = 0 ∨ (0 : Int32) = 1) (some (some (.int (0 : Int32)), M3)))))))))) :=
  tr_eb [18, 180, 243, 266, 289, 332, 355, 388, 411, 444, 497, 530, 563, 616, 639, 662, 685, 708, 751, 804, 857, 910, 954, 1007, 1040, 1073, 1106, 1129, 1162, 1195, 1228, 1291, 1314, 1337, 1360] 17 rfl
set_option maxRecDepth 100000 in
theorem eq_Law_law_411 (cl : Nat → List Value → ej_Mem → Option ej_R) (a0 : Nat) (a1 : Nat) (a2 : Nat) (l3 : Int32) (M : ej_Mem) : rn jm_Law_law cl 411 [some (.ref a0), some (.ref a1), some (.ref a2), some (.int l3)] [] M =
    ckk (mC M a0 = 110) (ckb (l3 + (1 : Int32)) (mN M a0) (ckk (mC M a0 = 110) (ckb (l3 + (2 : Int32)) (mN M a0) (ckk (mC M a1 = 8) (bkI (cl jm_Suit_wished [.ref a1, .int (aI M a0 (Int32.toNatClampNeg (l3 + (1 : Int32)))), .int (aI M a0 (Int32.toNatClampNeg (l3 + (2 : Int32))))] M) fun x2 M1 =>
    ckk (mC M1 a0 = 110) (ckb (l3 + (1 : Int32)) (mN M1 a0) (ckk (mC M1 a0 = 110) (ckb (l3 + (2 : Int32)) (mN M1 a0) (ckk (mC M1 a2 = 9) (bkI (cl jm_Ref_wished [.ref a2, .int (aI M1 a0 (Int32.toNatClampNeg (l3 + (1 : Int32)))), .int (aI M1 a0 (Int32.toNatClampNeg (l3 + (2 : Int32))))] M1) fun x4 M3 =>
    (if x2 = x4 then
      (rn jm_Law_law cl 1360 [some (.ref a0), some (.ref a1), some (.ref a2), some (.int l3)] [] M3) else
      (ckk ((0 : Int32) = 0 ∨ (0 : Int32) = 1) (some (some (.int (0 : Int32)), M3)))))))))))))) :=
  tr_eb [18, 180, 243, 266, 289, 332, 355, 388, 411, 444, 497, 530, 563, 616, 639, 662, 685, 708, 751, 804, 857, 910, 954, 1007, 1040, 1073, 1106, 1129, 1162, 1195, 1228, 1291, 1314, 1337, 1360] 27 rfl
set_option maxRecDepth 100000 in
theorem eq_Law_law_444 (cl : Nat → List Value → ej_Mem → Option ej_R) (a0 : Nat) (a1 : Nat) (a2 : Nat) (l3 : Int32) (M : ej_Mem) : rn jm_Law_law cl 444 [some (.ref a0), some (.ref a1), some (.ref a2), some (.int l3)] [] M =
    ckk (mC M a0 = 110) (ckb (l3 + (1 : Int32)) (mN M a0) (ckk (mC M a0 = 110) (ckb (l3 + (2 : Int32)) (mN M a0) (ckk (mC M a0 = 110) (ckb (l3 + (3 : Int32)) (mN M a0) (ckk (mC M a0 = 110) (ckb (l3 + (4 : Int32)) (mN M a0) (ckk (mC M a1 = 8) (bkI (cl jm_Suit_may [.ref a1, .int (aI M a0 (Int32.toNatClampNeg (l3 + (1 : Int32)))), .int (aI M a0 (Int32.toNatClampNeg (l3 + (2 : Int32)))), .int (aI M a0 (Int32.toNatClampNeg (l3 + (3 : Int32)))), .int (aI M a0 (Int32.toNatClampNeg (l3 + (4 : Int32))))] M) fun x2 M1 =>
    ckk (mC M1 a0 = 110) (ckb (l3 + (1 : Int32)) (mN M1 a0) (ckk (mC M1 a0 = 110) (ckb (l3 + (2 : Int32)) (mN M1 a0) (ckk (mC M1 a0 = 110) (ckb (l3 + (3 : Int32)) (mN M1 a0) (ckk (mC M1 a0 = 110) (ckb (l3 + (4 : Int32)) (mN M1 a0) (ckk (mC M1 a2 = 9) (bkI (cl jm_Ref_may [.ref a2, .int (aI M1 a0 (Int32.toNatClampNeg (l3 + (1 : Int32)))), .int (aI M1 a0 (Int32.toNatClampNeg (l3 + (2 : Int32)))), .int (aI M1 a0 (Int32.toNatClampNeg (l3 + (3 : Int32)))), .int (aI M1 a0 (Int32.toNatClampNeg (l3 + (4 : Int32))))] M1) fun x4 M3 =>
    (if x2 = x4 then
      (rn jm_Law_law cl 1360 [some (.ref a0), some (.ref a1), some (.ref a2), some (.int l3)] [] M3) else
      (ckk ((0 : Int32) = 0 ∨ (0 : Int32) = 1) (some (some (.int (0 : Int32)), M3)))))))))))))))))))))) :=
  tr_eb [18, 180, 243, 266, 289, 332, 355, 388, 411, 444, 497, 530, 563, 616, 639, 662, 685, 708, 751, 804, 857, 910, 954, 1007, 1040, 1073, 1106, 1129, 1162, 1195, 1228, 1291, 1314, 1337, 1360] 47 rfl
set_option maxRecDepth 100000 in
theorem eq_Law_law_497 (cl : Nat → List Value → ej_Mem → Option ej_R) (a0 : Nat) (a1 : Nat) (a2 : Nat) (l3 : Int32) (M : ej_Mem) : rn jm_Law_law cl 497 [some (.ref a0), some (.ref a1), some (.ref a2), some (.int l3)] [] M =
    ckk (mC M a0 = 110) (ckb (l3 + (1 : Int32)) (mN M a0) (ckk (mC M a0 = 110) (ckb (l3 + (2 : Int32)) (mN M a0) (ckk (mC M a1 = 8) (bkI (cl jm_Suit_after [.ref a1, .int (aI M a0 (Int32.toNatClampNeg (l3 + (1 : Int32)))), .int (aI M a0 (Int32.toNatClampNeg (l3 + (2 : Int32))))] M) fun x2 M1 =>
    ckk (mC M1 a0 = 110) (ckb (l3 + (1 : Int32)) (mN M1 a0) (ckk (mC M1 a0 = 110) (ckb (l3 + (2 : Int32)) (mN M1 a0) (ckk (mC M1 a2 = 9) (bkI (cl jm_Ref_after [.ref a2, .int (aI M1 a0 (Int32.toNatClampNeg (l3 + (1 : Int32)))), .int (aI M1 a0 (Int32.toNatClampNeg (l3 + (2 : Int32))))] M1) fun x4 M3 =>
    (if x2 = x4 then
      (rn jm_Law_law cl 1360 [some (.ref a0), some (.ref a1), some (.ref a2), some (.int l3)] [] M3) else
      (ckk ((0 : Int32) = 0 ∨ (0 : Int32) = 1) (some (some (.int (0 : Int32)), M3)))))))))))))) :=
  tr_eb [18, 180, 243, 266, 289, 332, 355, 388, 411, 444, 497, 530, 563, 616, 639, 662, 685, 708, 751, 804, 857, 910, 954, 1007, 1040, 1073, 1106, 1129, 1162, 1195, 1228, 1291, 1314, 1337, 1360] 27 rfl
set_option maxRecDepth 100000 in
theorem eq_Law_law_530 (cl : Nat → List Value → ej_Mem → Option ej_R) (a0 : Nat) (a1 : Nat) (a2 : Nat) (l3 : Int32) (M : ej_Mem) : rn jm_Law_law cl 530 [some (.ref a0), some (.ref a1), some (.ref a2), some (.int l3)] [] M =
    ckk (mC M a0 = 110) (ckb (l3 + (1 : Int32)) (mN M a0) (ckk (mC M a0 = 110) (ckb (l3 + (2 : Int32)) (mN M a0) (ckk (mC M a1 = 8) (bkI (cl jm_Suit_turned [.ref a1, .int (aI M a0 (Int32.toNatClampNeg (l3 + (1 : Int32)))), .int (aI M a0 (Int32.toNatClampNeg (l3 + (2 : Int32))))] M) fun x2 M1 =>
    ckk (mC M1 a0 = 110) (ckb (l3 + (1 : Int32)) (mN M1 a0) (ckk (mC M1 a0 = 110) (ckb (l3 + (2 : Int32)) (mN M1 a0) (ckk (mC M1 a2 = 9) (bkI (cl jm_Ref_turned [.ref a2, .int (aI M1 a0 (Int32.toNatClampNeg (l3 + (1 : Int32)))), .int (aI M1 a0 (Int32.toNatClampNeg (l3 + (2 : Int32))))] M1) fun x4 M3 =>
    (if x2 = x4 then
      (rn jm_Law_law cl 1360 [some (.ref a0), some (.ref a1), some (.ref a2), some (.int l3)] [] M3) else
      (ckk ((0 : Int32) = 0 ∨ (0 : Int32) = 1) (some (some (.int (0 : Int32)), M3)))))))))))))) :=
  tr_eb [18, 180, 243, 266, 289, 332, 355, 388, 411, 444, 497, 530, 563, 616, 639, 662, 685, 708, 751, 804, 857, 910, 954, 1007, 1040, 1073, 1106, 1129, 1162, 1195, 1228, 1291, 1314, 1337, 1360] 27 rfl
set_option maxRecDepth 100000 in
theorem eq_Law_law_563 (cl : Nat → List Value → ej_Mem → Option ej_R) (a0 : Nat) (a1 : Nat) (a2 : Nat) (l3 : Int32) (M : ej_Mem) : rn jm_Law_law cl 563 [some (.ref a0), some (.ref a1), some (.ref a2), some (.int l3)] [] M =
    ckk (mC M a0 = 110) (ckb (l3 + (1 : Int32)) (mN M a0) (ckk (mC M a0 = 110) (ckb (l3 + (2 : Int32)) (mN M a0) (ckk (mC M a0 = 110) (ckb (l3 + (3 : Int32)) (mN M a0) (ckk (mC M a0 = 110) (ckb (l3 + (4 : Int32)) (mN M a0) (ckk (mC M a1 = 8) (bkI (cl jm_Suit_search [.ref a1, .int (aI M a0 (Int32.toNatClampNeg (l3 + (1 : Int32)))), .int (aI M a0 (Int32.toNatClampNeg (l3 + (2 : Int32)))), .int (aI M a0 (Int32.toNatClampNeg (l3 + (3 : Int32)))), .int (aI M a0 (Int32.toNatClampNeg (l3 + (4 : Int32))))] M) fun x2 M1 =>
    ckk (mC M1 a0 = 110) (ckb (l3 + (1 : Int32)) (mN M1 a0) (ckk (mC M1 a0 = 110) (ckb (l3 + (2 : Int32)) (mN M1 a0) (ckk (mC M1 a0 = 110) (ckb (l3 + (3 : Int32)) (mN M1 a0) (ckk (mC M1 a0 = 110) (ckb (l3 + (4 : Int32)) (mN M1 a0) (ckk (mC M1 a2 = 9) (bkI (cl jm_Ref_search [.ref a2, .int (aI M1 a0 (Int32.toNatClampNeg (l3 + (1 : Int32)))), .int (aI M1 a0 (Int32.toNatClampNeg (l3 + (2 : Int32)))), .int (aI M1 a0 (Int32.toNatClampNeg (l3 + (3 : Int32)))), .int (aI M1 a0 (Int32.toNatClampNeg (l3 + (4 : Int32))))] M1) fun x4 M3 =>
    (if x2 = x4 then
      (rn jm_Law_law cl 1360 [some (.ref a0), some (.ref a1), some (.ref a2), some (.int l3)] [] M3) else
      (ckk ((0 : Int32) = 0 ∨ (0 : Int32) = 1) (some (some (.int (0 : Int32)), M3)))))))))))))))))))))) :=
  tr_eb [18, 180, 243, 266, 289, 332, 355, 388, 411, 444, 497, 530, 563, 616, 639, 662, 685, 708, 751, 804, 857, 910, 954, 1007, 1040, 1073, 1106, 1129, 1162, 1195, 1228, 1291, 1314, 1337, 1360] 47 rfl
set_option maxRecDepth 100000 in
theorem eq_Law_law_616 (cl : Nat → List Value → ej_Mem → Option ej_R) (a0 : Nat) (a1 : Nat) (a2 : Nat) (l3 : Int32) (M : ej_Mem) : rn jm_Law_law cl 616 [some (.ref a0), some (.ref a1), some (.ref a2), some (.int l3)] [] M =
    ckk (mC M a0 = 110) (ckb (l3 + (1 : Int32)) (mN M a0) (ckk (mC M a1 = 8) (bkI (cl jm_Suit_go [.ref a1, .int (aI M a0 (Int32.toNatClampNeg (l3 + (1 : Int32))))] M) fun x2 M1 =>
    ckk (mC M1 a0 = 110) (ckb (l3 + (1 : Int32)) (mN M1 a0) (ckk (mC M1 a2 = 9) (bkI (cl jm_Ref_go [.ref a2, .int (aI M1 a0 (Int32.toNatClampNeg (l3 + (1 : Int32))))] M1) fun x4 M3 =>
    (if x2 = x4 then
      (rn jm_Law_law cl 1360 [some (.ref a0), some (.ref a1), some (.ref a2), some (.int l3)] [] M3) else
      (ckk ((0 : Int32) = 0 ∨ (0 : Int32) = 1) (some (some (.int (0 : Int32)), M3)))))))))) :=
  tr_eb [18, 180, 243, 266, 289, 332, 355, 388, 411, 444, 497, 530, 563, 616, 639, 662, 685, 708, 751, 804, 857, 910, 954, 1007, 1040, 1073, 1106, 1129, 1162, 1195, 1228, 1291, 1314, 1337, 1360] 17 rfl
set_option maxRecDepth 100000 in
theorem eq_Law_law_639 (cl : Nat → List Value → ej_Mem → Option ej_R) (a0 : Nat) (a1 : Nat) (a2 : Nat) (l3 : Int32) (M : ej_Mem) : rn jm_Law_law cl 639 [some (.ref a0), some (.ref a1), some (.ref a2), some (.int l3)] [] M =
    ckk (mC M a0 = 110) (ckb (l3 + (1 : Int32)) (mN M a0) (ckk (mC M a1 = 8) (bkI (cl jm_Suit_sought [.ref a1, .int (aI M a0 (Int32.toNatClampNeg (l3 + (1 : Int32))))] M) fun x2 M1 =>
    ckk (mC M1 a0 = 110) (ckb (l3 + (1 : Int32)) (mN M1 a0) (ckk (mC M1 a2 = 9) (bkI (cl jm_Ref_sought [.ref a2, .int (aI M1 a0 (Int32.toNatClampNeg (l3 + (1 : Int32))))] M1) fun x4 M3 =>
    (if x2 = x4 then
      (rn jm_Law_law cl 1360 [some (.ref a0), some (.ref a1), some (.ref a2), some (.int l3)] [] M3) else
      (ckk ((0 : Int32) = 0 ∨ (0 : Int32) = 1) (some (some (.int (0 : Int32)), M3)))))))))) :=
  tr_eb [18, 180, 243, 266, 289, 332, 355, 388, 411, 444, 497, 530, 563, 616, 639, 662, 685, 708, 751, 804, 857, 910, 954, 1007, 1040, 1073, 1106, 1129, 1162, 1195, 1228, 1291, 1314, 1337, 1360] 17 rfl
set_option maxRecDepth 100000 in
theorem eq_Law_law_662 (cl : Nat → List Value → ej_Mem → Option ej_R) (a0 : Nat) (a1 : Nat) (a2 : Nat) (l3 : Int32) (M : ej_Mem) : rn jm_Law_law cl 662 [some (.ref a0), some (.ref a1), some (.ref a2), some (.int l3)] [] M =
    ckk (mC M a0 = 110) (ckb (l3 + (1 : Int32)) (mN M a0) (ckk (mC M a1 = 8) (bkI (cl jm_Suit_row [.ref a1, .int (aI M a0 (Int32.toNatClampNeg (l3 + (1 : Int32))))] M) fun x2 M1 =>
    ckk (mC M1 a0 = 110) (ckb (l3 + (1 : Int32)) (mN M1 a0) (ckk (mC M1 a2 = 9) (bkI (cl jm_Ref_row [.ref a2, .int (aI M1 a0 (Int32.toNatClampNeg (l3 + (1 : Int32))))] M1) fun x4 M3 =>
    (if x2 = x4 then
      (rn jm_Law_law cl 1360 [some (.ref a0), some (.ref a1), some (.ref a2), some (.int l3)] [] M3) else
      (ckk ((0 : Int32) = 0 ∨ (0 : Int32) = 1) (some (some (.int (0 : Int32)), M3)))))))))) :=
  tr_eb [18, 180, 243, 266, 289, 332, 355, 388, 411, 444, 497, 530, 563, 616, 639, 662, 685, 708, 751, 804, 857, 910, 954, 1007, 1040, 1073, 1106, 1129, 1162, 1195, 1228, 1291, 1314, 1337, 1360] 17 rfl
set_option maxRecDepth 100000 in
theorem eq_Law_law_685 (cl : Nat → List Value → ej_Mem → Option ej_R) (a0 : Nat) (a1 : Nat) (a2 : Nat) (l3 : Int32) (M : ej_Mem) : rn jm_Law_law cl 685 [some (.ref a0), some (.ref a1), some (.ref a2), some (.int l3)] [] M =
    ckk (mC M a0 = 110) (ckb (l3 + (1 : Int32)) (mN M a0) (ckk (mC M a1 = 8) (bkI (cl jm_Suit_met [.ref a1, .int (aI M a0 (Int32.toNatClampNeg (l3 + (1 : Int32))))] M) fun x2 M1 =>
    ckk (mC M1 a0 = 110) (ckb (l3 + (1 : Int32)) (mN M1 a0) (ckk (mC M1 a2 = 9) (bkI (cl jm_Ref_met [.ref a2, .int (aI M1 a0 (Int32.toNatClampNeg (l3 + (1 : Int32))))] M1) fun x4 M3 =>
    (if x2 = x4 then
      (rn jm_Law_law cl 1360 [some (.ref a0), some (.ref a1), some (.ref a2), some (.int l3)] [] M3) else
      (ckk ((0 : Int32) = 0 ∨ (0 : Int32) = 1) (some (some (.int (0 : Int32)), M3)))))))))) :=
  tr_eb [18, 180, 243, 266, 289, 332, 355, 388, 411, 444, 497, 530, 563, 616, 639, 662, 685, 708, 751, 804, 857, 910, 954, 1007, 1040, 1073, 1106, 1129, 1162, 1195, 1228, 1291, 1314, 1337, 1360] 17 rfl
set_option maxRecDepth 100000 in
theorem eq_Law_law_708 (cl : Nat → List Value → ej_Mem → Option ej_R) (a0 : Nat) (a1 : Nat) (a2 : Nat) (l3 : Int32) (M : ej_Mem) : rn jm_Law_law cl 708 [some (.ref a0), some (.ref a1), some (.ref a2), some (.int l3)] [] M =
    ckk (mC M a0 = 110) (ckb (l3 + (1 : Int32)) (mN M a0) (ckk (mC M a0 = 110) (ckb (l3 + (2 : Int32)) (mN M a0) (ckk (mC M a0 = 110) (ckb (l3 + (3 : Int32)) (mN M a0) (ckk (mC M a1 = 8) (bkI (cl jm_Suit_reached [.ref a1, .int (aI M a0 (Int32.toNatClampNeg (l3 + (1 : Int32)))), .int (aI M a0 (Int32.toNatClampNeg (l3 + (2 : Int32)))), .int (aI M a0 (Int32.toNatClampNeg (l3 + (3 : Int32))))] M) fun x2 M1 =>
    ckk (mC M1 a0 = 110) (ckb (l3 + (1 : Int32)) (mN M1 a0) (ckk (mC M1 a0 = 110) (ckb (l3 + (2 : Int32)) (mN M1 a0) (ckk (mC M1 a0 = 110) (ckb (l3 + (3 : Int32)) (mN M1 a0) (ckk (mC M1 a2 = 9) (bkI (cl jm_Ref_reached [.ref a2, .int (aI M1 a0 (Int32.toNatClampNeg (l3 + (1 : Int32)))), .int (aI M1 a0 (Int32.toNatClampNeg (l3 + (2 : Int32)))), .int (aI M1 a0 (Int32.toNatClampNeg (l3 + (3 : Int32))))] M1) fun x4 M3 =>
    (if x2 = x4 then
      (rn jm_Law_law cl 1360 [some (.ref a0), some (.ref a1), some (.ref a2), some (.int l3)] [] M3) else
      (ckk ((0 : Int32) = 0 ∨ (0 : Int32) = 1) (some (some (.int (0 : Int32)), M3)))))))))))))))))) :=
  tr_eb [18, 180, 243, 266, 289, 332, 355, 388, 411, 444, 497, 530, 563, 616, 639, 662, 685, 708, 751, 804, 857, 910, 954, 1007, 1040, 1073, 1106, 1129, 1162, 1195, 1228, 1291, 1314, 1337, 1360] 37 rfl
set_option maxRecDepth 100000 in
theorem eq_Law_law_751 (cl : Nat → List Value → ej_Mem → Option ej_R) (a0 : Nat) (a1 : Nat) (a2 : Nat) (l3 : Int32) (M : ej_Mem) : rn jm_Law_law cl 751 [some (.ref a0), some (.ref a1), some (.ref a2), some (.int l3)] [] M =
    ckk (mC M a0 = 110) (ckb (l3 + (1 : Int32)) (mN M a0) (ckk (mC M a0 = 110) (ckb (l3 + (2 : Int32)) (mN M a0) (ckk (mC M a0 = 110) (ckb (l3 + (3 : Int32)) (mN M a0) (ckk (mC M a0 = 110) (ckb (l3 + (4 : Int32)) (mN M a0) (ckk (mC M a1 = 8) (bkI (cl jm_Suit_fewest [.ref a1, .int (aI M a0 (Int32.toNatClampNeg (l3 + (1 : Int32)))), .int (aI M a0 (Int32.toNatClampNeg (l3 + (2 : Int32)))), .int (aI M a0 (Int32.toNatClampNeg (l3 + (3 : Int32)))), .int (aI M a0 (Int32.toNatClampNeg (l3 + (4 : Int32))))] M) fun x2 M1 =>
    ckk (mC M1 a0 = 110) (ckb (l3 + (1 : Int32)) (mN M1 a0) (ckk (mC M1 a0 = 110) (ckb (l3 + (2 : Int32)) (mN M1 a0) (ckk (mC M1 a0 = 110) (ckb (l3 + (3 : Int32)) (mN M1 a0) (ckk (mC M1 a0 = 110) (ckb (l3 + (4 : Int32)) (mN M1 a0) (ckk (mC M1 a2 = 9) (bkI (cl jm_Ref_fewest [.ref a2, .int (aI M1 a0 (Int32.toNatClampNeg (l3 + (1 : Int32)))), .int (aI M1 a0 (Int32.toNatClampNeg (l3 + (2 : Int32)))), .int (aI M1 a0 (Int32.toNatClampNeg (l3 + (3 : Int32)))), .int (aI M1 a0 (Int32.toNatClampNeg (l3 + (4 : Int32))))] M1) fun x4 M3 =>
    (if x2 = x4 then
      (rn jm_Law_law cl 1360 [some (.ref a0), some (.ref a1), some (.ref a2), some (.int l3)] [] M3) else
      (ckk ((0 : Int32) = 0 ∨ (0 : Int32) = 1) (some (some (.int (0 : Int32)), M3)))))))))))))))))))))) :=
  tr_eb [18, 180, 243, 266, 289, 332, 355, 388, 411, 444, 497, 530, 563, 616, 639, 662, 685, 708, 751, 804, 857, 910, 954, 1007, 1040, 1073, 1106, 1129, 1162, 1195, 1228, 1291, 1314, 1337, 1360] 47 rfl
set_option maxRecDepth 100000 in
theorem eq_Law_law_804 (cl : Nat → List Value → ej_Mem → Option ej_R) (a0 : Nat) (a1 : Nat) (a2 : Nat) (l3 : Int32) (M : ej_Mem) : rn jm_Law_law cl 804 [some (.ref a0), some (.ref a1), some (.ref a2), some (.int l3)] [] M =
    ckk (mC M a0 = 110) (ckb (l3 + (1 : Int32)) (mN M a0) (ckk (mC M a0 = 110) (ckb (l3 + (2 : Int32)) (mN M a0) (ckk (mC M a0 = 110) (ckb (l3 + (3 : Int32)) (mN M a0) (ckk (mC M a0 = 110) (ckb (l3 + (4 : Int32)) (mN M a0) (ckk (mC M a1 = 8) (bkI (cl jm_Suit_least [.ref a1, .int (aI M a0 (Int32.toNatClampNeg (l3 + (1 : Int32)))), .int (aI M a0 (Int32.toNatClampNeg (l3 + (2 : Int32)))), .int (aI M a0 (Int32.toNatClampNeg (l3 + (3 : Int32)))), .int (aI M a0 (Int32.toNatClampNeg (l3 + (4 : Int32))))] M) fun x2 M1 =>
    ckk (mC M1 a0 = 110) (ckb (l3 + (1 : Int32)) (mN M1 a0) (ckk (mC M1 a0 = 110) (ckb (l3 + (2 : Int32)) (mN M1 a0) (ckk (mC M1 a0 = 110) (ckb (l3 + (3 : Int32)) (mN M1 a0) (ckk (mC M1 a0 = 110) (ckb (l3 + (4 : Int32)) (mN M1 a0) (ckk (mC M1 a2 = 9) (bkI (cl jm_Ref_least [.ref a2, .int (aI M1 a0 (Int32.toNatClampNeg (l3 + (1 : Int32)))), .int (aI M1 a0 (Int32.toNatClampNeg (l3 + (2 : Int32)))), .int (aI M1 a0 (Int32.toNatClampNeg (l3 + (3 : Int32)))), .int (aI M1 a0 (Int32.toNatClampNeg (l3 + (4 : Int32))))] M1) fun x4 M3 =>
    (if x2 = x4 then
      (rn jm_Law_law cl 1360 [some (.ref a0), some (.ref a1), some (.ref a2), some (.int l3)] [] M3) else
      (ckk ((0 : Int32) = 0 ∨ (0 : Int32) = 1) (some (some (.int (0 : Int32)), M3)))))))))))))))))))))) :=
  tr_eb [18, 180, 243, 266, 289, 332, 355, 388, 411, 444, 497, 530, 563, 616, 639, 662, 685, 708, 751, 804, 857, 910, 954, 1007, 1040, 1073, 1106, 1129, 1162, 1195, 1228, 1291, 1314, 1337, 1360] 47 rfl
set_option maxRecDepth 100000 in
theorem eq_Law_law_857 (cl : Nat → List Value → ej_Mem → Option ej_R) (a0 : Nat) (a1 : Nat) (a2 : Nat) (l3 : Int32) (M : ej_Mem) : rn jm_Law_law cl 857 [some (.ref a0), some (.ref a1), some (.ref a2), some (.int l3)] [] M =
    ckk (mC M a0 = 110) (ckb (l3 + (1 : Int32)) (mN M a0) (ckk (mC M a0 = 110) (ckb (l3 + (2 : Int32)) (mN M a0) (ckk (mC M a0 = 110) (ckb (l3 + (3 : Int32)) (mN M a0) (ckk (mC M a0 = 110) (ckb (l3 + (4 : Int32)) (mN M a0) (ckk (mC M a1 = 8) (bkI (cl jm_Suit_safe [.ref a1, .int (aI M a0 (Int32.toNatClampNeg (l3 + (1 : Int32)))), .int (aI M a0 (Int32.toNatClampNeg (l3 + (2 : Int32)))), .int (aI M a0 (Int32.toNatClampNeg (l3 + (3 : Int32)))), .int (aI M a0 (Int32.toNatClampNeg (l3 + (4 : Int32))))] M) fun x2 M1 =>
    ckk (mC M1 a0 = 110) (ckb (l3 + (1 : Int32)) (mN M1 a0) (ckk (mC M1 a0 = 110) (ckb (l3 + (2 : Int32)) (mN M1 a0) (ckk (mC M1 a0 = 110) (ckb (l3 + (3 : Int32)) (mN M1 a0) (ckk (mC M1 a0 = 110) (ckb (l3 + (4 : Int32)) (mN M1 a0) (ckk (mC M1 a2 = 9) (bkI (cl jm_Ref_safe [.ref a2, .int (aI M1 a0 (Int32.toNatClampNeg (l3 + (1 : Int32)))), .int (aI M1 a0 (Int32.toNatClampNeg (l3 + (2 : Int32)))), .int (aI M1 a0 (Int32.toNatClampNeg (l3 + (3 : Int32)))), .int (aI M1 a0 (Int32.toNatClampNeg (l3 + (4 : Int32))))] M1) fun x4 M3 =>
    (if x2 = x4 then
      (rn jm_Law_law cl 1360 [some (.ref a0), some (.ref a1), some (.ref a2), some (.int l3)] [] M3) else
      (ckk ((0 : Int32) = 0 ∨ (0 : Int32) = 1) (some (some (.int (0 : Int32)), M3)))))))))))))))))))))) :=
  tr_eb [18, 180, 243, 266, 289, 332, 355, 388, 411, 444, 497, 530, 563, 616, 639, 662, 685, 708, 751, 804, 857, 910, 954, 1007, 1040, 1073, 1106, 1129, 1162, 1195, 1228, 1291, 1314, 1337, 1360] 47 rfl
set_option maxRecDepth 100000 in
theorem eq_Law_law_910 (cl : Nat → List Value → ej_Mem → Option ej_R) (a0 : Nat) (a1 : Nat) (a2 : Nat) (l3 : Int32) (M : ej_Mem) : rn jm_Law_law cl 910 [some (.ref a0), some (.ref a1), some (.ref a2), some (.int l3)] [] M =
    ckk (mC M a0 = 110) (ckb (l3 + (1 : Int32)) (mN M a0) (ckk (mC M a0 = 110) (ckb (l3 + (2 : Int32)) (mN M a0) (ckk (mC M a0 = 110) (ckb (l3 + (3 : Int32)) (mN M a0) (ckk (mC M a1 = 8) (bkJ (cl jm_Suit_keys [.ref a1, .int (aI M a0 (Int32.toNatClampNeg (l3 + (1 : Int32)))), .int (aI M a0 (Int32.toNatClampNeg (l3 + (2 : Int32)))), .int (aI M a0 (Int32.toNatClampNeg (l3 + (3 : Int32))))] M) fun x2 M1 =>
    ckk (mC M1 a0 = 110) (ckb (l3 + (1 : Int32)) (mN M1 a0) (ckk (mC M1 a0 = 110) (ckb (l3 + (2 : Int32)) (mN M1 a0) (ckk (mC M1 a0 = 110) (ckb (l3 + (3 : Int32)) (mN M1 a0) (ckk (mC M1 a2 = 9) (bkJ (cl jm_Ref_keys [.ref a2, .int (aI M1 a0 (Int32.toNatClampNeg (l3 + (1 : Int32)))), .int (aI M1 a0 (Int32.toNatClampNeg (l3 + (2 : Int32)))), .int (aI M1 a0 (Int32.toNatClampNeg (l3 + (3 : Int32))))] M1) fun x4 M3 =>
    (if (lg_cmp x2 x4) = (0 : Int32) then
      (rn jm_Law_law cl 1360 [some (.ref a0), some (.ref a1), some (.ref a2), some (.int l3)] [] M3) else
      (ckk ((0 : Int32) = 0 ∨ (0 : Int32) = 1) (some (some (.int (0 : Int32)), M3)))))))))))))))))) :=
  tr_eb [18, 180, 243, 266, 289, 332, 355, 388, 411, 444, 497, 530, 563, 616, 639, 662, 685, 708, 751, 804, 857, 910, 954, 1007, 1040, 1073, 1106, 1129, 1162, 1195, 1228, 1291, 1314, 1337, 1360] 38 rfl
set_option maxRecDepth 100000 in
theorem eq_Law_law_954 (cl : Nat → List Value → ej_Mem → Option ej_R) (a0 : Nat) (a1 : Nat) (a2 : Nat) (l3 : Int32) (M : ej_Mem) : rn jm_Law_law cl 954 [some (.ref a0), some (.ref a1), some (.ref a2), some (.int l3)] [] M =
    ckk (mC M a0 = 110) (ckb (l3 + (1 : Int32)) (mN M a0) (ckk (mC M a0 = 110) (ckb (l3 + (2 : Int32)) (mN M a0) (ckk (mC M a0 = 110) (ckb (l3 + (3 : Int32)) (mN M a0) (ckk (mC M a0 = 110) (ckb (l3 + (4 : Int32)) (mN M a0) (ckk (mC M a1 = 8) (bkI (cl jm_Suit_last [.ref a1, .int (aI M a0 (Int32.toNatClampNeg (l3 + (1 : Int32)))), .int (aI M a0 (Int32.toNatClampNeg (l3 + (2 : Int32)))), .int (aI M a0 (Int32.toNatClampNeg (l3 + (3 : Int32)))), .int (aI M a0 (Int32.toNatClampNeg (l3 + (4 : Int32))))] M) fun x2 M1 =>
    ckk (mC M1 a0 = 110) (ckb (l3 + (1 : Int32)) (mN M1 a0) (ckk (mC M1 a0 = 110) (ckb (l3 + (2 : Int32)) (mN M1 a0) (ckk (mC M1 a0 = 110) (ckb (l3 + (3 : Int32)) (mN M1 a0) (ckk (mC M1 a0 = 110) (ckb (l3 + (4 : Int32)) (mN M1 a0) (ckk (mC M1 a2 = 9) (bkI (cl jm_Ref_last [.ref a2, .int (aI M1 a0 (Int32.toNatClampNeg (l3 + (1 : Int32)))), .int (aI M1 a0 (Int32.toNatClampNeg (l3 + (2 : Int32)))), .int (aI M1 a0 (Int32.toNatClampNeg (l3 + (3 : Int32)))), .int (aI M1 a0 (Int32.toNatClampNeg (l3 + (4 : Int32))))] M1) fun x4 M3 =>
    (if x2 = x4 then
      (rn jm_Law_law cl 1360 [some (.ref a0), some (.ref a1), some (.ref a2), some (.int l3)] [] M3) else
      (ckk ((0 : Int32) = 0 ∨ (0 : Int32) = 1) (some (some (.int (0 : Int32)), M3)))))))))))))))))))))) :=
  tr_eb [18, 180, 243, 266, 289, 332, 355, 388, 411, 444, 497, 530, 563, 616, 639, 662, 685, 708, 751, 804, 857, 910, 954, 1007, 1040, 1073, 1106, 1129, 1162, 1195, 1228, 1291, 1314, 1337, 1360] 47 rfl
set_option maxRecDepth 100000 in
theorem eq_Law_law_1007 (cl : Nat → List Value → ej_Mem → Option ej_R) (a0 : Nat) (a1 : Nat) (a2 : Nat) (l3 : Int32) (M : ej_Mem) : rn jm_Law_law cl 1007 [some (.ref a0), some (.ref a1), some (.ref a2), some (.int l3)] [] M =
    ckk (mC M a0 = 110) (ckb (l3 + (1 : Int32)) (mN M a0) (ckk (mC M a0 = 110) (ckb (l3 + (2 : Int32)) (mN M a0) (ckk (mC M a1 = 8) (bkI (cl jm_Suit_roll [.ref a1, .int (aI M a0 (Int32.toNatClampNeg (l3 + (1 : Int32)))), .int (aI M a0 (Int32.toNatClampNeg (l3 + (2 : Int32))))] M) fun x2 M1 =>
    ckk (mC M1 a0 = 110) (ckb (l3 + (1 : Int32)) (mN M1 a0) (ckk (mC M1 a0 = 110) (ckb (l3 + (2 : Int32)) (mN M1 a0) (ckk (mC M1 a2 = 9) (bkI (cl jm_Ref_roll [.ref a2, .int (aI M1 a0 (Int32.toNatClampNeg (l3 + (1 : Int32)))), .int (aI M1 a0 (Int32.toNatClampNeg (l3 + (2 : Int32))))] M1) fun x4 M3 =>
    (if x2 = x4 then
      (rn jm_Law_law cl 1360 [some (.ref a0), some (.ref a1), some (.ref a2), some (.int l3)] [] M3) else
      (ckk ((0 : Int32) = 0 ∨ (0 : Int32) = 1) (some (some (.int (0 : Int32)), M3)))))))))))))) :=
  tr_eb [18, 180, 243, 266, 289, 332, 355, 388, 411, 444, 497, 530, 563, 616, 639, 662, 685, 708, 751, 804, 857, 910, 954, 1007, 1040, 1073, 1106, 1129, 1162, 1195, 1228, 1291, 1314, 1337, 1360] 27 rfl
set_option maxRecDepth 100000 in
theorem eq_Law_law_1040 (cl : Nat → List Value → ej_Mem → Option ej_R) (a0 : Nat) (a1 : Nat) (a2 : Nat) (l3 : Int32) (M : ej_Mem) : rn jm_Law_law cl 1040 [some (.ref a0), some (.ref a1), some (.ref a2), some (.int l3)] [] M =
    ckk (mC M a0 = 110) (ckb (l3 + (1 : Int32)) (mN M a0) (ckk (mC M a0 = 110) (ckb (l3 + (2 : Int32)) (mN M a0) (ckk (mC M a1 = 8) (bkI (cl jm_Suit_enter [.ref a1, .int (aI M a0 (Int32.toNatClampNeg (l3 + (1 : Int32)))), .int (aI M a0 (Int32.toNatClampNeg (l3 + (2 : Int32))))] M) fun x2 M1 =>
    ckk (mC M1 a0 = 110) (ckb (l3 + (1 : Int32)) (mN M1 a0) (ckk (mC M1 a0 = 110) (ckb (l3 + (2 : Int32)) (mN M1 a0) (ckk (mC M1 a2 = 9) (bkI (cl jm_Ref_enter [.ref a2, .int (aI M1 a0 (Int32.toNatClampNeg (l3 + (1 : Int32)))), .int (aI M1 a0 (Int32.toNatClampNeg (l3 + (2 : Int32))))] M1) fun x4 M3 =>
    (if x2 = x4 then
      (rn jm_Law_law cl 1360 [some (.ref a0), some (.ref a1), some (.ref a2), some (.int l3)] [] M3) else
      (ckk ((0 : Int32) = 0 ∨ (0 : Int32) = 1) (some (some (.int (0 : Int32)), M3)))))))))))))) :=
  tr_eb [18, 180, 243, 266, 289, 332, 355, 388, 411, 444, 497, 530, 563, 616, 639, 662, 685, 708, 751, 804, 857, 910, 954, 1007, 1040, 1073, 1106, 1129, 1162, 1195, 1228, 1291, 1314, 1337, 1360] 27 rfl
set_option maxRecDepth 100000 in
theorem eq_Law_law_1073 (cl : Nat → List Value → ej_Mem → Option ej_R) (a0 : Nat) (a1 : Nat) (a2 : Nat) (l3 : Int32) (M : ej_Mem) : rn jm_Law_law cl 1073 [some (.ref a0), some (.ref a1), some (.ref a2), some (.int l3)] [] M =
    ckk (mC M a0 = 110) (ckb (l3 + (1 : Int32)) (mN M a0) (ckk (mC M a0 = 110) (ckb (l3 + (2 : Int32)) (mN M a0) (ckk (mC M a1 = 8) (bkI (cl jm_Suit_judged [.ref a1, .int (aI M a0 (Int32.toNatClampNeg (l3 + (1 : Int32)))), .int (aI M a0 (Int32.toNatClampNeg (l3 + (2 : Int32))))] M) fun x2 M1 =>
    ckk (mC M1 a0 = 110) (ckb (l3 + (1 : Int32)) (mN M1 a0) (ckk (mC M1 a0 = 110) (ckb (l3 + (2 : Int32)) (mN M1 a0) (ckk (mC M1 a2 = 9) (bkI (cl jm_Ref_judged [.ref a2, .int (aI M1 a0 (Int32.toNatClampNeg (l3 + (1 : Int32)))), .int (aI M1 a0 (Int32.toNatClampNeg (l3 + (2 : Int32))))] M1) fun x4 M3 =>
    (if x2 = x4 then
      (rn jm_Law_law cl 1360 [some (.ref a0), some (.ref a1), some (.ref a2), some (.int l3)] [] M3) else
      (ckk ((0 : Int32) = 0 ∨ (0 : Int32) = 1) (some (some (.int (0 : Int32)), M3)))))))))))))) :=
  tr_eb [18, 180, 243, 266, 289, 332, 355, 388, 411, 444, 497, 530, 563, 616, 639, 662, 685, 708, 751, 804, 857, 910, 954, 1007, 1040, 1073, 1106, 1129, 1162, 1195, 1228, 1291, 1314, 1337, 1360] 27 rfl
set_option maxRecDepth 100000 in
theorem eq_Law_law_1106 (cl : Nat → List Value → ej_Mem → Option ej_R) (a0 : Nat) (a1 : Nat) (a2 : Nat) (l3 : Int32) (M : ej_Mem) : rn jm_Law_law cl 1106 [some (.ref a0), some (.ref a1), some (.ref a2), some (.int l3)] [] M =
    ckk (mC M a0 = 110) (ckb (l3 + (1 : Int32)) (mN M a0) (ckk (mC M a1 = 8) (bkI (cl jm_Suit_feigned [.ref a1, .int (aI M a0 (Int32.toNatClampNeg (l3 + (1 : Int32))))] M) fun x2 M1 =>
    ckk (mC M1 a0 = 110) (ckb (l3 + (1 : Int32)) (mN M1 a0) (ckk (mC M1 a2 = 9) (bkI (cl jm_Ref_feigned [.ref a2, .int (aI M1 a0 (Int32.toNatClampNeg (l3 + (1 : Int32))))] M1) fun x4 M3 =>
    (if x2 = x4 then
      (rn jm_Law_law cl 1360 [some (.ref a0), some (.ref a1), some (.ref a2), some (.int l3)] [] M3) else
      (ckk ((0 : Int32) = 0 ∨ (0 : Int32) = 1) (some (some (.int (0 : Int32)), M3)))))))))) :=
  tr_eb [18, 180, 243, 266, 289, 332, 355, 388, 411, 444, 497, 530, 563, 616, 639, 662, 685, 708, 751, 804, 857, 910, 954, 1007, 1040, 1073, 1106, 1129, 1162, 1195, 1228, 1291, 1314, 1337, 1360] 17 rfl
set_option maxRecDepth 100000 in
theorem eq_Law_law_1129 (cl : Nat → List Value → ej_Mem → Option ej_R) (a0 : Nat) (a1 : Nat) (a2 : Nat) (l3 : Int32) (M : ej_Mem) : rn jm_Law_law cl 1129 [some (.ref a0), some (.ref a1), some (.ref a2), some (.int l3)] [] M =
    ckk (mC M a0 = 110) (ckb (l3 + (1 : Int32)) (mN M a0) (ckk (mC M a0 = 110) (ckb (l3 + (2 : Int32)) (mN M a0) (ckk (mC M a1 = 8) (bkI (cl jm_Suit_claims [.ref a1, .int (aI M a0 (Int32.toNatClampNeg (l3 + (1 : Int32)))), .int (aI M a0 (Int32.toNatClampNeg (l3 + (2 : Int32))))] M) fun x2 M1 =>
    ckk (mC M1 a0 = 110) (ckb (l3 + (1 : Int32)) (mN M1 a0) (ckk (mC M1 a0 = 110) (ckb (l3 + (2 : Int32)) (mN M1 a0) (ckk (mC M1 a2 = 9) (bkI (cl jm_Ref_claims [.ref a2, .int (aI M1 a0 (Int32.toNatClampNeg (l3 + (1 : Int32)))), .int (aI M1 a0 (Int32.toNatClampNeg (l3 + (2 : Int32))))] M1) fun x4 M3 =>
    (if x2 = x4 then
      (rn jm_Law_law cl 1360 [some (.ref a0), some (.ref a1), some (.ref a2), some (.int l3)] [] M3) else
      (ckk ((0 : Int32) = 0 ∨ (0 : Int32) = 1) (some (some (.int (0 : Int32)), M3)))))))))))))) :=
  tr_eb [18, 180, 243, 266, 289, 332, 355, 388, 411, 444, 497, 530, 563, 616, 639, 662, 685, 708, 751, 804, 857, 910, 954, 1007, 1040, 1073, 1106, 1129, 1162, 1195, 1228, 1291, 1314, 1337, 1360] 27 rfl
set_option maxRecDepth 100000 in
theorem eq_Law_law_1162 (cl : Nat → List Value → ej_Mem → Option ej_R) (a0 : Nat) (a1 : Nat) (a2 : Nat) (l3 : Int32) (M : ej_Mem) : rn jm_Law_law cl 1162 [some (.ref a0), some (.ref a1), some (.ref a2), some (.int l3)] [] M =
    ckk (mC M a0 = 110) (ckb (l3 + (1 : Int32)) (mN M a0) (ckk (mC M a0 = 110) (ckb (l3 + (2 : Int32)) (mN M a0) (ckk (mC M a1 = 8) (bkI (cl jm_Suit_risk [.ref a1, .int (aI M a0 (Int32.toNatClampNeg (l3 + (1 : Int32)))), .int (aI M a0 (Int32.toNatClampNeg (l3 + (2 : Int32))))] M) fun x2 M1 =>
    ckk (mC M1 a0 = 110) (ckb (l3 + (1 : Int32)) (mN M1 a0) (ckk (mC M1 a0 = 110) (ckb (l3 + (2 : Int32)) (mN M1 a0) (ckk (mC M1 a2 = 9) (bkI (cl jm_Ref_risk [.ref a2, .int (aI M1 a0 (Int32.toNatClampNeg (l3 + (1 : Int32)))), .int (aI M1 a0 (Int32.toNatClampNeg (l3 + (2 : Int32))))] M1) fun x4 M3 =>
    (if x2 = x4 then
      (rn jm_Law_law cl 1360 [some (.ref a0), some (.ref a1), some (.ref a2), some (.int l3)] [] M3) else
      (ckk ((0 : Int32) = 0 ∨ (0 : Int32) = 1) (some (some (.int (0 : Int32)), M3)))))))))))))) :=
  tr_eb [18, 180, 243, 266, 289, 332, 355, 388, 411, 444, 497, 530, 563, 616, 639, 662, 685, 708, 751, 804, 857, 910, 954, 1007, 1040, 1073, 1106, 1129, 1162, 1195, 1228, 1291, 1314, 1337, 1360] 27 rfl
set_option maxRecDepth 100000 in
theorem eq_Law_law_1195 (cl : Nat → List Value → ej_Mem → Option ej_R) (a0 : Nat) (a1 : Nat) (a2 : Nat) (l3 : Int32) (M : ej_Mem) : rn jm_Law_law cl 1195 [some (.ref a0), some (.ref a1), some (.ref a2), some (.int l3)] [] M =
    ckk (mC M a0 = 110) (ckb (l3 + (1 : Int32)) (mN M a0) (ckk (mC M a0 = 110) (ckb (l3 + (2 : Int32)) (mN M a0) (ckk (mC M a1 = 8) (bkI (cl jm_Suit_costs [.ref a1, .int (aI M a0 (Int32.toNatClampNeg (l3 + (1 : Int32)))), .int (aI M a0 (Int32.toNatClampNeg (l3 + (2 : Int32))))] M) fun x2 M1 =>
    ckk (mC M1 a0 = 110) (ckb (l3 + (1 : Int32)) (mN M1 a0) (ckk (mC M1 a0 = 110) (ckb (l3 + (2 : Int32)) (mN M1 a0) (ckk (mC M1 a2 = 9) (bkI (cl jm_Ref_costs [.ref a2, .int (aI M1 a0 (Int32.toNatClampNeg (l3 + (1 : Int32)))), .int (aI M1 a0 (Int32.toNatClampNeg (l3 + (2 : Int32))))] M1) fun x4 M3 =>
    (if x2 = x4 then
      (rn jm_Law_law cl 1360 [some (.ref a0), some (.ref a1), some (.ref a2), some (.int l3)] [] M3) else
      (ckk ((0 : Int32) = 0 ∨ (0 : Int32) = 1) (some (some (.int (0 : Int32)), M3)))))))))))))) :=
  tr_eb [18, 180, 243, 266, 289, 332, 355, 388, 411, 444, 497, 530, 563, 616, 639, 662, 685, 708, 751, 804, 857, 910, 954, 1007, 1040, 1073, 1106, 1129, 1162, 1195, 1228, 1291, 1314, 1337, 1360] 27 rfl
set_option maxRecDepth 100000 in
theorem eq_Law_law_1228 (cl : Nat → List Value → ej_Mem → Option ej_R) (a0 : Nat) (a1 : Nat) (a2 : Nat) (l3 : Int32) (M : ej_Mem) : rn jm_Law_law cl 1228 [some (.ref a0), some (.ref a1), some (.ref a2), some (.int l3)] [] M =
    ckk (mC M a0 = 110) (ckb (l3 + (1 : Int32)) (mN M a0) (ckk (mC M a0 = 110) (ckb (l3 + (2 : Int32)) (mN M a0) (ckk (mC M a0 = 110) (ckb (l3 + (3 : Int32)) (mN M a0) (ckk (mC M a0 = 110) (ckb (l3 + (4 : Int32)) (mN M a0) (ckk (mC M a0 = 110) (ckb (l3 + (5 : Int32)) (mN M a0) (ckk (mC M a1 = 8) (bkI (cl jm_Suit_words [.ref a1, .int (aI M a0 (Int32.toNatClampNeg (l3 + (1 : Int32)))), .int (aI M a0 (Int32.toNatClampNeg (l3 + (2 : Int32)))), .int (aI M a0 (Int32.toNatClampNeg (l3 + (3 : Int32)))), .int (aI M a0 (Int32.toNatClampNeg (l3 + (4 : Int32)))), .int (aI M a0 (Int32.toNatClampNeg (l3 + (5 : Int32))))] M) fun x2 M1 =>
    ckk (mC M1 a0 = 110) (ckb (l3 + (1 : Int32)) (mN M1 a0) (ckk (mC M1 a0 = 110) (ckb (l3 + (2 : Int32)) (mN M1 a0) (ckk (mC M1 a0 = 110) (ckb (l3 + (3 : Int32)) (mN M1 a0) (ckk (mC M1 a0 = 110) (ckb (l3 + (4 : Int32)) (mN M1 a0) (ckk (mC M1 a0 = 110) (ckb (l3 + (5 : Int32)) (mN M1 a0) (ckk (mC M1 a2 = 9) (bkI (cl jm_Ref_words [.ref a2, .int (aI M1 a0 (Int32.toNatClampNeg (l3 + (1 : Int32)))), .int (aI M1 a0 (Int32.toNatClampNeg (l3 + (2 : Int32)))), .int (aI M1 a0 (Int32.toNatClampNeg (l3 + (3 : Int32)))), .int (aI M1 a0 (Int32.toNatClampNeg (l3 + (4 : Int32)))), .int (aI M1 a0 (Int32.toNatClampNeg (l3 + (5 : Int32))))] M1) fun x4 M3 =>
    (if x2 = x4 then
      (rn jm_Law_law cl 1360 [some (.ref a0), some (.ref a1), some (.ref a2), some (.int l3)] [] M3) else
      (ckk ((0 : Int32) = 0 ∨ (0 : Int32) = 1) (some (some (.int (0 : Int32)), M3)))))))))))))))))))))))))) :=
  tr_eb [18, 180, 243, 266, 289, 332, 355, 388, 411, 444, 497, 530, 563, 616, 639, 662, 685, 708, 751, 804, 857, 910, 954, 1007, 1040, 1073, 1106, 1129, 1162, 1195, 1228, 1291, 1314, 1337, 1360] 57 rfl
set_option maxRecDepth 100000 in
theorem eq_Law_law_1291 (cl : Nat → List Value → ej_Mem → Option ej_R) (a0 : Nat) (a1 : Nat) (a2 : Nat) (l3 : Int32) (M : ej_Mem) : rn jm_Law_law cl 1291 [some (.ref a0), some (.ref a1), some (.ref a2), some (.int l3)] [] M =
    ckk (mC M a0 = 110) (ckb (l3 + (1 : Int32)) (mN M a0) (ckk (mC M a1 = 8) (bkI (cl jm_Suit_mark [.ref a1, .int (aI M a0 (Int32.toNatClampNeg (l3 + (1 : Int32))))] M) fun x2 M1 =>
    ckk (mC M1 a0 = 110) (ckb (l3 + (1 : Int32)) (mN M1 a0) (ckk (mC M1 a2 = 9) (bkI (cl jm_Ref_mark [.ref a2, .int (aI M1 a0 (Int32.toNatClampNeg (l3 + (1 : Int32))))] M1) fun x4 M3 =>
    (if x2 = x4 then
      (rn jm_Law_law cl 1360 [some (.ref a0), some (.ref a1), some (.ref a2), some (.int l3)] [] M3) else
      (ckk ((0 : Int32) = 0 ∨ (0 : Int32) = 1) (some (some (.int (0 : Int32)), M3)))))))))) :=
  tr_eb [18, 180, 243, 266, 289, 332, 355, 388, 411, 444, 497, 530, 563, 616, 639, 662, 685, 708, 751, 804, 857, 910, 954, 1007, 1040, 1073, 1106, 1129, 1162, 1195, 1228, 1291, 1314, 1337, 1360] 17 rfl
set_option maxRecDepth 100000 in
theorem eq_Law_law_1314 (cl : Nat → List Value → ej_Mem → Option ej_R) (a0 : Nat) (a1 : Nat) (a2 : Nat) (l3 : Int32) (M : ej_Mem) : rn jm_Law_law cl 1314 [some (.ref a0), some (.ref a1), some (.ref a2), some (.int l3)] [] M =
    ckk (mC M a0 = 110) (ckb (l3 + (1 : Int32)) (mN M a0) (ckk (mC M a1 = 8) (bkI (cl jm_Suit_back [.ref a1, .int (aI M a0 (Int32.toNatClampNeg (l3 + (1 : Int32))))] M) fun x2 M1 =>
    ckk (mC M1 a0 = 110) (ckb (l3 + (1 : Int32)) (mN M1 a0) (ckk (mC M1 a2 = 9) (bkI (cl jm_Ref_back [.ref a2, .int (aI M1 a0 (Int32.toNatClampNeg (l3 + (1 : Int32))))] M1) fun x4 M3 =>
    (if x2 = x4 then
      (rn jm_Law_law cl 1360 [some (.ref a0), some (.ref a1), some (.ref a2), some (.int l3)] [] M3) else
      (ckk ((0 : Int32) = 0 ∨ (0 : Int32) = 1) (some (some (.int (0 : Int32)), M3)))))))))) :=
  tr_eb [18, 180, 243, 266, 289, 332, 355, 388, 411, 444, 497, 530, 563, 616, 639, 662, 685, 708, 751, 804, 857, 910, 954, 1007, 1040, 1073, 1106, 1129, 1162, 1195, 1228, 1291, 1314, 1337, 1360] 17 rfl
set_option maxRecDepth 100000 in
theorem eq_Law_law_1337 (cl : Nat → List Value → ej_Mem → Option ej_R) (a0 : Nat) (a1 : Nat) (a2 : Nat) (l3 : Int32) (M : ej_Mem) : rn jm_Law_law cl 1337 [some (.ref a0), some (.ref a1), some (.ref a2), some (.int l3)] [] M =
    ckk (mC M a0 = 110) (ckb (l3 + (1 : Int32)) (mN M a0) (ckk (mC M a1 = 8) (bkI (cl jm_Suit_count [.ref a1, .int (aI M a0 (Int32.toNatClampNeg (l3 + (1 : Int32))))] M) fun x2 M1 =>
    ckk (mC M1 a0 = 110) (ckb (l3 + (1 : Int32)) (mN M1 a0) (ckk (mC M1 a2 = 9) (bkI (cl jm_Ref_count [.ref a2, .int (aI M1 a0 (Int32.toNatClampNeg (l3 + (1 : Int32))))] M1) fun x4 M3 =>
    (if x2 = x4 then
      (rn jm_Law_law cl 1360 [some (.ref a0), some (.ref a1), some (.ref a2), some (.int l3)] [] M3) else
      (ckk ((0 : Int32) = 0 ∨ (0 : Int32) = 1) (some (some (.int (0 : Int32)), M3)))))))))) :=
  tr_eb [18, 180, 243, 266, 289, 332, 355, 388, 411, 444, 497, 530, 563, 616, 639, 662, 685, 708, 751, 804, 857, 910, 954, 1007, 1040, 1073, 1106, 1129, 1162, 1195, 1228, 1291, 1314, 1337, 1360] 17 rfl
set_option maxRecDepth 100000 in
theorem eq_Law_law_1360 (cl : Nat → List Value → ej_Mem → Option ej_R) (a0 : Nat) (a1 : Nat) (a2 : Nat) (l3 : Int32) (M : ej_Mem) : rn jm_Law_law cl 1360 [some (.ref a0), some (.ref a1), some (.ref a2), some (.int l3)] [] M =
    rn jm_Law_law cl 18 [some (.ref a0), some (.ref a1), some (.ref a2), some (.int (l3 + (6 : Int32)))] [] M :=
  tr_eb [18, 180, 243, 266, 289, 332, 355, 388, 411, 444, 497, 530, 563, 616, 639, 662, 685, 708, 751, 804, 857, 910, 954, 1007, 1040, 1073, 1106, 1129, 1162, 1195, 1228, 1291, 1314, 1337, 1360] 3 rfl
theorem ca_Law_law (d : Nat) (a0 : Nat) (M : ej_Mem) : cal (d + 1) jm_Law_law [.ref a0] M = rn jm_Law_law (cal d) 0 [some (.ref a0), none, none, none] [] M := call_eq (show 1 ≤ 4 by decide)
