/-! equations of the methods: from the entry and each loop head a tree of tests; written by wip/gen/eqs.py -/
set_option maxRecDepth 100000 in
theorem eq_Ref_isStopped_0 (cl : Nat → List Value → ej_Mem → Option ej_R) (a0 : Nat) (l1 : Int32) (l2 : Int32) (M : ej_Mem) : rn jm_Ref_isStopped cl 0 [some (.ref a0), some (.int l1), some (.int l2), none, none, none] [] M =
    bkI (cl jm_Ref_slotOf [.int (1 : Int32), .int l1] M) fun x2 M1 =>
    rn jm_Ref_isStopped cl 16 [some (.ref a0), some (.int l1), some (.int l2), some (.int (0 : Int32)), some (.int x2), some (.int ((12 : Int32) * x2))] [] M1 :=
  tr_eb [16, 74] 11 rfl
set_option maxRecDepth 100000 in
theorem eq_Ref_isStopped_16 (cl : Nat → List Value → ej_Mem → Option ej_R) (a0 : Nat) (l1 : Int32) (l2 : Int32) (l3 : Int32) (l4 : Int32) (l5 : Int32) (M : ej_Mem) : rn jm_Ref_isStopped cl 16 [some (.ref a0), some (.int l1), some (.int l2), some (.int l3), some (.int l4), some (.int l5)] [] M =
    ckk (mC M a0 = 9) (deR (mR M a0 14) fun q1 => ckk (mC M q1 = 100) (ckb l4 (mN M q1) ((if (((12 : Int32) * l4) + (aI M q1 (Int32.toNatClampNeg l4))) ≤ l5 then
      (rn jm_Ref_isStopped cl 74 [some (.ref a0), some (.int l1), some (.int l2), some (.int l3), some (.int l4), some (.int (0 : Int32))] [] M) else
      ((if l3 = (0 : Int32) then
        (ckk (mC M a0 = 9) (deR (mR M a0 15) fun q2 => ckk (mC M q2 = 100) (ckb l5 (mN M q2) ((if (aI M q2 (Int32.toNatClampNeg l5)) = (1 : Int32) then
          (ckk (mC M a0 = 9) (bkI (cl jm_Ref_isTrue [.ref a0, .int l5, .int l2] M) fun x4 M3 =>
          (if x4 = (0 : Int32) then
            (rn jm_Ref_isStopped cl 16 [some (.ref a0), some (.int l1), some (.int l2), some (.int (0 : Int32)), some (.int l4), some (.int (l5 + (1 : Int32)))] [] M3) else
            (rn jm_Ref_isStopped cl 16 [some (.ref a0), some (.int l1), some (.int l2), some (.int (1 : Int32)), some (.int l4), some (.int (l5 + (1 : Int32)))] [] M3)))) else
          (rn jm_Ref_isStopped cl 16 [some (.ref a0), some (.int l1), some (.int l2), some (.int (0 : Int32)), some (.int l4), some (.int (l5 + (1 : Int32)))] [] M)))))) else
        (rn jm_Ref_isStopped cl 16 [some (.ref a0), some (.int l1), some (.int l2), some (.int (1 : Int32)), some (.int l4), some (.int (l5 + (1 : Int32)))] [] M))))))) :=
  tr_eb [16, 74] 29 rfl
set_option maxRecDepth 100000 in
theorem eq_Ref_isStopped_74 (cl : Nat → List Value → ej_Mem → Option ej_R) (a0 : Nat) (l1 : Int32) (l2 : Int32) (l3 : Int32) (l4 : Int32) (l5 : Int32) (M : ej_Mem) : rn jm_Ref_isStopped cl 74 [some (.ref a0), some (.int l1), some (.int l2), some (.int l3), some (.int l4), some (.int l5)] [] M =
    ckk (mC M a0 = 9) (deR (mR M a0 11) fun q1 => ckk (mC M q1 = 100) (ckb (3 : Int32) (mN M q1) ((if (aI M q1 (Int32.toNatClampNeg (3 : Int32))) ≤ l5 then
      (ckk (l3 = 0 ∨ l3 = 1) (some (some (.int l3), M))) else
      ((if l3 = (0 : Int32) then
        (ckk (mC M a0 = 9) ((if (((mI M a0 9) >>> (l5 &&& 31)) &&& (1 : Int32)) = (1 : Int32) then
          (bkI (cl jm_Ref_slotOf [.int (3 : Int32), .int l5] M) fun x3 M2 =>
          ckk (mC M2 a0 = 9) (bkI (cl jm_Ref_isTrue [.ref a0, .int ((12 : Int32) * x3), .int l2] M2) fun x5 M4 =>
          (if x5 = (0 : Int32) then
            (rn jm_Ref_isStopped cl 74 [some (.ref a0), some (.int l1), some (.int l2), some (.int (0 : Int32)), some (.int l4), some (.int (l5 + (1 : Int32)))] [] M4) else
            (rn jm_Ref_isStopped cl 74 [some (.ref a0), some (.int l1), some (.int l2), some (.int (1 : Int32)), some (.int l4), some (.int (l5 + (1 : Int32)))] [] M4)))) else
          (rn jm_Ref_isStopped cl 74 [some (.ref a0), some (.int l1), some (.int l2), some (.int (0 : Int32)), some (.int l4), some (.int (l5 + (1 : Int32)))] [] M)))) else
        (rn jm_Ref_isStopped cl 74 [some (.ref a0), some (.int l1), some (.int l2), some (.int (1 : Int32)), some (.int l4), some (.int (l5 + (1 : Int32)))] [] M))))))) :=
  tr_eb [16, 74] 31 rfl
theorem ca_Ref_isStopped (d : Nat) (a0 : Nat) (l1 : Int32) (l2 : Int32) (M : ej_Mem) : cal (d + 1) jm_Ref_isStopped [.ref a0, .int l1, .int l2] M = rn jm_Ref_isStopped (cal d) 0 [some (.ref a0), some (.int l1), some (.int l2), none, none, none] [] M := call_eq (show 3 ≤ 6 by decide)
set_option maxRecDepth 100000 in
theorem eq_Ref_mayBe_0 (cl : Nat → List Value → ej_Mem → Option ej_R) (a0 : Nat) (l1 : Int32) (l2 : Int32) (l3 : Int32) (l4 : Int32) (M : ej_Mem) : rn jm_Ref_mayBe cl 0 [some (.ref a0), some (.int l1), some (.int l2), some (.int l3), some (.int l4), none, none] [] M =
    ckk (mC M a0 = 9) (deR (mR M a0 20) fun q1 => ckk (mC M q1 = 100) (ckb l3 (mN M q1) ((if l2 < (aI M q1 (Int32.toNatClampNeg l3)) then
      (rn jm_Ref_mayBe cl 33 [some (.ref a0), some (.int l1), some (.int l2), some (.int l3), some (.int l4), some (.int (0 : Int32)), some (.int ((12 : Int32) * l3))] [] M) else
      (ckk (mC M a0 = 9) (deR (mR M a0 21) fun q2 => ckk (mC M q2 = 100) (ckb l3 (mN M q2) ((if (aI M q2 (Int32.toNatClampNeg l3)) < l2 then
        (rn jm_Ref_mayBe cl 33 [some (.ref a0), some (.int l1), some (.int l2), some (.int l3), some (.int l4), some (.int (0 : Int32)), some (.int ((12 : Int32) * l3))] [] M) else
        (rn jm_Ref_mayBe cl 33 [some (.ref a0), some (.int l1), some (.int l2), some (.int l3), some (.int l4), some (.int (1 : Int32)), some (.int ((12 : Int32) * l3))] [] M)))))))))) :=
  tr_eb [33] 20 rfl
set_option maxRecDepth 100000 in
theorem eq_Ref_mayBe_33 (cl : Nat → List Value → ej_Mem → Option ej_R) (a0 : Nat) (l1 : Int32) (l2 : Int32) (l3 : Int32) (l4 : Int32) (l5 : Int32) (l6 : Int32) (M : ej_Mem) : rn jm_Ref_mayBe cl 33 [some (.ref a0), some (.int l1), some (.int l2), some (.int l3), some (.int l4), some (.int l5), some (.int l6)] [] M =
    ckk (mC M a0 = 9) (deR (mR M a0 14) fun q1 => ckk (mC M q1 = 100) (ckb l3 (mN M q1) ((if (((12 : Int32) * l3) + (aI M q1 (Int32.toNatClampNeg l3))) ≤ l6 then
      ((if l5 = (0 : Int32) then
        ((if l4 = l4 then
          (ckk ((0 : Int32) = 0 ∨ (0 : Int32) = 1) (some (some (.int (0 : Int32)), M))) else
          (ckk (mC M a0 = 9) (bkI (cl jm_Ref_isStopped [.ref a0, .int l1, .int l4] M) fun x3 M2 =>
          (if x3 = (0 : Int32) then
            (ckk ((1 : Int32) = 0 ∨ (1 : Int32) = 1) (some (some (.int (1 : Int32)), M2))) else
            (ckk ((0 : Int32) = 0 ∨ (0 : Int32) = 1) (some (some (.int (0 : Int32)), M2)))))))) else
        (ckk (mC M a0 = 9) (bkI (cl jm_Ref_behind [.ref a0, .int l3, .int l4] M) fun x5 M4 =>
        (if x5 = l4 then
          (ckk ((0 : Int32) = 0 ∨ (0 : Int32) = 1) (some (some (.int (0 : Int32)), M4))) else
          (ckk (mC M4 a0 = 9) (bkI (cl jm_Ref_isStopped [.ref a0, .int l1, .int x5] M4) fun x7 M6 =>
          (if x7 = (0 : Int32) then
            (ckk ((1 : Int32) = 0 ∨ (1 : Int32) = 1) (some (some (.int (1 : Int32)), M6))) else
            (ckk ((0 : Int32) = 0 ∨ (0 : Int32) = 1) (some (some (.int (0 : Int32)), M6))))))))))) else
      ((if l5 = (0 : Int32) then
        (rn jm_Ref_mayBe cl 33 [some (.ref a0), some (.int l1), some (.int l2), some (.int l3), some (.int l4), some (.int (0 : Int32)), some (.int (l6 + (1 : Int32)))] [] M) else
        (ckk (mC M a0 = 9) (deR (mR M a0 15) fun q8 => ckk (mC M q8 = 100) (ckb l6 (mN M q8) ((if (aI M q8 (Int32.toNatClampNeg l6)) = (0 : Int32) then
          (ckk (mC M a0 = 9) (bkI (cl jm_Ref_isTrue [.ref a0, .int l6, .int l4] M) fun x10 M9 =>
          (if x10 = (0 : Int32) then
            (rn jm_Ref_mayBe cl 33 [some (.ref a0), some (.int l1), some (.int l2), some (.int l3), some (.int l4), some (.int (0 : Int32)), some (.int (l6 + (1 : Int32)))] [] M9) else
            (rn jm_Ref_mayBe cl 33 [some (.ref a0), some (.int l1), some (.int l2), some (.int l3), some (.int l4), some (.int (1 : Int32)), some (.int (l6 + (1 : Int32)))] [] M9)))) else
          (rn jm_Ref_mayBe cl 33 [some (.ref a0), some (.int l1), some (.int l2), some (.int l3), some (.int l4), some (.int (1 : Int32)), some (.int (l6 + (1 : Int32)))] [] M)))))))))))) :=
  tr_eb [33] 29 rfl
theorem ca_Ref_mayBe (d : Nat) (a0 : Nat) (l1 : Int32) (l2 : Int32) (l3 : Int32) (l4 : Int32) (M : ej_Mem) : cal (d + 1) jm_Ref_mayBe [.ref a0, .int l1, .int l2, .int l3, .int l4] M = rn jm_Ref_mayBe (cal d) 0 [some (.ref a0), some (.int l1), some (.int l2), some (.int l3), some (.int l4), none, none] [] M := call_eq (show 5 ≤ 7 by decide)
set_option maxRecDepth 100000 in
theorem eq_Ref_may_0 (cl : Nat → List Value → ej_Mem → Option ej_R) (a0 : Nat) (l1 : Int32) (l2 : Int32) (l3 : Int32) (l4 : Int32) (M : ej_Mem) : rn jm_Ref_may cl 0 [some (.ref a0), some (.int l1), some (.int l2), some (.int l3), some (.int l4)] [] M =
    ckk (mC M a0 = 9) (bkI (cl jm_Ref_has [.ref a0, .int (1 : Int32), .int l1] M) fun x2 M1 =>
    (if x2 = (0 : Int32) then
      (some (some (.int (-1 : Int32)), M1)) else
      (bkI (cl jm_Ref_isYear [.int l2] M1) fun x4 M3 =>
      (if x4 = (0 : Int32) then
        (some (some (.int (-1 : Int32)), M3)) else
        (ckk (mC M3 a0 = 9) (bkI (cl jm_Ref_has [.ref a0, .int (0 : Int32), .int l3] M3) fun x6 M5 =>
        (if x6 = (0 : Int32) then
          (some (some (.int (-1 : Int32)), M5)) else
          (bkI (cl jm_Ref_isState [.int l4] M5) fun x8 M7 =>
          (if x8 = (0 : Int32) then
            (some (some (.int (-1 : Int32)), M7)) else
            (ckk (mC M7 a0 = 9) (bkI (cl jm_Ref_mayBe [.ref a0, .int l1, .int l2, .int l3, .int l4] M7) fun x10 M9 =>
            (if x10 = (0 : Int32) then
              (some (some (.int (0 : Int32)), M9)) else
              (some (some (.int (1 : Int32)), M9)))))))))))))) :=
  tr_eb [] 26 rfl
theorem ca_Ref_may (d : Nat) (a0 : Nat) (l1 : Int32) (l2 : Int32) (l3 : Int32) (l4 : Int32) (M : ej_Mem) : cal (d + 1) jm_Ref_may [.ref a0, .int l1, .int l2, .int l3, .int l4] M = rn jm_Ref_may (cal d) 0 [some (.ref a0), some (.int l1), some (.int l2), some (.int l3), some (.int l4)] [] M := call_eq (show 5 ≤ 5 by decide)
set_option maxRecDepth 100000 in
theorem eq_Ref_after_0 (cl : Nat → List Value → ej_Mem → Option ej_R) (a0 : Nat) (l1 : Int32) (l2 : Int32) (M : ej_Mem) : rn jm_Ref_after cl 0 [some (.ref a0), some (.int l1), some (.int l2)] [] M =
    ckk (mC M a0 = 9) (bkI (cl jm_Ref_has [.ref a0, .int (0 : Int32), .int l1] M) fun x2 M1 =>
    (if x2 = (0 : Int32) then
      (some (some (.int (-1 : Int32)), M1)) else
      (bkI (cl jm_Ref_isState [.int l2] M1) fun x4 M3 =>
      (if x4 = (0 : Int32) then
        (some (some (.int (-1 : Int32)), M3)) else
        (ckk (mC M3 a0 = 9) (bkI (cl jm_Ref_behind [.ref a0, .int l1, .int l2] M3) fun x6 M5 =>
        some (some (.int x6), M5))))))) :=
  tr_eb [] 14 rfl
theorem ca_Ref_after (d : Nat) (a0 : Nat) (l1 : Int32) (l2 : Int32) (M : ej_Mem) : cal (d + 1) jm_Ref_after [.ref a0, .int l1, .int l2] M = rn jm_Ref_after (cal d) 0 [some (.ref a0), some (.int l1), some (.int l2)] [] M := call_eq (show 3 ≤ 3 by decide)
set_option maxRecDepth 100000 in
theorem eq_Ref_turns_0 (cl : Nat → List Value → ej_Mem → Option ej_R) (a0 : Nat) (l1 : Int32) (l2 : Int32) (M : ej_Mem) : rn jm_Ref_turns cl 0 [some (.ref a0), some (.int l1), some (.int l2), none, none] [] M =
    rn jm_Ref_turns cl 8 [some (.ref a0), some (.int l1), some (.int l2), some (.int (0 : Int32)), some (.int ((12 : Int32) * l1))] [] M :=
  tr_eb [8] 7 rfl
set_option maxRecDepth 100000 in
theorem eq_Ref_turns_8 (cl : Nat → List Value → ej_Mem → Option ej_R) (a0 : Nat) (l1 : Int32) (l2 : Int32) (l3 : Int32) (l4 : Int32) (M : ej_Mem) : rn jm_Ref_turns cl 8 [some (.ref a0), some (.int l1), some (.int l2), some (.int l3), some (.int l4)] [] M =
    ckk (mC M a0 = 9) (deR (mR M a0 14) fun q1 => ckk (mC M q1 = 100) (ckb l1 (mN M q1) ((if (((12 : Int32) * l1) + (aI M q1 (Int32.toNatClampNeg l1))) ≤ l4 then
      (some (some (.int l3), M)) else
      (ckk (mC M a0 = 9) (deR (mR M a0 15) fun q2 => ckk (mC M q2 = 100) (ckb l4 (mN M q2) ((if (aI M q2 (Int32.toNatClampNeg l4)) = (6 : Int32) then
        (ckk (mC M a0 = 9) (deR (mR M a0 17) fun q3 => ckk (mC M q3 = 100) (ckb l4 (mN M q3) (ckk (mC M a0 = 9) (deR (mR M a0 18) fun q4 => ckk (mC M q4 = 100) (ckb l4 (mN M q4) ((if (aI M q3 (Int32.toNatClampNeg l4)) = (aI M q4 (Int32.toNatClampNeg l4)) then
          (ckk (mC M a0 = 9) (deR (mR M a0 16) fun q5 => ckk (mC M q5 = 100) (ckb l4 (mN M q5) (rn jm_Ref_turns cl 8 [some (.ref a0), some (.int l1), some (.int l2), some (.int (l3 ||| ((1 : Int32) <<< ((aI M q5 (Int32.toNatClampNeg l4)) &&& 31)))), some (.int (l4 + (1 : Int32)))] [] M)))) else
          (ckk (mC M a0 = 9) (bkI (cl jm_Ref_isTrue [.ref a0, .int l4, .int l2] M) fun x7 M6 =>
          (if x7 = (0 : Int32) then
            (rn jm_Ref_turns cl 8 [some (.ref a0), some (.int l1), some (.int l2), some (.int (l3 ||| (0 : Int32))), some (.int (l4 + (1 : Int32)))] [] M6) else
            (ckk (mC M6 a0 = 9) (deR (mR M6 a0 16) fun q8 => ckk (mC M6 q8 = 100) (ckb l4 (mN M6 q8) (rn jm_Ref_turns cl 8 [some (.ref a0), some (.int l1), some (.int l2), some (.int (l3 ||| ((1 : Int32) <<< ((aI M6 q8 (Int32.toNatClampNeg l4)) &&& 31)))), some (.int (l4 + (1 : Int32)))] [] M6))))))))))))))) else
        (rn jm_Ref_turns cl 8 [some (.ref a0), some (.int l1), some (.int l2), some (.int (l3 ||| (0 : Int32))), some (.int (l4 + (1 : Int32)))] [] M)))))))))) :=
  tr_eb [8] 43 rfl
theorem ca_Ref_turns (d : Nat) (a0 : Nat) (l1 : Int32) (l2 : Int32) (M : ej_Mem) : cal (d + 1) jm_Ref_turns [.ref a0, .int l1, .int l2] M = rn jm_Ref_turns (cal d) 0 [some (.ref a0), some (.int l1), some (.int l2), none, none] [] M := call_eq (show 3 ≤ 5 by decide)
set_option maxRecDepth 100000 in
theorem eq_Ref_turned_0 (cl : Nat → List Value → ej_Mem → Option ej_R) (a0 : Nat) (l1 : Int32) (l2 : Int32) (M : ej_Mem) : rn jm_Ref_turned cl 0 [some (.ref a0), some (.int l1), some (.int l2)] [] M =
    ckk (mC M a0 = 9) (bkI (cl jm_Ref_has [.ref a0, .int (0 : Int32), .int l1] M) fun x2 M1 =>
    (if x2 = (0 : Int32) then
      (some (some (.int (-1 : Int32)), M1)) else
      (bkI (cl jm_Ref_isState [.int l2] M1) fun x4 M3 =>
      (if x4 = (0 : Int32) then
        (some (some (.int (-1 : Int32)), M3)) else
        (ckk (mC M3 a0 = 9) (bkI (cl jm_Ref_turns [.ref a0, .int l1, .int l2] M3) fun x6 M5 =>
        some (some (.int x6), M5))))))) :=
  tr_eb [] 14 rfl
theorem ca_Ref_turned (d : Nat) (a0 : Nat) (l1 : Int32) (l2 : Int32) (M : ej_Mem) : cal (d + 1) jm_Ref_turned [.ref a0, .int l1, .int l2] M = rn jm_Ref_turned (cal d) 0 [some (.ref a0), some (.int l1), some (.int l2)] [] M := call_eq (show 3 ≤ 3 by decide)
set_option maxRecDepth 100000 in
theorem eq_Ref_placeOf_0 (cl : Nat → List Value → ej_Mem → Option ej_R) (a0 : Nat) (l1 : Int32) (M : ej_Mem) : rn jm_Ref_placeOf cl 0 [some (.ref a0), some (.int l1), none] [] M =
    rn jm_Ref_placeOf cl 15 [some (.ref a0), some (.int l1), some (.int (((l1 * (40503 : Int32)) ^^^ (l1 >>> ((9 : Int32) &&& 31))) &&& (16383 : Int32)))] [] M :=
  tr_eb [15] 11 rfl
set_option maxRecDepth 100000 in
theorem eq_Ref_placeOf_15 (cl : Nat → List Value → ej_Mem → Option ej_R) (a0 : Nat) (l1 : Int32) (l2 : Int32) (M : ej_Mem) : rn jm_Ref_placeOf cl 15 [some (.ref a0), some (.int l1), some (.int l2)] [] M =
    ckk (mC M a0 = 9) (deR (mR M a0 25) fun q1 => ckk (mC M q1 = 100) (ckb l2 (mN M q1) (ckk (mC M a0 = 9) ((if (aI M q1 (Int32.toNatClampNeg l2)) = (mI M a0 27) then
      (ckk (mC M a0 = 9) (deR (mR M a0 24) fun q2 => ckk (mC M q2 = 100) (ckb l2 (mN M q2) ((if (aI M q2 (Int32.toNatClampNeg l2)) = l1 then
        (some (some (.int l2), M)) else
        (rn jm_Ref_placeOf cl 15 [some (.ref a0), some (.int l1), some (.int ((l2 + (1 : Int32)) &&& (16383 : Int32)))] [] M)))))) else
      (some (some (.int l2), M))))))) :=
  tr_eb [15] 21 rfl
theorem ca_Ref_placeOf (d : Nat) (a0 : Nat) (l1 : Int32) (M : ej_Mem) : cal (d + 1) jm_Ref_placeOf [.ref a0, .int l1] M = rn jm_Ref_placeOf (cal d) 0 [some (.ref a0), some (.int l1), none] [] M := call_eq (show 2 ≤ 3 by decide)
set_option maxRecDepth 100000 in
theorem eq_Ref_isMet_0 (cl : Nat → List Value → ej_Mem → Option ej_R) (a0 : Nat) (l1 : Int32) (M : ej_Mem) : rn jm_Ref_isMet cl 0 [some (.ref a0), some (.int l1)] [] M =
    ckk (mC M a0 = 9) (deR (mR M a0 25) fun q1 => ckk (mC M a0 = 9) (bkI (cl jm_Ref_placeOf [.ref a0, .int l1] M) fun x3 M2 =>
    ckk (mC M2 q1 = 100) (ckb x3 (mN M2 q1) (ckk (mC M2 a0 = 9) ((if (aI M2 q1 (Int32.toNatClampNeg x3)) = (mI M2 a0 27) then
      (ckk ((1 : Int32) = 0 ∨ (1 : Int32) = 1) (some (some (.int (1 : Int32)), M2))) else
      (ckk ((0 : Int32) = 0 ∨ (0 : Int32) = 1) (some (some (.int (0 : Int32)), M2))))))))) :=
  tr_eb [] 12 rfl
theorem ca_Ref_isMet (d : Nat) (a0 : Nat) (l1 : Int32) (M : ej_Mem) : cal (d + 1) jm_Ref_isMet [.ref a0, .int l1] M = rn jm_Ref_isMet (cal d) 0 [some (.ref a0), some (.int l1)] [] M := call_eq (show 2 ≤ 2 by decide)
set_option maxRecDepth 100000 in
theorem eq_Ref_marks_0 (cl : Nat → List Value → ej_Mem → Option ej_R) (a0 : Nat) (l1 : Int32) (l2 : Int32) (M : ej_Mem) : rn jm_Ref_marks cl 0 [some (.ref a0), some (.int l1), some (.int l2), none] [] M =
    ckk (mC M a0 = 9) (bkI (cl jm_Ref_placeOf [.ref a0, .int l1] M) fun x2 M1 =>
    ckk (mC M1 a0 = 9) (deR (mR M1 a0 25) fun q3 => ckk (mC M1 a0 = 9) (ckk (mC M1 q3 = 100) (ckb x2 (mN M1 q3) (ckk (mC (setA M1 q3 (Int32.toNatClampNeg x2) (mI M1 a0 27)) a0 = 9) (deR (mR (setA M1 q3 (Int32.toNatClampNeg x2) (mI M1 a0 27)) a0 24) fun q4 => ckk (mC (setA M1 q3 (Int32.toNatClampNeg x2) (mI M1 a0 27)) q4 = 100) (ckb x2 (mN (setA M1 q3 (Int32.toNatClampNeg x2) (mI M1 a0 27)) q4) (ckk (mC (setA (setA M1 q3 (Int32.toNatClampNeg x2) (mI M1 a0 27)) q4 (Int32.toNatClampNeg x2) l1) a0 = 9) (deR (mR (setA (setA M1 q3 (Int32.toNatClampNeg x2) (mI M1 a0 27)) q4 (Int32.toNatClampNeg x2) l1) a0 26) fun q5 => ckk (mC (setA (setA M1 q3 (Int32.toNatClampNeg x2) (mI M1 a0 27)) q4 (Int32.toNatClampNeg x2) l1) q5 = 100) (ckb x2 (mN (setA (setA M1 q3 (Int32.toNatClampNeg x2) (mI M1 a0 27)) q4 (Int32.toNatClampNeg x2) l1) q5) (some (none, (setA (setA (setA M1 q3 (Int32.toNatClampNeg x2) (mI M1 a0 27)) q4 (Int32.toNatClampNeg x2) l1) q5 (Int32.toNatClampNeg x2) l2))))))))))))) :=
  tr_eb [] 21 rfl
theorem ca_Ref_marks (d : Nat) (a0 : Nat) (l1 : Int32) (l2 : Int32) (M : ej_Mem) : cal (d + 1) jm_Ref_marks [.ref a0, .int l1, .int l2] M = rn jm_Ref_marks (cal d) 0 [some (.ref a0), some (.int l1), some (.int l2), none] [] M := call_eq (show 3 ≤ 4 by decide)
set_option maxRecDepth 100000 in
theorem eq_Ref_search_0 (cl : Nat → List Value → ej_Mem → Option ej_R) (a0 : Nat) (l1 : Int32) (l2 : Int32) (l3 : Int32) (l4 : Int32) (M : ej_Mem) : rn jm_Ref_search cl 0 [some (.ref a0), some (.int l1), some (.int l2), some (.int l3), some (.int l4)] [] M =
    ckk (mC M a0 = 9) (bkI (cl jm_Ref_has [.ref a0, .int (1 : Int32), .int l1] M) fun x2 M1 =>
    (if x2 = (0 : Int32) then
      (ckk ((0 : Int32) = 0 ∨ (0 : Int32) = 1) (some (some (.int (0 : Int32)), M1))) else
      (ckk (mC M1 a0 = 9) (bkI (cl jm_Ref_has [.ref a0, .int (2 : Int32), .int l2] M1) fun x4 M3 =>
      (if x4 = (0 : Int32) then
        (ckk ((0 : Int32) = 0 ∨ (0 : Int32) = 1) (some (some (.int (0 : Int32)), M3))) else
        (bkI (cl jm_Ref_isYear [.int l3] M3) fun x6 M5 =>
        (if x6 = (0 : Int32) then
          (ckk ((0 : Int32) = 0 ∨ (0 : Int32) = 1) (some (some (.int (0 : Int32)), M5))) else
          ((if l4 = (-1 : Int32) then
            (ckk (mC M5 a0 = 9) (rn jm_Ref_search cl 46 [some (.ref a0), some (.int l1), some (.int l2), some (.int l3), some (.int l4)] [] (setI M5 a0 34 l1))) else
            (bkI (cl jm_Ref_isState [.int l4] M5) fun x8 M7 =>
            (if x8 = (0 : Int32) then
              (ckk ((0 : Int32) = 0 ∨ (0 : Int32) = 1) (some (some (.int (0 : Int32)), M7))) else
              (ckk (mC M7 a0 = 9) (rn jm_Ref_search cl 46 [some (.ref a0), some (.int l1), some (.int l2), some (.int l3), some (.int l4)] [] (setI M7 a0 34 l1)))))))))))))) :=
  tr_eb [46, 51, 56, 78, 85, 92, 97, 102, 107, 130] 23 rfl
set_option maxRecDepth 100000 in
theorem eq_Ref_search_46 (cl : Nat → List Value → ej_Mem → Option ej_R) (a0 : Nat) (l1 : Int32) (l2 : Int32) (l3 : Int32) (l4 : Int32) (M : ej_Mem) : rn jm_Ref_search cl 46 [some (.ref a0), some (.int l1), some (.int l2), some (.int l3), some (.int l4)] [] M =
    ckk (mC M a0 = 9) (rn jm_Ref_search cl 51 [some (.ref a0), some (.int l1), some (.int l2), some (.int l3), some (.int l4)] [] (setI M a0 35 l2)) :=
  tr_eb [46, 51, 56, 78, 85, 92, 97, 102, 107, 130] 4 rfl
set_option maxRecDepth 100000 in
theorem eq_Ref_search_51 (cl : Nat → List Value → ej_Mem → Option ej_R) (a0 : Nat) (l1 : Int32) (l2 : Int32) (l3 : Int32) (l4 : Int32) (M : ej_Mem) : rn jm_Ref_search cl 51 [some (.ref a0), some (.int l1), some (.int l2), some (.int l3), some (.int l4)] [] M =
    ckk (mC M a0 = 9) (rn jm_Ref_search cl 56 [some (.ref a0), some (.int l1), some (.int l2), some (.int l3), some (.int l4)] [] (setI M a0 36 l3)) :=
  tr_eb [46, 51, 56, 78, 85, 92, 97, 102, 107, 130] 4 rfl
set_option maxRecDepth 100000 in
theorem eq_Ref_search_56 (cl : Nat → List Value → ej_Mem → Option ej_R) (a0 : Nat) (l1 : Int32) (l2 : Int32) (l3 : Int32) (l4 : Int32) (M : ej_Mem) : rn jm_Ref_search cl 56 [some (.ref a0), some (.int l1), some (.int l2), some (.int l3), some (.int l4)] [] M =
    ckk (mC M a0 = 9) (deR (mR M a0 28) fun q1 => (if l4 = (-1 : Int32) then
      (ckk (mC M a0 = 9) (bkI (cl jm_Ref_firstOf [.ref a0, .int l1] M) fun x3 M2 =>
      ckk (mC M2 q1 = 100) (ckb (0 : Int32) (mN M2 q1) (rn jm_Ref_search cl 78 [some (.ref a0), some (.int l1), some (.int l2), some (.int l3), some (.int l4)] [] (setA M2 q1 (Int32.toNatClampNeg (0 : Int32)) x3))))) else
      (ckk (mC M q1 = 100) (ckb (0 : Int32) (mN M q1) (rn jm_Ref_search cl 78 [some (.ref a0), some (.int l1), some (.int l2), some (.int l3), some (.int l4)] [] (setA M q1 (Int32.toNatClampNeg (0 : Int32)) l4)))))) :=
  tr_eb [46, 51, 56, 78, 85, 92, 97, 102, 107, 130] 12 rfl
set_option maxRecDepth 100000 in
theorem eq_Ref_search_78 (cl : Nat → List Value → ej_Mem → Option ej_R) (a0 : Nat) (l1 : Int32) (l2 : Int32) (l3 : Int32) (l4 : Int32) (M : ej_Mem) : rn jm_Ref_search cl 78 [some (.ref a0), some (.int l1), some (.int l2), some (.int l3), some (.int l4)] [] M =
    ckk (mC M a0 = 9) (deR (mR M a0 29) fun q1 => ckk (mC M q1 = 100) (ckb (0 : Int32) (mN M q1) (rn jm_Ref_search cl 85 [some (.ref a0), some (.int l1), some (.int l2), some (.int l3), some (.int l4)] [] (setA M q1 (Int32.toNatClampNeg (0 : Int32)) (-1 : Int32))))) :=
  tr_eb [46, 51, 56, 78, 85, 92, 97, 102, 107, 130] 6 rfl
set_option maxRecDepth 100000 in
theorem eq_Ref_search_85 (cl : Nat → List Value → ej_Mem → Option ej_R) (a0 : Nat) (l1 : Int32) (l2 : Int32) (l3 : Int32) (l4 : Int32) (M : ej_Mem) : rn jm_Ref_search cl 85 [some (.ref a0), some (.int l1), some (.int l2), some (.int l3), some (.int l4)] [] M =
    ckk (mC M a0 = 9) (deR (mR M a0 30) fun q1 => ckk (mC M q1 = 100) (ckb (0 : Int32) (mN M q1) (rn jm_Ref_search cl 92 [some (.ref a0), some (.int l1), some (.int l2), some (.int l3), some (.int l4)] [] (setA M q1 (Int32.toNatClampNeg (0 : Int32)) (-1 : Int32))))) :=
  tr_eb [46, 51, 56, 78, 85, 92, 97, 102, 107, 130] 6 rfl
set_option maxRecDepth 100000 in
theorem eq_Ref_search_92 (cl : Nat → List Value → ej_Mem → Option ej_R) (a0 : Nat) (l1 : Int32) (l2 : Int32) (l3 : Int32) (l4 : Int32) (M : ej_Mem) : rn jm_Ref_search cl 92 [some (.ref a0), some (.int l1), some (.int l2), some (.int l3), some (.int l4)] [] M =
    ckk (mC M a0 = 9) (rn jm_Ref_search cl 97 [some (.ref a0), some (.int l1), some (.int l2), some (.int l3), some (.int l4)] [] (setI M a0 32 (1 : Int32))) :=
  tr_eb [46, 51, 56, 78, 85, 92, 97, 102, 107, 130] 4 rfl
set_option maxRecDepth 100000 in
theorem eq_Ref_search_97 (cl : Nat → List Value → ej_Mem → Option ej_R) (a0 : Nat) (l1 : Int32) (l2 : Int32) (l3 : Int32) (l4 : Int32) (M : ej_Mem) : rn jm_Ref_search cl 97 [some (.ref a0), some (.int l1), some (.int l2), some (.int l3), some (.int l4)] [] M =
    ckk (mC M a0 = 9) (rn jm_Ref_search cl 102 [some (.ref a0), some (.int l1), some (.int l2), some (.int l3), some (.int l4)] [] (setI M a0 33 (0 : Int32))) :=
  tr_eb [46, 51, 56, 78, 85, 92, 97, 102, 107, 130] 4 rfl
set_option maxRecDepth 100000 in
theorem eq_Ref_search_102 (cl : Nat → List Value → ej_Mem → Option ej_R) (a0 : Nat) (l1 : Int32) (l2 : Int32) (l3 : Int32) (l4 : Int32) (M : ej_Mem) : rn jm_Ref_search cl 102 [some (.ref a0), some (.int l1), some (.int l2), some (.int l3), some (.int l4)] [] M =
    ckk (mC M a0 = 9) (rn jm_Ref_search cl 107 [some (.ref a0), some (.int l1), some (.int l2), some (.int l3), some (.int l4)] [] (setI M a0 37 (0 : Int32))) :=
  tr_eb [46, 51, 56, 78, 85, 92, 97, 102, 107, 130] 4 rfl
set_option maxRecDepth 100000 in
theorem eq_Ref_search_107 (cl : Nat → List Value → ej_Mem → Option ej_R) (a0 : Nat) (l1 : Int32) (l2 : Int32) (l3 : Int32) (l4 : Int32) (M : ej_Mem) : rn jm_Ref_search cl 107 [some (.ref a0), some (.int l1), some (.int l2), some (.int l3), some (.int l4)] [] M =
    ckk (mC M a0 = 9) (deR (mR M a0 28) fun q1 => ckk (mC M q1 = 100) (ckb (0 : Int32) (mN M q1) (ckk (mC M a0 = 9) (bkI (cl jm_Ref_isWished [.ref a0, .int l2, .int (aI M q1 (Int32.toNatClampNeg (0 : Int32)))] M) fun x3 M2 =>
    (if x3 = (0 : Int32) then
      (ckk (mC M2 a0 = 9) (rn jm_Ref_search cl 130 [some (.ref a0), some (.int l1), some (.int l2), some (.int l3), some (.int l4)] [] (setI M2 a0 31 (1 : Int32)))) else
      (ckk (mC M2 a0 = 9) (rn jm_Ref_search cl 130 [some (.ref a0), some (.int l1), some (.int l2), some (.int l3), some (.int l4)] [] (setI M2 a0 31 (2 : Int32))))))))) :=
  tr_eb [46, 51, 56, 78, 85, 92, 97, 102, 107, 130] 13 rfl
set_option maxRecDepth 100000 in
theorem eq_Ref_search_130 (cl : Nat → List Value → ej_Mem → Option ej_R) (a0 : Nat) (l1 : Int32) (l2 : Int32) (l3 : Int32) (l4 : Int32) (M : ej_Mem) : rn jm_Ref_search cl 130 [some (.ref a0), some (.int l1), some (.int l2), some (.int l3), some (.int l4)] [] M =
    ckk ((1 : Int32) = 0 ∨ (1 : Int32) = 1) (some (some (.int (1 : Int32)), M)) :=
  tr_eb [46, 51, 56, 78, 85, 92, 97, 102, 107, 130] 2 rfl
theorem ca_Ref_search (d : Nat) (a0 : Nat) (l1 : Int32) (l2 : Int32) (l3 : Int32) (l4 : Int32) (M : ej_Mem) : cal (d + 1) jm_Ref_search [.ref a0, .int l1, .int l2, .int l3, .int l4] M = rn jm_Ref_search (cal d) 0 [some (.ref a0), some (.int l1), some (.int l2), some (.int l3), some (.int l4)] [] M := call_eq (show 5 ≤ 5 by decide)
set_option maxRecDepth 100000 in
theorem eq_Ref_go_0 (cl : Nat → List Value → ej_Mem → Option ej_R) (a0 : Nat) (l1 : Int32) (M : ej_Mem) : rn jm_Ref_go cl 0 [some (.ref a0), some (.int l1), none] [] M =
    bkI (cl jm_Ref_in [.long (Int32.toInt64 l1), .long (1 : Int64), .long (4000 : Int64)] M) fun x2 M1 =>
    (if x2 = (0 : Int32) then
      (some (some (.int (-1 : Int32)), M1)) else
      (ckk (mC M1 a0 = 9) ((if (mI M1 a0 31) = (0 : Int32) then
        (some (some (.int (-1 : Int32)), M1)) else
        (ckk (mC M1 a0 = 9) (ckk (mC M1 a0 = 9) (rn jm_Ref_go cl 33 [some (.ref a0), some (.int l1), some (.int (0 : Int32))] [] (setI M1 a0 27 ((mI M1 a0 27) + (1 : Int32)))))))))) :=
  tr_eb [33, 60] 18 rfl
set_option maxRecDepth 100000 in
theorem eq_Ref_go_33 (cl : Nat → List Value → ej_Mem → Option ej_R) (a0 : Nat) (l1 : Int32) (l2 : Int32) (M : ej_Mem) : rn jm_Ref_go cl 33 [some (.ref a0), some (.int l1), some (.int l2)] [] M =
    ckk (mC M a0 = 9) ((if (mI M a0 32) ≤ l2 then
      (rn jm_Ref_go cl 60 [some (.ref a0), some (.int l1), some (.int (0 : Int32))] [] M) else
      (ckk (mC M a0 = 9) (deR (mR M a0 28) fun q1 => ckk (mC M q1 = 100) (ckb l2 (mN M q1) (ckk (mC M a0 = 9) (bkV (cl jm_Ref_marks [.ref a0, .int (aI M q1 (Int32.toNatClampNeg l2)), .int l2] M) fun M2 =>
      rn jm_Ref_go cl 33 [some (.ref a0), some (.int l1), some (.int (l2 + (1 : Int32)))] [] M2))))))) :=
  tr_eb [33, 60] 14 rfl
set_option maxRecDepth 100000 in
theorem eq_Ref_go_60 (cl : Nat → List Value → ej_Mem → Option ej_R) (a0 : Nat) (l1 : Int32) (l2 : Int32) (M : ej_Mem) : rn jm_Ref_go cl 60 [some (.ref a0), some (.int l1), some (.int l2)] [] M =
    (if l1 ≤ l2 then
      (some (some (.int l2), M)) else
      (ckk (mC M a0 = 9) ((if (mI M a0 31) = (1 : Int32) then
        (ckk (mC M a0 = 9) (bkV (cl jm_Ref_goesThrough [.ref a0] M) fun M1 =>
        rn jm_Ref_go cl 60 [some (.ref a0), some (.int l1), some (.int (l2 + (1 : Int32)))] [] M1)) else
        (some (some (.int l2), M)))))) :=
  tr_eb [33, 60] 12 rfl
theorem ca_Ref_go (d : Nat) (a0 : Nat) (l1 : Int32) (M : ej_Mem) : cal (d + 1) jm_Ref_go [.ref a0, .int l1] M = rn jm_Ref_go (cal d) 0 [some (.ref a0), some (.int l1), none] [] M := call_eq (show 2 ≤ 3 by decide)
set_option maxRecDepth 100000 in
theorem eq_Ref_goesThrough_0 (cl : Nat → List Value → ej_Mem → Option ej_R) (a0 : Nat) (M : ej_Mem) : rn jm_Ref_goesThrough cl 0 [some (.ref a0), none, none, none] [] M =
    ckk (mC M a0 = 9) (ckk (mC M a0 = 9) (ckk (mC M a0 = 9) (rn jm_Ref_goesThrough cl 17 [some (.ref a0), some (.int (mI M a0 33)), some (.int (0 : Int32)), none] [] (setI M a0 33 ((mI M a0 33) + (1 : Int32)))))) :=
  tr_eb [17] 12 rfl
set_option maxRecDepth 100000 in
theorem eq_Ref_goesThrough_17 (cl : Nat → List Value → ej_Mem → Option ej_R) (a0 : Nat) (l1 : Int32) (l2 : Int32) (o3 : Option Value) (M : ej_Mem) : rn jm_Ref_goesThrough cl 17 [some (.ref a0), some (.int l1), some (.int l2), o3] [] M =
    ckk (mC M a0 = 9) (deR (mR M a0 11) fun q1 => ckk (mC M q1 = 100) (ckb (0 : Int32) (mN M q1) ((if (aI M q1 (Int32.toNatClampNeg (0 : Int32))) ≤ l2 then
      (ckk (mC M a0 = 9) ((if (mI M a0 31) = (1 : Int32) then
        (ckk (mC M a0 = 9) (ckk (mC M a0 = 9) ((if (mI M a0 33) = (mI M a0 32) then
          (ckk (mC M a0 = 9) (some (none, (setI M a0 31 (3 : Int32))))) else
          (ckk (mC M a0 = 9) (ckk (mC M a0 = 9) (some (none, (setI M a0 31 (mI M a0 31)))))))))) else
        (ckk (mC M a0 = 9) (ckk (mC M a0 = 9) (some (none, (setI M a0 31 (mI M a0 31))))))))) else
      (ckk (mC M a0 = 9) ((if (mI M a0 31) = (1 : Int32) then
        (ckk (mC M a0 = 9) (ckk (mC M a0 = 9) (ckk (mC M a0 = 9) (deR (mR M a0 28) fun q2 => ckk (mC M q2 = 100) (ckb l1 (mN M q2) (ckk (mC M a0 = 9) (bkI (cl jm_Ref_mayBe [.ref a0, .int (mI M a0 34), .int (mI M a0 36), .int l2, .int (aI M q2 (Int32.toNatClampNeg l1))] M) fun x4 M3 =>
        (if x4 = (0 : Int32) then
          (rn jm_Ref_goesThrough cl 17 [some (.ref a0), some (.int l1), some (.int (l2 + (1 : Int32))), o3] [] M3) else
          (ckk (mC M3 a0 = 9) (deR (mR M3 a0 28) fun q5 => ckk (mC M3 q5 = 100) (ckb l1 (mN M3 q5) (ckk (mC M3 a0 = 9) (bkI (cl jm_Ref_behind [.ref a0, .int l2, .int (aI M3 q5 (Int32.toNatClampNeg l1))] M3) fun x7 M6 =>
          ckk (mC M6 a0 = 9) (bkI (cl jm_Ref_isMet [.ref a0, .int x7] M6) fun x9 M8 =>
          (if x9 = (0 : Int32) then
            (ckk (mC M8 a0 = 9) (bkV (cl jm_Ref_meets [.ref a0, .int x7, .int l1, .int l2] M8) fun M10 =>
            rn jm_Ref_goesThrough cl 17 [some (.ref a0), some (.int l1), some (.int (l2 + (1 : Int32))), some (.int x7)] [] M10)) else
            (rn jm_Ref_goesThrough cl 17 [some (.ref a0), some (.int l1), some (.int (l2 + (1 : Int32))), some (.int x7)] [] M8)))))))))))))))) else
        (ckk (mC M a0 = 9) ((if (mI M a0 31) = (1 : Int32) then
          (ckk (mC M a0 = 9) (ckk (mC M a0 = 9) ((if (mI M a0 33) = (mI M a0 32) then
            (ckk (mC M a0 = 9) (some (none, (setI M a0 31 (3 : Int32))))) else
            (ckk (mC M a0 = 9) (ckk (mC M a0 = 9) (some (none, (setI M a0 31 (mI M a0 31)))))))))) else
          (ckk (mC M a0 = 9) (ckk (mC M a0 = 9) (some (none, (setI M a0 31 (mI M a0 31)))))))))))))))) :=
  tr_eb [17] 42 rfl
theorem ca_Ref_goesThrough (d : Nat) (a0 : Nat) (M : ej_Mem) : cal (d + 1) jm_Ref_goesThrough [.ref a0] M = rn jm_Ref_goesThrough (cal d) 0 [some (.ref a0), none, none, none] [] M := call_eq (show 1 ≤ 4 by decide)
set_option maxRecDepth 100000 in
theorem eq_Ref_meets_0 (cl : Nat → List Value → ej_Mem → Option ej_R) (a0 : Nat) (l1 : Int32) (l2 : Int32) (l3 : Int32) (M : ej_Mem) : rn jm_Ref_meets cl 0 [some (.ref a0), some (.int l1), some (.int l2), some (.int l3)] [] M =
    ckk (mC M a0 = 9) ((if (mI M a0 32) = (4000 : Int32) then
      (ckk (mC M a0 = 9) (some (none, (setI M a0 31 (4 : Int32))))) else
      (ckk (mC M a0 = 9) (ckk (mC M a0 = 9) (bkV (cl jm_Ref_marks [.ref a0, .int l1, .int (mI M a0 32)] M) fun M1 =>
      ckk (mC M1 a0 = 9) (deR (mR M1 a0 28) fun q2 => ckk (mC M1 a0 = 9) (ckk (mC M1 q2 = 100) (ckb (mI M1 a0 32) (mN M1 q2) (ckk (mC (setA M1 q2 (Int32.toNatClampNeg (mI M1 a0 32)) l1) a0 = 9) (deR (mR (setA M1 q2 (Int32.toNatClampNeg (mI M1 a0 32)) l1) a0 29) fun q3 => ckk (mC (setA M1 q2 (Int32.toNatClampNeg (mI M1 a0 32)) l1) a0 = 9) (ckk (mC (setA M1 q2 (Int32.toNatClampNeg (mI M1 a0 32)) l1) q3 = 100) (ckb (mI (setA M1 q2 (Int32.toNatClampNeg (mI M1 a0 32)) l1) a0 32) (mN (setA M1 q2 (Int32.toNatClampNeg (mI M1 a0 32)) l1) q3) (ckk (mC (setA (setA M1 q2 (Int32.toNatClampNeg (mI M1 a0 32)) l1) q3 (Int32.toNatClampNeg (mI (setA M1 q2 (Int32.toNatClampNeg (mI M1 a0 32)) l1) a0 32)) l2) a0 = 9) (deR (mR (setA (setA M1 q2 (Int32.toNatClampNeg (mI M1 a0 32)) l1) q3 (Int32.toNatClampNeg (mI (setA M1 q2 (Int32.toNatClampNeg (mI M1 a0 32)) l1) a0 32)) l2) a0 30) fun q4 => ckk (mC (setA (setA M1 q2 (Int32.toNatClampNeg (mI M1 a0 32)) l1) q3 (Int32.toNatClampNeg (mI (setA M1 q2 (Int32.toNatClampNeg (mI M1 a0 32)) l1) a0 32)) l2) a0 = 9) (ckk (mC (setA (setA M1 q2 (Int32.toNatClampNeg (mI M1 a0 32)) l1) q3 (Int32.toNatClampNeg (mI (setA M1 q2 (Int32.toNatClampNeg (mI M1 a0 32)) l1) a0 32)) l2) q4 = 100) (ckb (mI (setA (setA M1 q2 (Int32.toNatClampNeg (mI M1 a0 32)) l1) q3 (Int32.toNatClampNeg (mI (setA M1 q2 (Int32.toNatClampNeg (mI M1 a0 32)) l1) a0 32)) l2) a0 32) (mN (setA (setA M1 q2 (Int32.toNatClampNeg (mI M1 a0 32)) l1) q3 (Int32.toNatClampNeg (mI (setA M1 q2 (Int32.toNatClampNeg (mI M1 a0 32)) l1) a0 32)) l2) q4) (ckk (mC (setA (setA (setA M1 q2 (Int32.toNatClampNeg (mI M1 a0 32)) l1) q3 (Int32.toNatClampNeg (mI (setA M1 q2 (Int32.toNatClampNeg (mI M1 a0 32)) l1) a0 32)) l2) q4 (Int32.toNatClampNeg (mI (setA (setA M1 q2 (Int32.toNatClampNeg (mI M1 a0 32)) l1) q3 (Int32.toNatClampNeg (mI (setA M1 q2 (Int32.toNatClampNeg (mI M1 a0 32)) l1) a0 32)) l2) a0 32)) l3) a0 = 9) (ckk (mC (setA (setA (setA M1 q2 (Int32.toNatClampNeg (mI M1 a0 32)) l1) q3 (Int32.toNatClampNeg (mI (setA M1 q2 (Int32.toNatClampNeg (mI M1 a0 32)) l1) a0 32)) l2) q4 (Int32.toNatClampNeg (mI (setA (setA M1 q2 (Int32.toNatClampNeg (mI M1 a0 32)) l1) q3 (Int32.toNatClampNeg (mI (setA M1 q2 (Int32.toNatClampNeg (mI M1 a0 32)) l1) a0 32)) l2) a0 32)) l3) a0 = 9) (ckk (mC (setI (setA (setA (setA M1 q2 (Int32.toNatClampNeg (mI M1 a0 32)) l1) q3 (Int32.toNatClampNeg (mI (setA M1 q2 (Int32.toNatClampNeg (mI M1 a0 32)) l1) a0 32)) l2) q4 (Int32.toNatClampNeg (mI (setA (setA M1 q2 (Int32.toNatClampNeg (mI M1 a0 32)) l1) q3 (Int32.toNatClampNeg (mI (setA M1 q2 (Int32.toNatClampNeg (mI M1 a0 32)) l1) a0 32)) l2) a0 32)) l3) a0 37 (mI (setA (setA (setA M1 q2 (Int32.toNatClampNeg (mI M1 a0 32)) l1) q3 (Int32.toNatClampNeg (mI (setA M1 q2 (Int32.toNatClampNeg (mI M1 a0 32)) l1) a0 32)) l2) q4 (Int32.toNatClampNeg (mI (setA (setA M1 q2 (Int32.toNatClampNeg (mI M1 a0 32)) l1) q3 (Int32.toNatClampNeg (mI (setA M1 q2 (Int32.toNatClampNeg (mI M1 a0 32)) l1) a0 32)) l2) a0 32)) l3) a0 32)) a0 = 9) (ckk (mC (setI (setA (setA (setA M1 q2 (Int32.toNatClampNeg (mI M1 a0 32)) l1) q3 (Int32.toNatClampNeg (mI (setA M1 q2 (Int32.toNatClampNeg (mI M1 a0 32)) l1) a0 32)) l2) q4 (Int32.toNatClampNeg (mI (setA (setA M1 q2 (Int32.toNatClampNeg (mI M1 a0 32)) l1) q3 (Int32.toNatClampNeg (mI (setA M1 q2 (Int32.toNatClampNeg (mI M1 a0 32)) l1) a0 32)) l2) a0 32)) l3) a0 37 (mI (setA (setA (setA M1 q2 (Int32.toNatClampNeg (mI M1 a0 32)) l1) q3 (Int32.toNatClampNeg (mI (setA M1 q2 (Int32.toNatClampNeg (mI M1 a0 32)) l1) a0 32)) l2) q4 (Int32.toNatClampNeg (mI (setA (setA M1 q2 (Int32.toNatClampNeg (mI M1 a0 32)) l1) q3 (Int32.toNatClampNeg (mI (setA M1 q2 (Int32.toNatClampNeg (mI M1 a0 32)) l1) a0 32)) l2) a0 32)) l3) a0 32)) a0 = 9) (ckk (mC (setI (setI (setA (setA (setA M1 q2 (Int32.toNatClampNeg (mI M1 a0 32)) l1) q3 (Int32.toNatClampNeg (mI (setA M1 q2 (Int32.toNatClampNeg (mI M1 a0 32)) l1) a0 32)) l2) q4 (Int32.toNatClampNeg (mI (setA (setA M1 q2 (Int32.toNatClampNeg (mI M1 a0 32)) l1) q3 (Int32.toNatClampNeg (mI (setA M1 q2 (Int32.toNatClampNeg (mI M1 a0 32)) l1) a0 32)) l2) a0 32)) l3) a0 37 (mI (setA (setA (setA M1 q2 (Int32.toNatClampNeg (mI M1 a0 32)) l1) q3 (Int32.toNatClampNeg (mI (setA M1 q2 (Int32.toNatClampNeg (mI M1 a0 32)) l1) a0 32)) l2) q4 (Int32.toNatClampNeg (mI (setA (setA M1 q2 (Int32.toNatClampNeg (mI M1 a0 32)) l1) q3 (Int32.toNatClampNeg (mI (setA M1 q2 (Int32.toNatClampNeg (mI M1 a0 32)) l1) a0 32)) l2) a0 32)) l3) a0 32)) a0 32 ((mI (setI (setA (setA (setA M1 q2 (Int32.toNatClampNeg (mI M1 a0 32)) l1) q3 (Int32.toNatClampNeg (mI (setA M1 q2 (Int32.toNatClampNeg (mI M1 a0 32)) l1) a0 32)) l2) q4 (Int32.toNatClampNeg (mI (setA (setA M1 q2 (Int32.toNatClampNeg (mI M1 a0 32)) l1) q3 (Int32.toNatClampNeg (mI (setA M1 q2 (Int32.toNatClampNeg (mI M1 a0 32)) l1) a0 32)) l2) a0 32)) l3) a0 37 (mI (setA (setA (setA M1 q2 (Int32.toNatClampNeg (mI M1 a0 32)) l1) q3 (Int32.toNatClampNeg (mI (setA M1 q2 (Int32.toNatClampNeg (mI M1 a0 32)) l1) a0 32)) l2) q4 (Int32.toNatClampNeg (mI (setA (setA M1 q2 (Int32.toNatClampNeg (mI M1 a0 32)) l1) q3 (Int32.toNatClampNeg (mI (setA M1 q2 (Int32.toNatClampNeg (mI M1 a0 32)) l1) a0 32)) l2) a0 32)) l3) a0 32)) a0 32) + (1 : Int32))) a0 = 9) (ckk (mC (setI (setI (setA (setA (setA M1 q2 (Int32.toNatClampNeg (mI M1 a0 32)) l1) q3 (Int32.toNatClampNeg (mI (setA M1 q2 (Int32.toNatClampNeg (mI M1 a0 32)) l1) a0 32)) l2) q4 (Int32.toNatClampNeg (mI (setA (setA M1 q2 (Int32.toNatClampNeg (mI M1 a0 32)) l1) q3 (Int32.toNatClampNeg (mI (setA M1 q2 (Int32.toNatClampNeg (mI M1 a0 32)) l1) a0 32)) l2) a0 32)) l3) a0 37 (mI (setA (setA (setA M1 q2 (Int32.toNatClampNeg (mI M1 a0 32)) l1) q3 (Int32.toNatClampNeg (mI (setA M1 q2 (Int32.toNatClampNeg (mI M1 a0 32)) l1) a0 32)) l2) q4 (Int32.toNatClampNeg (mI (setA (setA M1 q2 (Int32.toNatClampNeg (mI M1 a0 32)) l1) q3 (Int32.toNatClampNeg (mI (setA M1 q2 (Int32.toNatClampNeg (mI M1 a0 32)) l1) a0 32)) l2) a0 32)) l3) a0 32)) a0 32 ((mI (setI (setA (setA (setA M1 q2 (Int32.toNatClampNeg (mI M1 a0 32)) l1) q3 (Int32.toNatClampNeg (mI (setA M1 q2 (Int32.toNatClampNeg (mI M1 a0 32)) l1) a0 32)) l2) q4 (Int32.toNatClampNeg (mI (setA (setA M1 q2 (Int32.toNatClampNeg (mI M1 a0 32)) l1) q3 (Int32.toNatClampNeg (mI (setA M1 q2 (Int32.toNatClampNeg (mI M1 a0 32)) l1) a0 32)) l2) a0 32)) l3) a0 37 (mI (setA (setA (setA M1 q2 (Int32.toNatClampNeg (mI M1 a0 32)) l1) q3 (Int32.toNatClampNeg (mI (setA M1 q2 (Int32.toNatClampNeg (mI M1 a0 32)) l1) a0 32)) l2) q4 (Int32.toNatClampNeg (mI (setA (setA M1 q2 (Int32.toNatClampNeg (mI M1 a0 32)) l1) q3 (Int32.toNatClampNeg (mI (setA M1 q2 (Int32.toNatClampNeg (mI M1 a0 32)) l1) a0 32)) l2) a0 32)) l3) a0 32)) a0 32) + (1 : Int32))) a0 = 9) (bkI (cl jm_Ref_isWished [.ref a0, .int (mI (setI (setI (setA (setA (setA M1 q2 (Int32.toNatClampNeg (mI M1 a0 32)) l1) q3 (Int32.toNatClampNeg (mI (setA M1 q2 (Int32.toNatClampNeg (mI M1 a0 32)) l1) a0 32)) l2) q4 (Int32.toNatClampNeg (mI (setA (setA M1 q2 (Int32.toNatClampNeg (mI M1 a0 32)) l1) q3 (Int32.toNatClampNeg (mI (setA M1 q2 (Int32.toNatClampNeg (mI M1 a0 32)) l1) a0 32)) l2) a0 32)) l3) a0 37 (mI (setA (setA (setA M1 q2 (Int32.toNatClampNeg (mI M1 a0 32)) l1) q3 (Int32.toNatClampNeg (mI (setA M1 q2 (Int32.toNatClampNeg (mI M1 a0 32)) l1) a0 32)) l2) q4 (Int32.toNatClampNeg (mI (setA (setA M1 q2 (Int32.toNatClampNeg (mI M1 a0 32)) l1) q3 (Int32.toNatClampNeg (mI (setA M1 q2 (Int32.toNatClampNeg (mI M1 a0 32)) l1) a0 32)) l2) a0 32)) l3) a0 32)) a0 32 ((mI (setI (setA (setA (setA M1 q2 (Int32.toNatClampNeg (mI M1 a0 32)) l1) q3 (Int32.toNatClampNeg (mI (setA M1 q2 (Int32.toNatClampNeg (mI M1 a0 32)) l1) a0 32)) l2) q4 (Int32.toNatClampNeg (mI (setA (setA M1 q2 (Int32.toNatClampNeg (mI M1 a0 32)) l1) q3 (Int32.toNatClampNeg (mI (setA M1 q2 (Int32.toNatClampNeg (mI M1 a0 32)) l1) a0 32)) l2) a0 32)) l3) a0 37 (mI (setA (setA (setA M1 q2 (Int32.toNatClampNeg (mI M1 a0 32)) l1) q3 (Int32.toNatClampNeg (mI (setA M1 q2 (Int32.toNatClampNeg (mI M1 a0 32)) l1) a0 32)) l2) q4 (Int32.toNatClampNeg (mI (setA (setA M1 q2 (Int32.toNatClampNeg (mI M1 a0 32)) l1) q3 (Int32.toNatClampNeg (mI (setA M1 q2 (Int32.toNatClampNeg (mI M1 a0 32)) l1) a0 32)) l2) a0 32)) l3) a0 32)) a0 32) + (1 : Int32))) a0 35), .int l1] (setI (setI (setA (setA (setA M1 q2 (Int32.toNatClampNeg (mI M1 a0 32)) l1) q3 (Int32.toNatClampNeg (mI (setA M1 q2 (Int32.toNatClampNeg (mI M1 a0 32)) l1) a0 32)) l2) q4 (Int32.toNatClampNeg (mI (setA (setA M1 q2 (Int32.toNatClampNeg (mI M1 a0 32)) l1) q3 (Int32.toNatClampNeg (mI (setA M1 q2 (Int32.toNatClampNeg (mI M1 a0 32)) l1) a0 32)) l2) a0 32)) l3) a0 37 (mI (setA (setA (setA M1 q2 (Int32.toNatClampNeg (mI M1 a0 32)) l1) q3 (Int32.toNatClampNeg (mI (setA M1 q2 (Int32.toNatClampNeg (mI M1 a0 32)) l1) a0 32)) l2) q4 (Int32.toNatClampNeg (mI (setA (setA M1 q2 (Int32.toNatClampNeg (mI M1 a0 32)) l1) q3 (Int32.toNatClampNeg (mI (setA M1 q2 (Int32.toNatClampNeg (mI M1 a0 32)) l1) a0 32)) l2) a0 32)) l3) a0 32)) a0 32 ((mI (setI (setA (setA (setA M1 q2 (Int32.toNatClampNeg (mI M1 a0 32)) l1) q3 (Int32.toNatClampNeg (mI (setA M1 q2 (Int32.toNatClampNeg (mI M1 a0 32)) l1) a0 32)) l2) q4 (Int32.toNatClampNeg (mI (setA (setA M1 q2 (Int32.toNatClampNeg (mI M1 a0 32)) l1) q3 (Int32.toNatClampNeg (mI (setA M1 q2 (Int32.toNatClampNeg (mI M1 a0 32)) l1) a0 32)) l2) a0 32)) l3) a0 37 (mI (setA (setA (setA M1 q2 (Int32.toNatClampNeg (mI M1 a0 32)) l1) q3 (Int32.toNatClampNeg (mI (setA M1 q2 (Int32.toNatClampNeg (mI M1 a0 32)) l1) a0 32)) l2) q4 (Int32.toNatClampNeg (mI (setA (setA M1 q2 (Int32.toNatClampNeg (mI M1 a0 32)) l1) q3 (Int32.toNatClampNeg (mI (setA M1 q2 (Int32.toNatClampNeg (mI M1 a0 32)) l1) a0 32)) l2) a0 32)) l3) a0 32)) a0 32) + (1 : Int32)))) fun x6 M5 =>
      (if x6 = (0 : Int32) then
        (ckk (mC M5 a0 = 9) (some (none, (setI M5 a0 31 (1 : Int32))))) else
        (ckk (mC M5 a0 = 9) (some (none, (setI M5 a0 31 (2 : Int32))))))))))))))))))))))))))))) :=
  tr_eb [] 48 rfl
theorem ca_Ref_meets (d : Nat) (a0 : Nat) (l1 : Int32) (l2 : Int32) (l3 : Int32) (M : ej_Mem) : cal (d + 1) jm_Ref_meets [.ref a0, .int l1, .int l2, .int l3] M = rn jm_Ref_meets (cal d) 0 [some (.ref a0), some (.int l1), some (.int l2), some (.int l3)] [] M := call_eq (show 4 ≤ 4 by decide)
set_option maxRecDepth 100000 in
theorem eq_Ref_rowMany_0 (cl : Nat → List Value → ej_Mem → Option ej_R) (a0 : Nat) (M : ej_Mem) : rn jm_Ref_rowMany cl 0 [some (.ref a0), none, none] [] M =
    ckk (mC M a0 = 9) (rn jm_Ref_rowMany cl 7 [some (.ref a0), some (.int (0 : Int32)), some (.int (mI M a0 37))] [] M) :=
  tr_eb [7] 6 rfl
set_option maxRecDepth 100000 in
theorem eq_Ref_rowMany_7 (cl : Nat → List Value → ej_Mem → Option ej_R) (a0 : Nat) (l1 : Int32) (l2 : Int32) (M : ej_Mem) : rn jm_Ref_rowMany cl 7 [some (.ref a0), some (.int l1), some (.int l2)] [] M =
    ckk (mC M a0 = 9) (deR (mR M a0 29) fun q1 => ckk (mC M q1 = 100) (ckb l2 (mN M q1) ((if (aI M q1 (Int32.toNatClampNeg l2)) = (-1 : Int32) then
      (some (some (.int l1), M)) else
      (ckk (mC M a0 = 9) (deR (mR M a0 29) fun q2 => ckk (mC M q2 = 100) (ckb l2 (mN M q2) (rn jm_Ref_rowMany cl 7 [some (.ref a0), some (.int (l1 + (1 : Int32))), some (.int (aI M q2 (Int32.toNatClampNeg l2)))] [] M)))))))) :=
  tr_eb [7] 14 rfl
theorem ca_Ref_rowMany (d : Nat) (a0 : Nat) (M : ej_Mem) : cal (d + 1) jm_Ref_rowMany [.ref a0] M = rn jm_Ref_rowMany (cal d) 0 [some (.ref a0), none, none] [] M := call_eq (show 1 ≤ 3 by decide)
set_option maxRecDepth 100000 in
theorem eq_Ref_sought_0 (cl : Nat → List Value → ej_Mem → Option ej_R) (a0 : Nat) (l1 : Int32) (M : ej_Mem) : rn jm_Ref_sought cl 0 [some (.ref a0), some (.int l1)] [] M =
    (if l1 = (0 : Int32) then
      (ckk (mC M a0 = 9) (some (some (.int (mI M a0 31)), M))) else if l1 = (1 : Int32) then
      (ckk (mC M a0 = 9) (some (some (.int (mI M a0 32)), M))) else if l1 = (2 : Int32) then
      (ckk (mC M a0 = 9) (some (some (.int (mI M a0 33)), M))) else if l1 = (3 : Int32) then
      (ckk (mC M a0 = 9) ((if (mI M a0 31) = (2 : Int32) then
        (ckk (mC M a0 = 9) (bkI (cl jm_Ref_rowMany [.ref a0] M) fun x2 M1 =>
        some (some (.int x2), M1))) else
        (some (some (.int (-1 : Int32)), M))))) else (some (some (.int (-1 : Int32)), M))) :=
  tr_eb [] 10 rfl
theorem ca_Ref_sought (d : Nat) (a0 : Nat) (l1 : Int32) (M : ej_Mem) : cal (d + 1) jm_Ref_sought [.ref a0, .int l1] M = rn jm_Ref_sought (cal d) 0 [some (.ref a0), some (.int l1)] [] M := call_eq (show 2 ≤ 2 by decide)
set_option maxRecDepth 100000 in
theorem eq_Ref_row_0 (cl : Nat → List Value → ej_Mem → Option ej_R) (a0 : Nat) (l1 : Int32) (M : ej_Mem) : rn jm_Ref_row cl 0 [some (.ref a0), some (.int l1), none, none] [] M =
    ckk (mC M a0 = 9) ((if (mI M a0 31) = (2 : Int32) then
      (ckk (mC M a0 = 9) (bkI (cl jm_Ref_rowMany [.ref a0] M) fun x2 M1 =>
      bkI (cl jm_Ref_in [.long (Int32.toInt64 l1), .long (0 : Int64), .long (Int32.toInt64 (x2 - (1 : Int32)))] M1) fun x4 M3 =>
      (if x4 = (0 : Int32) then
        (some (some (.int (-1 : Int32)), M3)) else
        (ckk (mC M3 a0 = 9) (ckk (mC M3 a0 = 9) (bkI (cl jm_Ref_rowMany [.ref a0] M3) fun x6 M5 =>
        rn jm_Ref_row cl 38 [some (.ref a0), some (.int l1), some (.int (mI M3 a0 37)), some (.int (x6 - (1 : Int32)))] [] M5)))))) else
      (some (some (.int (-1 : Int32)), M)))) :=
  tr_eb [38] 23 rfl
set_option maxRecDepth 100000 in
theorem eq_Ref_row_38 (cl : Nat → List Value → ej_Mem → Option ej_R) (a0 : Nat) (l1 : Int32) (l2 : Int32) (l3 : Int32) (M : ej_Mem) : rn jm_Ref_row cl 38 [some (.ref a0), some (.int l1), some (.int l2), some (.int l3)] [] M =
    (if l3 ≤ l1 then
      (ckk (mC M a0 = 9) (deR (mR M a0 30) fun q1 => ckk (mC M q1 = 100) (ckb l2 (mN M q1) (some (some (.int (aI M q1 (Int32.toNatClampNeg l2))), M))))) else
      (ckk (mC M a0 = 9) (deR (mR M a0 29) fun q2 => ckk (mC M q2 = 100) (ckb l2 (mN M q2) (rn jm_Ref_row cl 38 [some (.ref a0), some (.int l1), some (.int (aI M q2 (Int32.toNatClampNeg l2))), some (.int (l3 + (-1 : Int32)))] [] M))))) :=
  tr_eb [38] 11 rfl
theorem ca_Ref_row (d : Nat) (a0 : Nat) (l1 : Int32) (M : ej_Mem) : cal (d + 1) jm_Ref_row [.ref a0, .int l1] M = rn jm_Ref_row (cal d) 0 [some (.ref a0), some (.int l1), none, none] [] M := call_eq (show 2 ≤ 4 by decide)
set_option maxRecDepth 100000 in
theorem eq_Ref_met_0 (cl : Nat → List Value → ej_Mem → Option ej_R) (a0 : Nat) (l1 : Int32) (M : ej_Mem) : rn jm_Ref_met cl 0 [some (.ref a0), some (.int l1)] [] M =
    ckk (mC M a0 = 9) (bkI (cl jm_Ref_in [.long (Int32.toInt64 l1), .long (0 : Int64), .long (Int32.toInt64 ((mI M a0 32) - (1 : Int32)))] M) fun x2 M1 =>
    (if x2 = (0 : Int32) then
      (some (some (.int (-1 : Int32)), M1)) else
      (ckk (mC M1 a0 = 9) (deR (mR M1 a0 28) fun q3 => ckk (mC M1 q3 = 100) (ckb l1 (mN M1 q3) (some (some (.int (aI M1 q3 (Int32.toNatClampNeg l1))), M1))))))) :=
  tr_eb [] 16 rfl
theorem ca_Ref_met (d : Nat) (a0 : Nat) (l1 : Int32) (M : ej_Mem) : cal (d + 1) jm_Ref_met [.ref a0, .int l1] M = rn jm_Ref_met (cal d) 0 [some (.ref a0), some (.int l1)] [] M := call_eq (show 2 ≤ 2 by decide)
set_option maxRecDepth 100000 in
theorem eq_Ref_isTold_0 (cl : Nat → List Value → ej_Mem → Option ej_R) (a0 : Nat) (l1 : Int32) (l2 : Int32) (M : ej_Mem) : rn jm_Ref_isTold cl 0 [some (.ref a0), some (.int l1), some (.int l2)] [] M =
    ckk (mC M a0 = 9) ((if l1 = (mI M a0 41) then
      (ckk ((0 : Int32) = 0 ∨ (0 : Int32) = 1) (some (some (.int (0 : Int32)), M))) else
      (ckk (mC M a0 = 9) ((if (mI M a0 40) = (-1 : Int32) then
        (ckk (mC M a0 = 9) ((if (mI M a0 42) = (-1 : Int32) then
          (ckk ((1 : Int32) = 0 ∨ (1 : Int32) = 1) (some (some (.int (1 : Int32)), M))) else
          (ckk (mC M a0 = 9) (bkI (cl jm_Ref_turns [.ref a0, .int l1, .int l2] M) fun x2 M1 =>
          ckk (mC M1 a0 = 9) ((if (x2 &&& ((mI M1 a0 42) ^^^ (-1 : Int32))) = (0 : Int32) then
            (ckk ((1 : Int32) = 0 ∨ (1 : Int32) = 1) (some (some (.int (1 : Int32)), M1))) else
            (ckk ((0 : Int32) = 0 ∨ (0 : Int32) = 1) (some (some (.int (0 : Int32)), M1)))))))))) else
        (ckk (mC M a0 = 9) (bkI (cl jm_Ref_union [.ref a0, .int l1, .int (5 : Int32)] M) fun x4 M3 =>
        ckk (mC M3 a0 = 9) ((if (x4 &&& ((mI M3 a0 40) ^^^ (-1 : Int32))) = (0 : Int32) then
          (ckk (mC M3 a0 = 9) ((if (mI M3 a0 42) = (-1 : Int32) then
            (ckk ((1 : Int32) = 0 ∨ (1 : Int32) = 1) (some (some (.int (1 : Int32)), M3))) else
            (ckk (mC M3 a0 = 9) (bkI (cl jm_Ref_turns [.ref a0, .int l1, .int l2] M3) fun x6 M5 =>
            ckk (mC M5 a0 = 9) ((if (x6 &&& ((mI M5 a0 42) ^^^ (-1 : Int32))) = (0 : Int32) then
              (ckk ((1 : Int32) = 0 ∨ (1 : Int32) = 1) (some (some (.int (1 : Int32)), M5))) else
              (ckk ((0 : Int32) = 0 ∨ (0 : Int32) = 1) (some (some (.int (0 : Int32)), M5)))))))))) else
          (ckk ((0 : Int32) = 0 ∨ (0 : Int32) = 1) (some (some (.int (0 : Int32)), M3)))))))))))) :=
  tr_eb [] 35 rfl
theorem ca_Ref_isTold (d : Nat) (a0 : Nat) (l1 : Int32) (l2 : Int32) (M : ej_Mem) : cal (d + 1) jm_Ref_isTold [.ref a0, .int l1, .int l2] M = rn jm_Ref_isTold (cal d) 0 [some (.ref a0), some (.int l1), some (.int l2)] [] M := call_eq (show 3 ≤ 3 by decide)
set_option maxRecDepth 100000 in
theorem eq_Ref_reaches_0 (cl : Nat → List Value → ej_Mem → Option ej_R) (a0 : Nat) (l1 : Int32) (l2 : Int32) (l3 : Int32) (M : ej_Mem) : rn jm_Ref_reaches cl 0 [some (.ref a0), some (.int l1), some (.int l2), some (.int l3), none, none, none] [] M =
    ckk (mC M a0 = 9) (ckk (mC M a0 = 9) (rn jm_Ref_reaches cl 10 [some (.ref a0), some (.int l1), some (.int l2), some (.int l3), none, none, none] [] (setI M a0 27 ((mI M a0 27) + (1 : Int32))))) :=
  tr_eb [10, 21, 28, 33, 49, 73, 85, 187, 205, 218, 228] 7 rfl
set_option maxRecDepth 100000 in
theorem eq_Ref_reaches_10 (cl : Nat → List Value → ej_Mem → Option ej_R) (a0 : Nat) (l1 : Int32) (l2 : Int32) (l3 : Int32) (o4 : Option Value) (o5 : Option Value) (o6 : Option Value) (M : ej_Mem) : rn jm_Ref_reaches cl 10 [some (.ref a0), some (.int l1), some (.int l2), some (.int l3), o4, o5, o6] [] M =
    ckk (mC M a0 = 9) (deR (mR M a0 38) fun q1 => ckk (mC M a0 = 9) (bkI (cl jm_Ref_firstOf [.ref a0, .int l1] M) fun x3 M2 =>
    ckk (mC M2 q1 = 100) (ckb (0 : Int32) (mN M2 q1) (rn jm_Ref_reaches cl 21 [some (.ref a0), some (.int l1), some (.int l2), some (.int l3), o4, o5, o6] [] (setA M2 q1 (Int32.toNatClampNeg (0 : Int32)) x3))))) :=
  tr_eb [10, 21, 28, 33, 49, 73, 85, 187, 205, 218, 228] 8 rfl
set_option maxRecDepth 100000 in
theorem eq_Ref_reaches_21 (cl : Nat → List Value → ej_Mem → Option ej_R) (a0 : Nat) (l1 : Int32) (l2 : Int32) (l3 : Int32) (o4 : Option Value) (o5 : Option Value) (o6 : Option Value) (M : ej_Mem) : rn jm_Ref_reaches cl 21 [some (.ref a0), some (.int l1), some (.int l2), some (.int l3), o4, o5, o6] [] M =
    ckk (mC M a0 = 9) (deR (mR M a0 39) fun q1 => ckk (mC M q1 = 100) (ckb (0 : Int32) (mN M q1) (rn jm_Ref_reaches cl 28 [some (.ref a0), some (.int l1), some (.int l2), some (.int l3), o4, o5, o6] [] (setA M q1 (Int32.toNatClampNeg (0 : Int32)) (0 : Int32))))) :=
  tr_eb [10, 21, 28, 33, 49, 73, 85, 187, 205, 218, 228] 6 rfl
set_option maxRecDepth 100000 in
theorem eq_Ref_reaches_28 (cl : Nat → List Value → ej_Mem → Option ej_R) (a0 : Nat) (l1 : Int32) (l2 : Int32) (l3 : Int32) (o4 : Option Value) (o5 : Option Value) (o6 : Option Value) (M : ej_Mem) : rn jm_Ref_reaches cl 28 [some (.ref a0), some (.int l1), some (.int l2), some (.int l3), o4, o5, o6] [] M =
    ckk (mC M a0 = 9) (rn jm_Ref_reaches cl 33 [some (.ref a0), some (.int l1), some (.int l2), some (.int l3), o4, o5, o6] [] (setI M a0 44 (1 : Int32))) :=
  tr_eb [10, 21, 28, 33, 49, 73, 85, 187, 205, 218, 228] 4 rfl
set_option maxRecDepth 100000 in
theorem eq_Ref_reaches_33 (cl : Nat → List Value → ej_Mem → Option ej_R) (a0 : Nat) (l1 : Int32) (l2 : Int32) (l3 : Int32) (o4 : Option Value) (o5 : Option Value) (o6 : Option Value) (M : ej_Mem) : rn jm_Ref_reaches cl 33 [some (.ref a0), some (.int l1), some (.int l2), some (.int l3), o4, o5, o6] [] M =
    ckk (mC M a0 = 9) (deR (mR M a0 38) fun q1 => ckk (mC M q1 = 100) (ckb (0 : Int32) (mN M q1) (ckk (mC M a0 = 9) (bkV (cl jm_Ref_marks [.ref a0, .int (aI M q1 (Int32.toNatClampNeg (0 : Int32))), .int (0 : Int32)] M) fun M2 =>
    ckk (mC M2 a0 = 9) (rn jm_Ref_reaches cl 49 [some (.ref a0), some (.int l1), some (.int l2), some (.int l3), o4, o5, o6] [] (setI M2 a0 43 (0 : Int32))))))) :=
  tr_eb [10, 21, 28, 33, 49, 73, 85, 187, 205, 218, 228] 11 rfl
set_option maxRecDepth 100000 in
theorem eq_Ref_reaches_49 (cl : Nat → List Value → ej_Mem → Option ej_R) (a0 : Nat) (l1 : Int32) (l2 : Int32) (l3 : Int32) (o4 : Option Value) (o5 : Option Value) (o6 : Option Value) (M : ej_Mem) : rn jm_Ref_reaches cl 49 [some (.ref a0), some (.int l1), some (.int l2), some (.int l3), o4, o5, o6] [] M =
    (if l2 = (-1 : Int32) then
      (rn jm_Ref_reaches cl 73 [some (.ref a0), some (.int l1), some (.int l2), some (.int l3), some (.int (0 : Int32)), o5, o6] [] M) else
      (ckk (mC M a0 = 9) (deR (mR M a0 38) fun q1 => ckk (mC M q1 = 100) (ckb (0 : Int32) (mN M q1) (ckk (mC M a0 = 9) (bkI (cl jm_Ref_isWished [.ref a0, .int l2, .int (aI M q1 (Int32.toNatClampNeg (0 : Int32)))] M) fun x3 M2 =>
      (if x3 = (0 : Int32) then
        (rn jm_Ref_reaches cl 73 [some (.ref a0), some (.int l1), some (.int l2), some (.int l3), some (.int (0 : Int32)), o5, o6] [] M2) else
        (some (some (.int (2 : Int32)), M2))))))))) :=
  tr_eb [10, 21, 28, 33, 49, 73, 85, 187, 205, 218, 228] 14 rfl
set_option maxRecDepth 100000 in
theorem eq_Ref_reaches_73 (cl : Nat → List Value → ej_Mem → Option ej_R) (a0 : Nat) (l1 : Int32) (l2 : Int32) (l3 : Int32) (l4 : Int32) (o5 : Option Value) (o6 : Option Value) (M : ej_Mem) : rn jm_Ref_reaches cl 73 [some (.ref a0), some (.int l1), some (.int l2), some (.int l3), some (.int l4), o5, o6] [] M =
    ckk (mC M a0 = 9) ((if (mI M a0 44) ≤ l4 then
      (some (some (.int (3 : Int32)), M)) else
      (rn jm_Ref_reaches cl 85 [some (.ref a0), some (.int l1), some (.int l2), some (.int l3), some (.int l4), some (.int (0 : Int32)), o6] [] M))) :=
  tr_eb [10, 21, 28, 33, 49, 73, 85, 187, 205, 218, 228] 7 rfl
set_option maxRecDepth 100000 in
theorem eq_Ref_reaches_85 (cl : Nat → List Value → ej_Mem → Option ej_R) (a0 : Nat) (l1 : Int32) (l2 : Int32) (l3 : Int32) (l4 : Int32) (l5 : Int32) (o6 : Option Value) (M : ej_Mem) : rn jm_Ref_reaches cl 85 [some (.ref a0), some (.int l1), some (.int l2), some (.int l3), some (.int l4), some (.int l5), o6] [] M =
    ckk (mC M a0 = 9) (deR (mR M a0 11) fun q1 => ckk (mC M q1 = 100) (ckb (0 : Int32) (mN M q1) ((if (aI M q1 (Int32.toNatClampNeg (0 : Int32))) ≤ l5 then
      (rn jm_Ref_reaches cl 73 [some (.ref a0), some (.int l1), some (.int l2), some (.int l3), some (.int (l4 + (1 : Int32))), some (.int l5), o6] [] M) else
      (ckk (mC M a0 = 9) (deR (mR M a0 38) fun q2 => ckk (mC M q2 = 100) (ckb l4 (mN M q2) (ckk (mC M a0 = 9) (bkI (cl jm_Ref_isTold [.ref a0, .int l5, .int (aI M q2 (Int32.toNatClampNeg l4))] M) fun x4 M3 =>
      (if x4 = (0 : Int32) then
        (rn jm_Ref_reaches cl 85 [some (.ref a0), some (.int l1), some (.int l2), some (.int l3), some (.int l4), some (.int (l5 + (1 : Int32))), o6] [] M3) else
        (ckk (mC M3 a0 = 9) (deR (mR M3 a0 38) fun q5 => ckk (mC M3 q5 = 100) (ckb l4 (mN M3 q5) (ckk (mC M3 a0 = 9) (bkI (cl jm_Ref_mayBe [.ref a0, .int l1, .int l3, .int l5, .int (aI M3 q5 (Int32.toNatClampNeg l4))] M3) fun x7 M6 =>
        (if x7 = (0 : Int32) then
          (rn jm_Ref_reaches cl 85 [some (.ref a0), some (.int l1), some (.int l2), some (.int l3), some (.int l4), some (.int (l5 + (1 : Int32))), o6] [] M6) else
          (ckk (mC M6 a0 = 9) (deR (mR M6 a0 38) fun q8 => ckk (mC M6 q8 = 100) (ckb l4 (mN M6 q8) (ckk (mC M6 a0 = 9) (bkI (cl jm_Ref_behind [.ref a0, .int l5, .int (aI M6 q8 (Int32.toNatClampNeg l4))] M6) fun x10 M9 =>
          ckk (mC M9 a0 = 9) (bkI (cl jm_Ref_isMet [.ref a0, .int x10] M9) fun x12 M11 =>
          (if x12 = (0 : Int32) then
            (ckk (mC M11 a0 = 9) ((if (mI M11 a0 44) = (500 : Int32) then
              (some (some (.int (4 : Int32)), M11)) else
              (ckk (mC M11 a0 = 9) (ckk (mC M11 a0 = 9) (bkV (cl jm_Ref_marks [.ref a0, .int x10, .int (mI M11 a0 44)] M11) fun M13 =>
              ckk (mC M13 a0 = 9) (deR (mR M13 a0 38) fun q14 => ckk (mC M13 a0 = 9) (ckk (mC M13 q14 = 100) (ckb (mI M13 a0 44) (mN M13 q14) (rn jm_Ref_reaches cl 187 [some (.ref a0), some (.int l1), some (.int l2), some (.int l3), some (.int l4), some (.int l5), some (.int x10)] [] (setA M13 q14 (Int32.toNatClampNeg (mI M13 a0 44)) x10))))))))))) else
            (rn jm_Ref_reaches cl 85 [some (.ref a0), some (.int l1), some (.int l2), some (.int l3), some (.int l4), some (.int (l5 + (1 : Int32))), some (.int x10)] [] M11)))))))))))))))))))))))) :=
  tr_eb [10, 21, 28, 33, 49, 73, 85, 187, 205, 218, 228] 52 rfl
set_option maxRecDepth 100000 in
theorem eq_Ref_reaches_187 (cl : Nat → List Value → ej_Mem → Option ej_R) (a0 : Nat) (l1 : Int32) (l2 : Int32) (l3 : Int32) (l4 : Int32) (l5 : Int32) (l6 : Int32) (M : ej_Mem) : rn jm_Ref_reaches cl 187 [some (.ref a0), some (.int l1), some (.int l2), some (.int l3), some (.int l4), some (.int l5), some (.int l6)] [] M =
    ckk (mC M a0 = 9) (deR (mR M a0 39) fun q1 => ckk (mC M a0 = 9) (ckk (mC M a0 = 9) (deR (mR M a0 39) fun q2 => ckk (mC M q2 = 100) (ckb l4 (mN M q2) (ckk (mC M q1 = 100) (ckb (mI M a0 44) (mN M q1) (rn jm_Ref_reaches cl 205 [some (.ref a0), some (.int l1), some (.int l2), some (.int l3), some (.int l4), some (.int l5), some (.int l6)] [] (setA M q1 (Int32.toNatClampNeg (mI M a0 44)) ((aI M q2 (Int32.toNatClampNeg l4)) + (1 : Int32)))))))))) :=
  tr_eb [10, 21, 28, 33, 49, 73, 85, 187, 205, 218, 228] 12 rfl
set_option maxRecDepth 100000 in
theorem eq_Ref_reaches_205 (cl : Nat → List Value → ej_Mem → Option ej_R) (a0 : Nat) (l1 : Int32) (l2 : Int32) (l3 : Int32) (l4 : Int32) (l5 : Int32) (l6 : Int32) (M : ej_Mem) : rn jm_Ref_reaches cl 205 [some (.ref a0), some (.int l1), some (.int l2), some (.int l3), some (.int l4), some (.int l5), some (.int l6)] [] M =
    ckk (mC M a0 = 9) (deR (mR M a0 39) fun q1 => ckk (mC M a0 = 9) (ckk (mC M q1 = 100) (ckb (mI M a0 44) (mN M q1) (ckk (mC M a0 = 9) (rn jm_Ref_reaches cl 218 [some (.ref a0), some (.int l1), some (.int l2), some (.int l3), some (.int l4), some (.int l5), some (.int l6)] [] (setI M a0 43 (aI M q1 (Int32.toNatClampNeg (mI M a0 44))))))))) :=
  tr_eb [10, 21, 28, 33, 49, 73, 85, 187, 205, 218, 228] 8 rfl
set_option maxRecDepth 100000 in
theorem eq_Ref_reaches_218 (cl : Nat → List Value → ej_Mem → Option ej_R) (a0 : Nat) (l1 : Int32) (l2 : Int32) (l3 : Int32) (l4 : Int32) (l5 : Int32) (l6 : Int32) (M : ej_Mem) : rn jm_Ref_reaches cl 218 [some (.ref a0), some (.int l1), some (.int l2), some (.int l3), some (.int l4), some (.int l5), some (.int l6)] [] M =
    ckk (mC M a0 = 9) (ckk (mC M a0 = 9) (rn jm_Ref_reaches cl 228 [some (.ref a0), some (.int l1), some (.int l2), some (.int l3), some (.int l4), some (.int l5), some (.int l6)] [] (setI M a0 44 ((mI M a0 44) + (1 : Int32))))) :=
  tr_eb [10, 21, 28, 33, 49, 73, 85, 187, 205, 218, 228] 7 rfl
set_option maxRecDepth 100000 in
theorem eq_Ref_reaches_228 (cl : Nat → List Value → ej_Mem → Option ej_R) (a0 : Nat) (l1 : Int32) (l2 : Int32) (l3 : Int32) (l4 : Int32) (l5 : Int32) (l6 : Int32) (M : ej_Mem) : rn jm_Ref_reaches cl 228 [some (.ref a0), some (.int l1), some (.int l2), some (.int l3), some (.int l4), some (.int l5), some (.int l6)] [] M =
    (if l2 = (-1 : Int32) then
      (rn jm_Ref_reaches cl 85 [some (.ref a0), some (.int l1), some (.int l2), some (.int l3), some (.int l4), some (.int (l5 + (1 : Int32))), some (.int l6)] [] M) else
      (ckk (mC M a0 = 9) (bkI (cl jm_Ref_isWished [.ref a0, .int l2, .int l6] M) fun x2 M1 =>
      (if x2 = (0 : Int32) then
        (rn jm_Ref_reaches cl 85 [some (.ref a0), some (.int l1), some (.int l2), some (.int l3), some (.int l4), some (.int (l5 + (1 : Int32))), some (.int l6)] [] M1) else
        (some (some (.int (2 : Int32)), M1)))))) :=
  tr_eb [10, 21, 28, 33, 49, 73, 85, 187, 205, 218, 228] 11 rfl
theorem ca_Ref_reaches (d : Nat) (a0 : Nat) (l1 : Int32) (l2 : Int32) (l3 : Int32) (M : ej_Mem) : cal (d + 1) jm_Ref_reaches [.ref a0, .int l1, .int l2, .int l3] M = rn jm_Ref_reaches (cal d) 0 [some (.ref a0), some (.int l1), some (.int l2), some (.int l3), none, none, none] [] M := call_eq (show 4 ≤ 7 by decide)
set_option maxRecDepth 100000 in
theorem eq_Ref_isAsked_0 (cl : Nat → List Value → ej_Mem → Option ej_R) (a0 : Nat) (l1 : Int32) (l2 : Int32) (l3 : Int32) (M : ej_Mem) : rn jm_Ref_isAsked cl 0 [some (.ref a0), some (.int l1), some (.int l2), some (.int l3)] [] M =
    ckk (mC M a0 = 9) (bkI (cl jm_Ref_has [.ref a0, .int (1 : Int32), .int l1] M) fun x2 M1 =>
    (if x2 = (0 : Int32) then
      (ckk ((0 : Int32) = 0 ∨ (0 : Int32) = 1) (some (some (.int (0 : Int32)), M1))) else
      (ckk (mC M1 a0 = 9) (bkI (cl jm_Ref_has [.ref a0, .int (2 : Int32), .int l2] M1) fun x4 M3 =>
      (if x4 = (0 : Int32) then
        (ckk ((0 : Int32) = 0 ∨ (0 : Int32) = 1) (some (some (.int (0 : Int32)), M3))) else
        (bkI (cl jm_Ref_isYear [.int l3] M3) fun x6 M5 =>
        (if x6 = (0 : Int32) then
          (ckk ((0 : Int32) = 0 ∨ (0 : Int32) = 1) (some (some (.int (0 : Int32)), M5))) else
          (ckk ((1 : Int32) = 0 ∨ (1 : Int32) = 1) (some (some (.int (1 : Int32)), M5)))))))))) :=
  tr_eb [] 16 rfl
theorem ca_Ref_isAsked (d : Nat) (a0 : Nat) (l1 : Int32) (l2 : Int32) (l3 : Int32) (M : ej_Mem) : cal (d + 1) jm_Ref_isAsked [.ref a0, .int l1, .int l2, .int l3] M = rn jm_Ref_isAsked (cal d) 0 [some (.ref a0), some (.int l1), some (.int l2), some (.int l3)] [] M := call_eq (show 4 ≤ 4 by decide)
set_option maxRecDepth 100000 in
theorem eq_Ref_reached_0 (cl : Nat → List Value → ej_Mem → Option ej_R) (a0 : Nat) (l1 : Int32) (l2 : Int32) (l3 : Int32) (M : ej_Mem) : rn jm_Ref_reached cl 0 [some (.ref a0), some (.int l1), some (.int l2), some (.int l3)] [] M =
    ckk (mC M a0 = 9) (bkI (cl jm_Ref_isAsked [.ref a0, .int l1, .int l2, .int l3] M) fun x2 M1 =>
    (if x2 = (0 : Int32) then
      (some (some (.int (-1 : Int32)), M1)) else
      (ckk (mC M1 a0 = 9) (bkI (cl jm_Ref_reaches [.ref a0, .int l1, .int l2, .int l3] M1) fun x4 M3 =>
      some (some (.int x4), M3))))) :=
  tr_eb [] 13 rfl
theorem ca_Ref_reached (d : Nat) (a0 : Nat) (l1 : Int32) (l2 : Int32) (l3 : Int32) (M : ej_Mem) : cal (d + 1) jm_Ref_reached [.ref a0, .int l1, .int l2, .int l3] M = rn jm_Ref_reached (cal d) 0 [some (.ref a0), some (.int l1), some (.int l2), some (.int l3)] [] M := call_eq (show 4 ≤ 4 by decide)
set_option maxRecDepth 100000 in
theorem eq_Ref_lentBy_0 (cl : Nat → List Value → ej_Mem → Option ej_R) (a0 : Nat) (M : ej_Mem) : rn jm_Ref_lentBy cl 0 [some (.ref a0), none, none] [] M =
    rn jm_Ref_lentBy cl 4 [some (.ref a0), some (.int (0 : Int32)), some (.int (0 : Int32))] [] M :=
  tr_eb [4] 5 rfl
set_option maxRecDepth 100000 in
theorem eq_Ref_lentBy_4 (cl : Nat → List Value → ej_Mem → Option ej_R) (a0 : Nat) (l1 : Int32) (l2 : Int32) (M : ej_Mem) : rn jm_Ref_lentBy cl 4 [some (.ref a0), some (.int l1), some (.int l2)] [] M =
    ckk (mC M a0 = 9) (deR (mR M a0 11) fun q1 => ckk (mC M q1 = 100) (ckb (0 : Int32) (mN M q1) ((if (aI M q1 (Int32.toNatClampNeg (0 : Int32))) ≤ l2 then
      (some (some (.int l1), M)) else
      (ckk (mC M a0 = 9) (bkI (cl jm_Ref_union [.ref a0, .int l2, .int (5 : Int32)] M) fun x3 M2 =>
      rn jm_Ref_lentBy cl 4 [some (.ref a0), some (.int (l1 ||| x3)), some (.int (l2 + (1 : Int32)))] [] M2)))))) :=
  tr_eb [4] 16 rfl
theorem ca_Ref_lentBy (d : Nat) (a0 : Nat) (M : ej_Mem) : cal (d + 1) jm_Ref_lentBy [.ref a0] M = rn jm_Ref_lentBy (cal d) 0 [some (.ref a0), none, none] [] M := call_eq (show 1 ≤ 3 by decide)
set_option maxRecDepth 100000 in
theorem eq_Ref_fewest_0 (cl : Nat → List Value → ej_Mem → Option ej_R) (a0 : Nat) (l1 : Int32) (l2 : Int32) (l3 : Int32) (l4 : Int32) (M : ej_Mem) : rn jm_Ref_fewest cl 0 [some (.ref a0), some (.int l1), some (.int l2), some (.int l3), some (.int l4), none, none, none, none, none] [] M =
    ckk (mC M a0 = 9) (bkI (cl jm_Ref_isAsked [.ref a0, .int l1, .int l2, .int l3] M) fun x2 M1 =>
    (if x2 = (0 : Int32) then
      (some (some (.int (-1 : Int32)), M1)) else
      (bkI (cl jm_Ref_in [.long (Int32.toInt64 l4), .long (0 : Int64), .long (1 : Int64)] M1) fun x4 M3 =>
      (if x4 = (0 : Int32) then
        (some (some (.int (-1 : Int32)), M3)) else
        (ckk (mC M3 a0 = 9) (bkI (cl jm_Ref_lentBy [.ref a0] M3) fun x6 M5 =>
        bkI (cl jm_Ref_bits [.int x6] M5) fun x8 M7 =>
        (if x8 ≤ (10 : Int32) then
          (rn jm_Ref_fewest cl 52 [some (.ref a0), some (.int l1), some (.int l2), some (.int l3), some (.int l4), some (.int x6), some (.int (-2 : Int32)), some (.int (0 : Int32)), some (.int (1 : Int32)), none] [] M7) else
          (some (some (.int (-3 : Int32)), M7))))))))) :=
  tr_eb [52] 26 rfl
set_option maxRecDepth 100000 in
theorem eq_Ref_fewest_52 (cl : Nat → List Value → ej_Mem → Option ej_R) (a0 : Nat) (l1 : Int32) (l2 : Int32) (l3 : Int32) (l4 : Int32) (l5 : Int32) (l6 : Int32) (l7 : Int32) (l8 : Int32) (o9 : Option Value) (M : ej_Mem) : rn jm_Ref_fewest cl 52 [some (.ref a0), some (.int l1), some (.int l2), some (.int l3), some (.int l4), some (.int l5), some (.int l6), some (.int l7), some (.int l8), o9] [] M =
    (if l8 = (0 : Int32) then
      (ckk (mC M a0 = 9) ((if l6 = (-2 : Int32) then
        (some (some (.int (-2 : Int32)), (setI M a0 40 (-1 : Int32)))) else
        ((if l4 = (0 : Int32) then
          (bkI (cl jm_Ref_bits [.int l6] (setI M a0 40 (-1 : Int32))) fun x2 M1 =>
          some (some (.int x2), M1)) else
          (some (some (.int l6), (setI M a0 40 (-1 : Int32))))))))) else
      (ckk (mC M a0 = 9) ((if l6 = (-2 : Int32) then
        ((if (1 : Int32) = (0 : Int32) then
          ((if ((l7 - l5) &&& l5) = (0 : Int32) then
            (rn jm_Ref_fewest cl 52 [some (.ref a0), some (.int l1), some (.int l2), some (.int l3), some (.int l4), some (.int l5), some (.int l6), some (.int ((l7 - l5) &&& l5)), some (.int (0 : Int32)), some (.int (1 : Int32))] [] (setI M a0 40 l7)) else
            (rn jm_Ref_fewest cl 52 [some (.ref a0), some (.int l1), some (.int l2), some (.int l3), some (.int l4), some (.int l5), some (.int l6), some (.int ((l7 - l5) &&& l5)), some (.int (1 : Int32)), some (.int (1 : Int32))] [] (setI M a0 40 l7)))) else
          (ckk (mC (setI M a0 40 l7) a0 = 9) (bkI (cl jm_Ref_reaches [.ref a0, .int l1, .int l2, .int l3] (setI M a0 40 l7)) fun x4 M3 =>
          (if x4 = (2 : Int32) then
            ((if ((l7 - l5) &&& l5) = (0 : Int32) then
              (rn jm_Ref_fewest cl 52 [some (.ref a0), some (.int l1), some (.int l2), some (.int l3), some (.int l4), some (.int l5), some (.int l7), some (.int ((l7 - l5) &&& l5)), some (.int (0 : Int32)), some (.int (1 : Int32))] [] M3) else
              (rn jm_Ref_fewest cl 52 [some (.ref a0), some (.int l1), some (.int l2), some (.int l3), some (.int l4), some (.int l5), some (.int l7), some (.int ((l7 - l5) &&& l5)), some (.int (1 : Int32)), some (.int (1 : Int32))] [] M3))) else
            ((if ((l7 - l5) &&& l5) = (0 : Int32) then
              (rn jm_Ref_fewest cl 52 [some (.ref a0), some (.int l1), some (.int l2), some (.int l3), some (.int l4), some (.int l5), some (.int l6), some (.int ((l7 - l5) &&& l5)), some (.int (0 : Int32)), some (.int (1 : Int32))] [] M3) else
              (rn jm_Ref_fewest cl 52 [some (.ref a0), some (.int l1), some (.int l2), some (.int l3), some (.int l4), some (.int l5), some (.int l6), some (.int ((l7 - l5) &&& l5)), some (.int (1 : Int32)), some (.int (1 : Int32))] [] M3)))))))) else
        (bkI (cl jm_Ref_bits [.int l7] (setI M a0 40 l7)) fun x6 M5 =>
        bkI (cl jm_Ref_bits [.int l6] M5) fun x8 M7 =>
        (if x8 ≤ x6 then
          ((if (0 : Int32) = (0 : Int32) then
            ((if ((l7 - l5) &&& l5) = (0 : Int32) then
              (rn jm_Ref_fewest cl 52 [some (.ref a0), some (.int l1), some (.int l2), some (.int l3), some (.int l4), some (.int l5), some (.int l6), some (.int ((l7 - l5) &&& l5)), some (.int (0 : Int32)), some (.int (0 : Int32))] [] M7) else
              (rn jm_Ref_fewest cl 52 [some (.ref a0), some (.int l1), some (.int l2), some (.int l3), some (.int l4), some (.int l5), some (.int l6), some (.int ((l7 - l5) &&& l5)), some (.int (1 : Int32)), some (.int (0 : Int32))] [] M7))) else
            (ckk (mC M7 a0 = 9) (bkI (cl jm_Ref_reaches [.ref a0, .int l1, .int l2, .int l3] M7) fun x10 M9 =>
            (if x10 = (2 : Int32) then
              ((if ((l7 - l5) &&& l5) = (0 : Int32) then
                (rn jm_Ref_fewest cl 52 [some (.ref a0), some (.int l1), some (.int l2), some (.int l3), some (.int l4), some (.int l5), some (.int l7), some (.int ((l7 - l5) &&& l5)), some (.int (0 : Int32)), some (.int (0 : Int32))] [] M9) else
                (rn jm_Ref_fewest cl 52 [some (.ref a0), some (.int l1), some (.int l2), some (.int l3), some (.int l4), some (.int l5), some (.int l7), some (.int ((l7 - l5) &&& l5)), some (.int (1 : Int32)), some (.int (0 : Int32))] [] M9))) else
              ((if ((l7 - l5) &&& l5) = (0 : Int32) then
                (rn jm_Ref_fewest cl 52 [some (.ref a0), some (.int l1), some (.int l2), some (.int l3), some (.int l4), some (.int l5), some (.int l6), some (.int ((l7 - l5) &&& l5)), some (.int (0 : Int32)), some (.int (0 : Int32))] [] M9) else
                (rn jm_Ref_fewest cl 52 [some (.ref a0), some (.int l1), some (.int l2), some (.int l3), some (.int l4), some (.int l5), some (.int l6), some (.int ((l7 - l5) &&& l5)), some (.int (1 : Int32)), some (.int (0 : Int32))] [] M9)))))))) else
          ((if (1 : Int32) = (0 : Int32) then
            ((if ((l7 - l5) &&& l5) = (0 : Int32) then
              (rn jm_Ref_fewest cl 52 [some (.ref a0), some (.int l1), some (.int l2), some (.int l3), some (.int l4), some (.int l5), some (.int l6), some (.int ((l7 - l5) &&& l5)), some (.int (0 : Int32)), some (.int (1 : Int32))] [] M7) else
              (rn jm_Ref_fewest cl 52 [some (.ref a0), some (.int l1), some (.int l2), some (.int l3), some (.int l4), some (.int l5), some (.int l6), some (.int ((l7 - l5) &&& l5)), some (.int (1 : Int32)), some (.int (1 : Int32))] [] M7))) else
            (ckk (mC M7 a0 = 9) (bkI (cl jm_Ref_reaches [.ref a0, .int l1, .int l2, .int l3] M7) fun x12 M11 =>
            (if x12 = (2 : Int32) then
              ((if ((l7 - l5) &&& l5) = (0 : Int32) then
                (rn jm_Ref_fewest cl 52 [some (.ref a0), some (.int l1), some (.int l2), some (.int l3), some (.int l4), some (.int l5), some (.int l7), some (.int ((l7 - l5) &&& l5)), some (.int (0 : Int32)), some (.int (1 : Int32))] [] M11) else
                (rn jm_Ref_fewest cl 52 [some (.ref a0), some (.int l1), some (.int l2), some (.int l3), some (.int l4), some (.int l5), some (.int l7), some (.int ((l7 - l5) &&& l5)), some (.int (1 : Int32)), some (.int (1 : Int32))] [] M11))) else
              ((if ((l7 - l5) &&& l5) = (0 : Int32) then
                (rn jm_Ref_fewest cl 52 [some (.ref a0), some (.int l1), some (.int l2), some (.int l3), some (.int l4), some (.int l5), some (.int l6), some (.int ((l7 - l5) &&& l5)), some (.int (0 : Int32)), some (.int (1 : Int32))] [] M11) else
                (rn jm_Ref_fewest cl 52 [some (.ref a0), some (.int l1), some (.int l2), some (.int l3), some (.int l4), some (.int l5), some (.int l6), some (.int ((l7 - l5) &&& l5)), some (.int (1 : Int32)), some (.int (1 : Int32))] [] M11)))))))))))))) :=
  tr_eb [52] 41 rfl
theorem ca_Ref_fewest (d : Nat) (a0 : Nat) (l1 : Int32) (l2 : Int32) (l3 : Int32) (l4 : Int32) (M : ej_Mem) : cal (d + 1) jm_Ref_fewest [.ref a0, .int l1, .int l2, .int l3, .int l4] M = rn jm_Ref_fewest (cal d) 0 [some (.ref a0), some (.int l1), some (.int l2), some (.int l3), some (.int l4), none, none, none, none, none] [] M := call_eq (show 5 ≤ 10 by decide)
set_option maxRecDepth 100000 in
theorem eq_Ref_costOf_0 (cl : Nat → List Value → ej_Mem → Option ej_R) (a0 : Nat) (l1 : Int32) (l2 : Int32) (M : ej_Mem) : rn jm_Ref_costOf cl 0 [some (.ref a0), some (.int l1), some (.int l2)] [] M =
    (if l2 = (0 : Int32) then
      (ckk (mC M a0 = 9) (bkI (cl jm_Ref_union [.ref a0, .int l1, .int (4 : Int32)] M) fun x4 M3 =>
      some (some (.int x4), M3))) else
      (ckk (mC M a0 = 9) (bkI (cl jm_Ref_union [.ref a0, .int l1, .int (3 : Int32)] M) fun x2 M1 =>
      some (some (.int x2), M1)))) :=
  tr_eb [] 8 rfl
theorem ca_Ref_costOf (d : Nat) (a0 : Nat) (l1 : Int32) (l2 : Int32) (M : ej_Mem) : cal (d + 1) jm_Ref_costOf [.ref a0, .int l1, .int l2] M = rn jm_Ref_costOf (cal d) 0 [some (.ref a0), some (.int l1), some (.int l2)] [] M := call_eq (show 3 ≤ 3 by decide)
set_option maxRecDepth 100000 in
theorem eq_Ref_least_0 (cl : Nat → List Value → ej_Mem → Option ej_R) (a0 : Nat) (l1 : Int32) (l2 : Int32) (l3 : Int32) (l4 : Int32) (M : ej_Mem) : rn jm_Ref_least cl 0 [some (.ref a0), some (.int l1), some (.int l2), some (.int l3), some (.int l4), none, none, none, none] [] M =
    ckk (mC M a0 = 9) (bkI (cl jm_Ref_isAsked [.ref a0, .int l1, .int l2, .int l3] M) fun x2 M1 =>
    (if x2 = (0 : Int32) then
      (some (some (.int (-1 : Int32)), M1)) else
      (bkI (cl jm_Ref_in [.long (Int32.toInt64 l4), .long (0 : Int64), .long (1 : Int64)] M1) fun x4 M3 =>
      (if x4 = (0 : Int32) then
        (some (some (.int (-1 : Int32)), M3)) else
        (ckk (mC M3 a0 = 9) (bkI (cl jm_Ref_reaches [.ref a0, .int l1, .int (-1 : Int32), .int l3] M3) fun x6 M5 =>
        (if x6 = (4 : Int32) then
          (some (some (.int (-3 : Int32)), M5)) else
          (rn jm_Ref_least cl 40 [some (.ref a0), some (.int l1), some (.int l2), some (.int l3), some (.int l4), some (.int (0 : Int32)), none, none, none] [] M5)))))))) :=
  tr_eb [40, 83, 115, 240] 22 rfl
set_option maxRecDepth 100000 in
theorem eq_Ref_least_40 (cl : Nat → List Value → ej_Mem → Option ej_R) (a0 : Nat) (l1 : Int32) (l2 : Int32) (l3 : Int32) (l4 : Int32) (l5 : Int32) (o6 : Option Value) (o7 : Option Value) (o8 : Option Value) (M : ej_Mem) : rn jm_Ref_least cl 40 [some (.ref a0), some (.int l1), some (.int l2), some (.int l3), some (.int l4), some (.int l5), o6, o7, o8] [] M =
    ckk (mC M a0 = 9) ((if (mI M a0 44) ≤ l5 then
      (rn jm_Ref_least cl 83 [some (.ref a0), some (.int l1), some (.int l2), some (.int l3), some (.int l4), some (.int (0 : Int32)), o6, o7, o8] [] M) else
      (ckk (mC M a0 = 9) (deR (mR M a0 45) fun q1 => (if l5 = (0 : Int32) then
        (ckk (mC M q1 = 100) (ckb l5 (mN M q1) (ckk (mC (setA M q1 (Int32.toNatClampNeg l5) (0 : Int32)) a0 = 9) (deR (mR (setA M q1 (Int32.toNatClampNeg l5) (0 : Int32)) a0 46) fun q3 => ckk (mC (setA M q1 (Int32.toNatClampNeg l5) (0 : Int32)) q3 = 102) (ckb l5 (mN (setA M q1 (Int32.toNatClampNeg l5) (0 : Int32)) q3) (rn jm_Ref_least cl 40 [some (.ref a0), some (.int l1), some (.int l2), some (.int l3), some (.int l4), some (.int (l5 + (1 : Int32))), o6, o7, o8] [] (setA (setA M q1 (Int32.toNatClampNeg l5) (0 : Int32)) q3 (Int32.toNatClampNeg l5) (vp_nar .boolean (0 : Int32))))))))) else
        (ckk (mC M q1 = 100) (ckb l5 (mN M q1) (ckk (mC (setA M q1 (Int32.toNatClampNeg l5) (-1 : Int32)) a0 = 9) (deR (mR (setA M q1 (Int32.toNatClampNeg l5) (-1 : Int32)) a0 46) fun q2 => ckk (mC (setA M q1 (Int32.toNatClampNeg l5) (-1 : Int32)) q2 = 102) (ckb l5 (mN (setA M q1 (Int32.toNatClampNeg l5) (-1 : Int32)) q2) (rn jm_Ref_least cl 40 [some (.ref a0), some (.int l1), some (.int l2), some (.int l3), some (.int l4), some (.int (l5 + (1 : Int32))), o6, o7, o8] [] (setA (setA M q1 (Int32.toNatClampNeg l5) (-1 : Int32)) q2 (Int32.toNatClampNeg l5) (vp_nar .boolean (0 : Int32)))))))))))))) :=
  tr_eb [40, 83, 115, 240] 20 rfl
set_option maxRecDepth 100000 in
theorem eq_Ref_least_83 (cl : Nat → List Value → ej_Mem → Option ej_R) (a0 : Nat) (l1 : Int32) (l2 : Int32) (l3 : Int32) (l4 : Int32) (l5 : Int32) (o6 : Option Value) (o7 : Option Value) (o8 : Option Value) (M : ej_Mem) : rn jm_Ref_least cl 83 [some (.ref a0), some (.int l1), some (.int l2), some (.int l3), some (.int l4), some (.int l5), o6, o7, o8] [] M =
    (if l5 = (-1 : Int32) then
      ((if l5 = (-1 : Int32) then
        (some (some (.int (-2 : Int32)), M)) else
        (ckk (mC M a0 = 9) (deR (mR M a0 45) fun q1 => ckk (mC M q1 = 100) (ckb l5 (mN M q1) (some (some (.int (aI M q1 (Int32.toNatClampNeg l5))), M))))))) else
      (ckk (mC M a0 = 9) (deR (mR M a0 38) fun q2 => ckk (mC M q2 = 100) (ckb l5 (mN M q2) (ckk (mC M a0 = 9) (bkI (cl jm_Ref_isWished [.ref a0, .int l2, .int (aI M q2 (Int32.toNatClampNeg l5))] M) fun x4 M3 =>
      (if x4 = (0 : Int32) then
        (ckk (mC M3 a0 = 9) (deR (mR M3 a0 46) fun q6 => ckk (mC M3 q6 = 102) (ckb l5 (mN M3 q6) (rn jm_Ref_least cl 115 [some (.ref a0), some (.int l1), some (.int l2), some (.int l3), some (.int l4), some (.int l5), some (.int (0 : Int32)), o7, o8] [] (setA M3 q6 (Int32.toNatClampNeg l5) (vp_nar .boolean (1 : Int32))))))) else
        ((if l5 = (-1 : Int32) then
          (some (some (.int (-2 : Int32)), M3)) else
          (ckk (mC M3 a0 = 9) (deR (mR M3 a0 45) fun q5 => ckk (mC M3 q5 = 100) (ckb l5 (mN M3 q5) (some (some (.int (aI M3 q5 (Int32.toNatClampNeg l5))), M3)))))))))))))) :=
  tr_eb [40, 83, 115, 240] 19 rfl
set_option maxRecDepth 100000 in
theorem eq_Ref_least_115 (cl : Nat → List Value → ej_Mem → Option ej_R) (a0 : Nat) (l1 : Int32) (l2 : Int32) (l3 : Int32) (l4 : Int32) (l5 : Int32) (l6 : Int32) (o7 : Option Value) (o8 : Option Value) (M : ej_Mem) : rn jm_Ref_least cl 115 [some (.ref a0), some (.int l1), some (.int l2), some (.int l3), some (.int l4), some (.int l5), some (.int l6), o7, o8] [] M =
    ckk (mC M a0 = 9) (deR (mR M a0 11) fun q1 => ckk (mC M q1 = 100) (ckb (0 : Int32) (mN M q1) ((if (aI M q1 (Int32.toNatClampNeg (0 : Int32))) ≤ l6 then
      (rn jm_Ref_least cl 240 [some (.ref a0), some (.int l1), some (.int l2), some (.int l3), some (.int l4), some (.int (-1 : Int32)), some (.int (0 : Int32)), o7, o8] [] M) else
      (ckk (mC M a0 = 9) (deR (mR M a0 38) fun q2 => ckk (mC M q2 = 100) (ckb l5 (mN M q2) (ckk (mC M a0 = 9) (bkI (cl jm_Ref_mayBe [.ref a0, .int l1, .int l3, .int l6, .int (aI M q2 (Int32.toNatClampNeg l5))] M) fun x4 M3 =>
      (if x4 = (0 : Int32) then
        (rn jm_Ref_least cl 115 [some (.ref a0), some (.int l1), some (.int l2), some (.int l3), some (.int l4), some (.int l5), some (.int (l6 + (1 : Int32))), o7, o8] [] M3) else
        (ckk (mC M3 a0 = 9) (deR (mR M3 a0 26) fun q5 => ckk (mC M3 a0 = 9) (deR (mR M3 a0 38) fun q6 => ckk (mC M3 q6 = 100) (ckb l5 (mN M3 q6) (ckk (mC M3 a0 = 9) (bkI (cl jm_Ref_behind [.ref a0, .int l6, .int (aI M3 q6 (Int32.toNatClampNeg l5))] M3) fun x8 M7 =>
        ckk (mC M7 a0 = 9) (bkI (cl jm_Ref_placeOf [.ref a0, .int x8] M7) fun x10 M9 =>
        ckk (mC M9 q5 = 100) (ckb x10 (mN M9 q5) (ckk (mC M9 a0 = 9) (deR (mR M9 a0 45) fun q11 => ckk (mC M9 q11 = 100) (ckb l5 (mN M9 q11) (ckk (mC M9 a0 = 9) (bkI (cl jm_Ref_costOf [.ref a0, .int l6, .int l4] M9) fun x13 M12 =>
        ckk (mC M12 a0 = 9) (deR (mR M12 a0 45) fun q14 => ckk (mC M12 a0 = 9) (deR (mR M12 a0 45) fun q15 => ckk (mC M12 q15 = 100) (ckb (aI M9 q5 (Int32.toNatClampNeg x10)) (mN M12 q15) ((if (aI M12 q15 (Int32.toNatClampNeg (aI M9 q5 (Int32.toNatClampNeg x10)))) = (-1 : Int32) then
          (ckk (mC M12 q14 = 100) (ckb (aI M9 q5 (Int32.toNatClampNeg x10)) (mN M12 q14) (rn jm_Ref_least cl 115 [some (.ref a0), some (.int l1), some (.int l2), some (.int l3), some (.int l4), some (.int l5), some (.int (l6 + (1 : Int32))), some (.int (aI M9 q5 (Int32.toNatClampNeg x10))), some (.int ((aI M9 q11 (Int32.toNatClampNeg l5)) + x13))] [] (setA M12 q14 (Int32.toNatClampNeg (aI M9 q5 (Int32.toNatClampNeg x10))) ((aI M9 q11 (Int32.toNatClampNeg l5)) + x13))))) else
          (ckk (mC M12 a0 = 9) (deR (mR M12 a0 45) fun q16 => ckk (mC M12 q16 = 100) (ckb (aI M9 q5 (Int32.toNatClampNeg x10)) (mN M12 q16) ((if (aI M12 q16 (Int32.toNatClampNeg (aI M9 q5 (Int32.toNatClampNeg x10)))) ≤ ((aI M9 q11 (Int32.toNatClampNeg l5)) + x13) then
            (ckk (mC M12 a0 = 9) (deR (mR M12 a0 45) fun q17 => ckk (mC M12 q17 = 100) (ckb (aI M9 q5 (Int32.toNatClampNeg x10)) (mN M12 q17) (ckk (mC M12 q14 = 100) (ckb (aI M9 q5 (Int32.toNatClampNeg x10)) (mN M12 q14) (rn jm_Ref_least cl 115 [some (.ref a0), some (.int l1), some (.int l2), some (.int l3), some (.int l4), some (.int l5), some (.int (l6 + (1 : Int32))), some (.int (aI M9 q5 (Int32.toNatClampNeg x10))), some (.int ((aI M9 q11 (Int32.toNatClampNeg l5)) + x13))] [] (setA M12 q14 (Int32.toNatClampNeg (aI M9 q5 (Int32.toNatClampNeg x10))) (aI M12 q17 (Int32.toNatClampNeg (aI M9 q5 (Int32.toNatClampNeg x10))))))))))) else
            (ckk (mC M12 q14 = 100) (ckb (aI M9 q5 (Int32.toNatClampNeg x10)) (mN M12 q14) (rn jm_Ref_least cl 115 [some (.ref a0), some (.int l1), some (.int l2), some (.int l3), some (.int l4), some (.int l5), some (.int (l6 + (1 : Int32))), some (.int (aI M9 q5 (Int32.toNatClampNeg x10))), some (.int ((aI M9 q11 (Int32.toNatClampNeg l5)) + x13))] [] (setA M12 q14 (Int32.toNatClampNeg (aI M9 q5 (Int32.toNatClampNeg x10))) ((aI M9 q11 (Int32.toNatClampNeg l5)) + x13)))))))))))))))))))))))))))))))))))))) :=
  tr_eb [40, 83, 115, 240] 62 rfl
set_option maxRecDepth 100000 in
theorem eq_Ref_least_240 (cl : Nat → List Value → ej_Mem → Option ej_R) (a0 : Nat) (l1 : Int32) (l2 : Int32) (l3 : Int32) (l4 : Int32) (l5 : Int32) (l6 : Int32) (o7 : Option Value) (o8 : Option Value) (M : ej_Mem) : rn jm_Ref_least cl 240 [some (.ref a0), some (.int l1), some (.int l2), some (.int l3), some (.int l4), some (.int l5), some (.int l6), o7, o8] [] M =
    ckk (mC M a0 = 9) ((if (mI M a0 44) ≤ l6 then
      (rn jm_Ref_least cl 83 [some (.ref a0), some (.int l1), some (.int l2), some (.int l3), some (.int l4), some (.int l5), some (.int l6), o7, o8] [] M) else
      (ckk (mC M a0 = 9) (deR (mR M a0 46) fun q1 => ckk (mC M q1 = 102) (ckb l6 (mN M q1) ((if (aI M q1 (Int32.toNatClampNeg l6)) = (0 : Int32) then
        (ckk (mC M a0 = 9) (deR (mR M a0 45) fun q2 => ckk (mC M q2 = 100) (ckb l6 (mN M q2) ((if (aI M q2 (Int32.toNatClampNeg l6)) = (-1 : Int32) then
          (rn jm_Ref_least cl 240 [some (.ref a0), some (.int l1), some (.int l2), some (.int l3), some (.int l4), some (.int l5), some (.int (l6 + (1 : Int32))), o7, o8] [] M) else
          ((if l5 = (-1 : Int32) then
            (rn jm_Ref_least cl 240 [some (.ref a0), some (.int l1), some (.int l2), some (.int l3), some (.int l4), some (.int l6), some (.int (l6 + (1 : Int32))), o7, o8] [] M) else
            (ckk (mC M a0 = 9) (deR (mR M a0 45) fun q3 => ckk (mC M q3 = 100) (ckb l6 (mN M q3) (ckk (mC M a0 = 9) (deR (mR M a0 45) fun q4 => ckk (mC M q4 = 100) (ckb l5 (mN M q4) ((if (aI M q4 (Int32.toNatClampNeg l5)) ≤ (aI M q3 (Int32.toNatClampNeg l6)) then
              (rn jm_Ref_least cl 240 [some (.ref a0), some (.int l1), some (.int l2), some (.int l3), some (.int l4), some (.int l5), some (.int (l6 + (1 : Int32))), o7, o8] [] M) else
              (rn jm_Ref_least cl 240 [some (.ref a0), some (.int l1), some (.int l2), some (.int l3), some (.int l4), some (.int l6), some (.int (l6 + (1 : Int32))), o7, o8] [] M)))))))))))))))) else
        (rn jm_Ref_least cl 240 [some (.ref a0), some (.int l1), some (.int l2), some (.int l3), some (.int l4), some (.int l5), some (.int (l6 + (1 : Int32))), o7, o8] [] M)))))))) :=
  tr_eb [40, 83, 115, 240] 33 rfl
theorem ca_Ref_least (d : Nat) (a0 : Nat) (l1 : Int32) (l2 : Int32) (l3 : Int32) (l4 : Int32) (M : ej_Mem) : cal (d + 1) jm_Ref_least [.ref a0, .int l1, .int l2, .int l3, .int l4] M = rn jm_Ref_least (cal d) 0 [some (.ref a0), some (.int l1), some (.int l2), some (.int l3), some (.int l4), none, none, none, none] [] M := call_eq (show 5 ≤ 9 by decide)
set_option maxRecDepth 100000 in
theorem eq_Ref_safe_0 (cl : Nat → List Value → ej_Mem → Option ej_R) (a0 : Nat) (l1 : Int32) (l2 : Int32) (l3 : Int32) (l4 : Int32) (M : ej_Mem) : rn jm_Ref_safe cl 0 [some (.ref a0), some (.int l1), some (.int l2), some (.int l3), some (.int l4), none] [] M =
    ckk (mC M a0 = 9) (bkI (cl jm_Ref_isAsked [.ref a0, .int l1, .int l2, .int l3] M) fun x2 M1 =>
    (if x2 = (0 : Int32) then
      (some (some (.int (-1 : Int32)), M1)) else
      (bkI (cl jm_Ref_in [.long (Int32.toInt64 l4), .long (0 : Int64), .long (65535 : Int64)] M1) fun x4 M3 =>
      (if x4 = (0 : Int32) then
        (some (some (.int (-1 : Int32)), M3)) else
        (ckk (mC M3 a0 = 9) (ckk (mC (setI M3 a0 42 l4) a0 = 9) (bkI (cl jm_Ref_reaches [.ref a0, .int l1, .int l2, .int l3] (setI M3 a0 42 l4)) fun x6 M5 =>
        ckk (mC M5 a0 = 9) ((if x6 = (2 : Int32) then
          (ckk (mC (setI M5 a0 42 (-1 : Int32)) a0 = 9) (some (some (.int (mI (setI M5 a0 42 (-1 : Int32)) a0 43)), (setI M5 a0 42 (-1 : Int32))))) else
          ((if x6 = (4 : Int32) then
            (some (some (.int (-3 : Int32)), (setI M5 a0 42 (-1 : Int32)))) else
            (some (some (.int (-2 : Int32)), (setI M5 a0 42 (-1 : Int32))))))))))))))) :=
  tr_eb [] 33 rfl
theorem ca_Ref_safe (d : Nat) (a0 : Nat) (l1 : Int32) (l2 : Int32) (l3 : Int32) (l4 : Int32) (M : ej_Mem) : cal (d + 1) jm_Ref_safe [.ref a0, .int l1, .int l2, .int l3, .int l4] M = rn jm_Ref_safe (cal d) 0 [some (.ref a0), some (.int l1), some (.int l2), some (.int l3), some (.int l4), none] [] M := call_eq (show 5 ≤ 6 by decide)
set_option maxRecDepth 100000 in
theorem eq_Ref_keys_0 (cl : Nat → List Value → ej_Mem → Option ej_R) (a0 : Nat) (l1 : Int32) (l2 : Int32) (l3 : Int32) (M : ej_Mem) : rn jm_Ref_keys cl 0 [some (.ref a0), some (.int l1), some (.int l2), some (.int l3), none, none, none] [] M =
    ckk (mC M a0 = 9) (bkI (cl jm_Ref_isAsked [.ref a0, .int l1, .int l2, .int l3] M) fun x2 M1 =>
    (if x2 = (0 : Int32) then
      (some (some (.long (-1 : Int64)), M1)) else
      (rn jm_Ref_keys cl 20 [some (.ref a0), some (.int l1), some (.int l2), some (.int l3), some (.long (0 : Int64)), none, some (.int (0 : Int32))] [] M1))) :=
  tr_eb [20] 11 rfl
set_option maxRecDepth 100000 in
theorem eq_Ref_keys_20 (cl : Nat → List Value → ej_Mem → Option ej_R) (a0 : Nat) (l1 : Int32) (l2 : Int32) (l3 : Int32) (l4 : Int64) (l6 : Int32) (M : ej_Mem) : rn jm_Ref_keys cl 20 [some (.ref a0), some (.int l1), some (.int l2), some (.int l3), some (.long l4), none, some (.int l6)] [] M =
    ckk (mC M a0 = 9) (deR (mR M a0 11) fun q1 => ckk (mC M q1 = 100) (ckb (0 : Int32) (mN M q1) ((if (aI M q1 (Int32.toNatClampNeg (0 : Int32))) ≤ l6 then
      (ckk (mC M a0 = 9) (some (some (.long l4), (setI M a0 41 (-1 : Int32))))) else
      (ckk (mC M a0 = 9) (ckk (mC (setI M a0 41 l6) a0 = 9) (bkI (cl jm_Ref_reaches [.ref a0, .int l1, .int l2, .int l3] (setI M a0 41 l6)) fun x3 M2 =>
      (if x3 = (3 : Int32) then
        (rn jm_Ref_keys cl 20 [some (.ref a0), some (.int l1), some (.int l2), some (.int l3), some (.long (l4 ||| (ej_ls 0 (1 : Int64) l6))), none, some (.int (l6 + (1 : Int32)))] [] M2) else
        (rn jm_Ref_keys cl 20 [some (.ref a0), some (.int l1), some (.int l2), some (.int l3), some (.long (l4 ||| (0 : Int64))), none, some (.int (l6 + (1 : Int32)))] [] M2))))))))) :=
  tr_eb [20] 26 rfl
theorem ca_Ref_keys (d : Nat) (a0 : Nat) (l1 : Int32) (l2 : Int32) (l3 : Int32) (M : ej_Mem) : cal (d + 1) jm_Ref_keys [.ref a0, .int l1, .int l2, .int l3] M = rn jm_Ref_keys (cal d) 0 [some (.ref a0), some (.int l1), some (.int l2), some (.int l3), none, none, none] [] M := call_eq (show 4 ≤ 7 by decide)
set_option maxRecDepth 100000 in
theorem eq_Ref_last_0 (cl : Nat → List Value → ej_Mem → Option ej_R) (a0 : Nat) (l1 : Int32) (l2 : Int32) (l3 : Int32) (l4 : Int32) (M : ej_Mem) : rn jm_Ref_last cl 0 [some (.ref a0), some (.int l1), some (.int l2), some (.int l3), some (.int l4), none] [] M =
    ckk (mC M a0 = 9) (bkI (cl jm_Ref_isAsked [.ref a0, .int l1, .int l2, .int l3] M) fun x2 M1 =>
    (if x2 = (0 : Int32) then
      (some (some (.int (-1 : Int32)), M1)) else
      (bkI (cl jm_Ref_in [.long (Int32.toInt64 l4), .long (Int32.toInt64 l3), .long (2999 : Int64)] M1) fun x4 M3 =>
      (if x4 = (0 : Int32) then
        (some (some (.int (-1 : Int32)), M3)) else
        ((if (l4 - l3) < (100 : Int32) then
          (rn jm_Ref_last cl 38 [some (.ref a0), some (.int l1), some (.int l2), some (.int l3), some (.int l4), some (.int l3)] [] M3) else
          (some (some (.int (-1 : Int32)), M3)))))))) :=
  tr_eb [38] 21 rfl
set_option maxRecDepth 100000 in
theorem eq_Ref_last_38 (cl : Nat → List Value → ej_Mem → Option ej_R) (a0 : Nat) (l1 : Int32) (l2 : Int32) (l3 : Int32) (l4 : Int32) (l5 : Int32) (M : ej_Mem) : rn jm_Ref_last cl 38 [some (.ref a0), some (.int l1), some (.int l2), some (.int l3), some (.int l4), some (.int l5)] [] M =
    (if l4 < l5 then
      ((if l5 ≤ l4 then
        (some (some (.int l5), M)) else
        (some (some (.int (-2 : Int32)), M)))) else
      (ckk (mC M a0 = 9) (bkI (cl jm_Ref_reaches [.ref a0, .int l1, .int l2, .int l5] M) fun x2 M1 =>
      (if x2 = (3 : Int32) then
        ((if l5 ≤ l4 then
          (some (some (.int l5), M1)) else
          (some (some (.int (-2 : Int32)), M1)))) else
        (rn jm_Ref_last cl 38 [some (.ref a0), some (.int l1), some (.int l2), some (.int l3), some (.int l4), some (.int (l5 + (1 : Int32)))] [] M1))))) :=
  tr_eb [38] 16 rfl
theorem ca_Ref_last (d : Nat) (a0 : Nat) (l1 : Int32) (l2 : Int32) (l3 : Int32) (l4 : Int32) (M : ej_Mem) : cal (d + 1) jm_Ref_last [.ref a0, .int l1, .int l2, .int l3, .int l4] M = rn jm_Ref_last (cal d) 0 [some (.ref a0), some (.int l1), some (.int l2), some (.int l3), some (.int l4), none] [] M := call_eq (show 5 ≤ 6 by decide)
set_option maxRecDepth 100000 in
theorem eq_Ref_roll_0 (cl : Nat → List Value → ej_Mem → Option ej_R) (a0 : Nat) (l1 : Int32) (l2 : Int32) (M : ej_Mem) : rn jm_Ref_roll cl 0 [some (.ref a0), some (.int l1), some (.int l2)] [] M =
    ckk (mC M a0 = 9) ((if (mI M a0 47) = (30 : Int32) then
      (some (some (.int (-1 : Int32)), M)) else
      (ckk (mC M a0 = 9) (bkI (cl jm_Ref_has [.ref a0, .int (1 : Int32), .int l1] M) fun x2 M1 =>
      (if x2 = (0 : Int32) then
        (some (some (.int (-1 : Int32)), M1)) else
        (bkI (cl jm_Ref_isYear [.int l2] M1) fun x4 M3 =>
        (if x4 = (0 : Int32) then
          (some (some (.int (-1 : Int32)), M3)) else
          (ckk (mC M3 a0 = 9) (deR (mR M3 a0 48) fun q5 => ckk (mC M3 a0 = 9) (ckk (mC M3 q5 = 100) (ckb (mI M3 a0 47) (mN M3 q5) (ckk (mC (setA M3 q5 (Int32.toNatClampNeg (mI M3 a0 47)) l1) a0 = 9) (deR (mR (setA M3 q5 (Int32.toNatClampNeg (mI M3 a0 47)) l1) a0 49) fun q6 => ckk (mC (setA M3 q5 (Int32.toNatClampNeg (mI M3 a0 47)) l1) a0 = 9) (ckk (mC (setA M3 q5 (Int32.toNatClampNeg (mI M3 a0 47)) l1) q6 = 100) (ckb (mI (setA M3 q5 (Int32.toNatClampNeg (mI M3 a0 47)) l1) a0 47) (mN (setA M3 q5 (Int32.toNatClampNeg (mI M3 a0 47)) l1) q6) (ckk (mC (setA (setA M3 q5 (Int32.toNatClampNeg (mI M3 a0 47)) l1) q6 (Int32.toNatClampNeg (mI (setA M3 q5 (Int32.toNatClampNeg (mI M3 a0 47)) l1) a0 47)) l2) a0 = 9) (deR (mR (setA (setA M3 q5 (Int32.toNatClampNeg (mI M3 a0 47)) l1) q6 (Int32.toNatClampNeg (mI (setA M3 q5 (Int32.toNatClampNeg (mI M3 a0 47)) l1) a0 47)) l2) a0 50) fun q7 => ckk (mC (setA (setA M3 q5 (Int32.toNatClampNeg (mI M3 a0 47)) l1) q6 (Int32.toNatClampNeg (mI (setA M3 q5 (Int32.toNatClampNeg (mI M3 a0 47)) l1) a0 47)) l2) a0 = 9) (ckk (mC (setA (setA M3 q5 (Int32.toNatClampNeg (mI M3 a0 47)) l1) q6 (Int32.toNatClampNeg (mI (setA M3 q5 (Int32.toNatClampNeg (mI M3 a0 47)) l1) a0 47)) l2) q7 = 100) (ckb (mI (setA (setA M3 q5 (Int32.toNatClampNeg (mI M3 a0 47)) l1) q6 (Int32.toNatClampNeg (mI (setA M3 q5 (Int32.toNatClampNeg (mI M3 a0 47)) l1) a0 47)) l2) a0 47) (mN (setA (setA M3 q5 (Int32.toNatClampNeg (mI M3 a0 47)) l1) q6 (Int32.toNatClampNeg (mI (setA M3 q5 (Int32.toNatClampNeg (mI M3 a0 47)) l1) a0 47)) l2) q7) (ckk (mC (setA (setA (setA M3 q5 (Int32.toNatClampNeg (mI M3 a0 47)) l1) q6 (Int32.toNatClampNeg (mI (setA M3 q5 (Int32.toNatClampNeg (mI M3 a0 47)) l1) a0 47)) l2) q7 (Int32.toNatClampNeg (mI (setA (setA M3 q5 (Int32.toNatClampNeg (mI M3 a0 47)) l1) q6 (Int32.toNatClampNeg (mI (setA M3 q5 (Int32.toNatClampNeg (mI M3 a0 47)) l1) a0 47)) l2) a0 47)) (0 : Int32)) a0 = 9) (ckk (mC (setA (setA (setA M3 q5 (Int32.toNatClampNeg (mI M3 a0 47)) l1) q6 (Int32.toNatClampNeg (mI (setA M3 q5 (Int32.toNatClampNeg (mI M3 a0 47)) l1) a0 47)) l2) q7 (Int32.toNatClampNeg (mI (setA (setA M3 q5 (Int32.toNatClampNeg (mI M3 a0 47)) l1) q6 (Int32.toNatClampNeg (mI (setA M3 q5 (Int32.toNatClampNeg (mI M3 a0 47)) l1) a0 47)) l2) a0 47)) (0 : Int32)) a0 = 9) (ckk (mC (setI (setA (setA (setA M3 q5 (Int32.toNatClampNeg (mI M3 a0 47)) l1) q6 (Int32.toNatClampNeg (mI (setA M3 q5 (Int32.toNatClampNeg (mI M3 a0 47)) l1) a0 47)) l2) q7 (Int32.toNatClampNeg (mI (setA (setA M3 q5 (Int32.toNatClampNeg (mI M3 a0 47)) l1) q6 (Int32.toNatClampNeg (mI (setA M3 q5 (Int32.toNatClampNeg (mI M3 a0 47)) l1) a0 47)) l2) a0 47)) (0 : Int32)) a0 47 ((mI (setA (setA (setA M3 q5 (Int32.toNatClampNeg (mI M3 a0 47)) l1) q6 (Int32.toNatClampNeg (mI (setA M3 q5 (Int32.toNatClampNeg (mI M3 a0 47)) l1) a0 47)) l2) q7 (Int32.toNatClampNeg (mI (setA (setA M3 q5 (Int32.toNatClampNeg (mI M3 a0 47)) l1) q6 (Int32.toNatClampNeg (mI (setA M3 q5 (Int32.toNatClampNeg (mI M3 a0 47)) l1) a0 47)) l2) a0 47)) (0 : Int32)) a0 47) + (1 : Int32))) a0 = 9) (some (some (.int ((mI (setI (setA (setA (setA M3 q5 (Int32.toNatClampNeg (mI M3 a0 47)) l1) q6 (Int32.toNatClampNeg (mI (setA M3 q5 (Int32.toNatClampNeg (mI M3 a0 47)) l1) a0 47)) l2) q7 (Int32.toNatClampNeg (mI (setA (setA M3 q5 (Int32.toNatClampNeg (mI M3 a0 47)) l1) q6 (Int32.toNatClampNeg (mI (setA M3 q5 (Int32.toNatClampNeg (mI M3 a0 47)) l1) a0 47)) l2) a0 47)) (0 : Int32)) a0 47 ((mI (setA (setA (setA M3 q5 (Int32.toNatClampNeg (mI M3 a0 47)) l1) q6 (Int32.toNatClampNeg (mI (setA M3 q5 (Int32.toNatClampNeg (mI M3 a0 47)) l1) a0 47)) l2) q7 (Int32.toNatClampNeg (mI (setA (setA M3 q5 (Int32.toNatClampNeg (mI M3 a0 47)) l1) q6 (Int32.toNatClampNeg (mI (setA M3 q5 (Int32.toNatClampNeg (mI M3 a0 47)) l1) a0 47)) l2) a0 47)) (0 : Int32)) a0 47) + (1 : Int32))) a0 47) - (1 : Int32))), (setI (setA (setA (setA M3 q5 (Int32.toNatClampNeg (mI M3 a0 47)) l1) q6 (Int32.toNatClampNeg (mI (setA M3 q5 (Int32.toNatClampNeg (mI M3 a0 47)) l1) a0 47)) l2) q7 (Int32.toNatClampNeg (mI (setA (setA M3 q5 (Int32.toNatClampNeg (mI M3 a0 47)) l1) q6 (Int32.toNatClampNeg (mI (setA M3 q5 (Int32.toNatClampNeg (mI M3 a0 47)) l1) a0 47)) l2) a0 47)) (0 : Int32)) a0 47 ((mI (setA (setA (setA M3 q5 (Int32.toNatClampNeg (mI M3 a0 47)) l1) q6 (Int32.toNatClampNeg (mI (setA M3 q5 (Int32.toNatClampNeg (mI M3 a0 47)) l1) a0 47)) l2) q7 (Int32.toNatClampNeg (mI (setA (setA M3 q5 (Int32.toNatClampNeg (mI M3 a0 47)) l1) q6 (Int32.toNatClampNeg (mI (setA M3 q5 (Int32.toNatClampNeg (mI M3 a0 47)) l1) a0 47)) l2) a0 47)) (0 : Int32)) a0 47) + (1 : Int32))))))))))))))))))))))))))) :=
  tr_eb [] 41 rfl
theorem ca_Ref_roll (d : Nat) (a0 : Nat) (l1 : Int32) (l2 : Int32) (M : ej_Mem) : cal (d + 1) jm_Ref_roll [.ref a0, .int l1, .int l2] M = rn jm_Ref_roll (cal d) 0 [some (.ref a0), some (.int l1), some (.int l2)] [] M := call_eq (show 3 ≤ 3 by decide)
set_option maxRecDepth 100000 in
theorem eq_Ref_isRoll_0 (cl : Nat → List Value → ej_Mem → Option ej_R) (a0 : Nat) (l1 : Int32) (M : ej_Mem) : rn jm_Ref_isRoll cl 0 [some (.ref a0), some (.int l1)] [] M =
    ckk (mC M a0 = 9) (bkI (cl jm_Ref_in [.long (Int32.toInt64 l1), .long (0 : Int64), .long (Int32.toInt64 ((mI M a0 47) - (1 : Int32)))] M) fun x2 M1 =>
    ckk (x2 = 0 ∨ x2 = 1) (some (some (.int x2), M1))) :=
  tr_eb [] 10 rfl
theorem ca_Ref_isRoll (d : Nat) (a0 : Nat) (l1 : Int32) (M : ej_Mem) : cal (d + 1) jm_Ref_isRoll [.ref a0, .int l1] M = rn jm_Ref_isRoll (cal d) 0 [some (.ref a0), some (.int l1)] [] M := call_eq (show 2 ≤ 2 by decide)
set_option maxRecDepth 100000 in
theorem eq_Ref_enter_0 (cl : Nat → List Value → ej_Mem → Option ej_R) (a0 : Nat) (l1 : Int32) (l2 : Int32) (M : ej_Mem) : rn jm_Ref_enter cl 0 [some (.ref a0), some (.int l1), some (.int l2)] [] M =
    ckk (mC M a0 = 9) (bkI (cl jm_Ref_isRoll [.ref a0, .int l1] M) fun x2 M1 =>
    (if x2 = (0 : Int32) then
      (some (some (.int (-1 : Int32)), M1)) else
      (ckk (mC M1 a0 = 9) (bkI (cl jm_Ref_has [.ref a0, .int (0 : Int32), .int l2] M1) fun x4 M3 =>
      (if x4 = (0 : Int32) then
        (some (some (.int (-1 : Int32)), M3)) else
        (ckk (mC M3 a0 = 9) (deR (mR M3 a0 50) fun q5 => ckk (mC M3 q5 = 100) (ckb l1 (mN M3 q5) ((if (aI M3 q5 (Int32.toNatClampNeg l1)) = (24 : Int32) then
          (some (some (.int (-1 : Int32)), M3)) else
          (ckk (mC M3 a0 = 9) (deR (mR M3 a0 51) fun q6 => ckk (mC M3 a0 = 9) (deR (mR M3 a0 50) fun q7 => ckk (mC M3 q7 = 100) (ckb l1 (mN M3 q7) (ckk (mC M3 q6 = 100) (ckb (((24 : Int32) * l1) + (aI M3 q7 (Int32.toNatClampNeg l1))) (mN M3 q6) (ckk (mC (setA M3 q6 (Int32.toNatClampNeg (((24 : Int32) * l1) + (aI M3 q7 (Int32.toNatClampNeg l1)))) l2) a0 = 9) (deR (mR (setA M3 q6 (Int32.toNatClampNeg (((24 : Int32) * l1) + (aI M3 q7 (Int32.toNatClampNeg l1)))) l2) a0 50) fun q8 => ckk (mC (setA M3 q6 (Int32.toNatClampNeg (((24 : Int32) * l1) + (aI M3 q7 (Int32.toNatClampNeg l1)))) l2) q8 = 100) (ckb l1 (mN (setA M3 q6 (Int32.toNatClampNeg (((24 : Int32) * l1) + (aI M3 q7 (Int32.toNatClampNeg l1)))) l2) q8) (ckk (mC (setA M3 q6 (Int32.toNatClampNeg (((24 : Int32) * l1) + (aI M3 q7 (Int32.toNatClampNeg l1)))) l2) q8 = 100) (ckb l1 (mN (setA M3 q6 (Int32.toNatClampNeg (((24 : Int32) * l1) + (aI M3 q7 (Int32.toNatClampNeg l1)))) l2) q8) (ckk (mC (setA (setA M3 q6 (Int32.toNatClampNeg (((24 : Int32) * l1) + (aI M3 q7 (Int32.toNatClampNeg l1)))) l2) q8 (Int32.toNatClampNeg l1) ((aI (setA M3 q6 (Int32.toNatClampNeg (((24 : Int32) * l1) + (aI M3 q7 (Int32.toNatClampNeg l1)))) l2) q8 (Int32.toNatClampNeg l1)) + (1 : Int32))) a0 = 9) (deR (mR (setA (setA M3 q6 (Int32.toNatClampNeg (((24 : Int32) * l1) + (aI M3 q7 (Int32.toNatClampNeg l1)))) l2) q8 (Int32.toNatClampNeg l1) ((aI (setA M3 q6 (Int32.toNatClampNeg (((24 : Int32) * l1) + (aI M3 q7 (Int32.toNatClampNeg l1)))) l2) q8 (Int32.toNatClampNeg l1)) + (1 : Int32))) a0 50) fun q9 => ckk (mC (setA (setA M3 q6 (Int32.toNatClampNeg (((24 : Int32) * l1) + (aI M3 q7 (Int32.toNatClampNeg l1)))) l2) q8 (Int32.toNatClampNeg l1) ((aI (setA M3 q6 (Int32.toNatClampNeg (((24 : Int32) * l1) + (aI M3 q7 (Int32.toNatClampNeg l1)))) l2) q8 (Int32.toNatClampNeg l1)) + (1 : Int32))) q9 = 100) (ckb l1 (mN (setA (setA M3 q6 (Int32.toNatClampNeg (((24 : Int32) * l1) + (aI M3 q7 (Int32.toNatClampNeg l1)))) l2) q8 (Int32.toNatClampNeg l1) ((aI (setA M3 q6 (Int32.toNatClampNeg (((24 : Int32) * l1) + (aI M3 q7 (Int32.toNatClampNeg l1)))) l2) q8 (Int32.toNatClampNeg l1)) + (1 : Int32))) q9) (some (some (.int (aI (setA (setA M3 q6 (Int32.toNatClampNeg (((24 : Int32) * l1) + (aI M3 q7 (Int32.toNatClampNeg l1)))) l2) q8 (Int32.toNatClampNeg l1) ((aI (setA M3 q6 (Int32.toNatClampNeg (((24 : Int32) * l1) + (aI M3 q7 (Int32.toNatClampNeg l1)))) l2) q8 (Int32.toNatClampNeg l1)) + (1 : Int32))) q9 (Int32.toNatClampNeg l1))), (setA (setA M3 q6 (Int32.toNatClampNeg (((24 : Int32) * l1) + (aI M3 q7 (Int32.toNatClampNeg l1)))) l2) q8 (Int32.toNatClampNeg l1) ((aI (setA M3 q6 (Int32.toNatClampNeg (((24 : Int32) * l1) + (aI M3 q7 (Int32.toNatClampNeg l1)))) l2) q8 (Int32.toNatClampNeg l1)) + (1 : Int32))))))))))))))))))))))))))))) :=
  tr_eb [] 40 rfl
theorem ca_Ref_enter (d : Nat) (a0 : Nat) (l1 : Int32) (l2 : Int32) (M : ej_Mem) : cal (d + 1) jm_Ref_enter [.ref a0, .int l1, .int l2] M = rn jm_Ref_enter (cal d) 0 [some (.ref a0), some (.int l1), some (.int l2)] [] M := call_eq (show 3 ≤ 3 by decide)
set_option maxRecDepth 100000 in
theorem eq_Ref_judges_0 (cl : Nat → List Value → ej_Mem → Option ej_R) (a0 : Nat) (l1 : Int32) (l2 : Int32) (M : ej_Mem) : rn jm_Ref_judges cl 0 [some (.ref a0), some (.int l1), some (.int l2)] [] M =
    ckk (mC M a0 = 9) (deR (mR M a0 48) fun q1 => ckk (mC M q1 = 100) (ckb l1 (mN M q1) (ckk (mC M a0 = 9) (bkI (cl jm_Ref_firstOf [.ref a0, .int (aI M q1 (Int32.toNatClampNeg l1))] M) fun x3 M2 =>
    ckk (mC M2 a0 = 9) (ckk (mC (setI M2 a0 53 x3) a0 = 9) (rn jm_Ref_judges cl 19 [some (.ref a0), some (.int l1), some (.int l2)] [] (setI (setI M2 a0 53 x3) a0 52 (0 : Int32)))))))) :=
  tr_eb [19] 12 rfl
set_option maxRecDepth 100000 in
theorem eq_Ref_judges_19 (cl : Nat → List Value → ej_Mem → Option ej_R) (a0 : Nat) (l1 : Int32) (l2 : Int32) (M : ej_Mem) : rn jm_Ref_judges cl 19 [some (.ref a0), some (.int l1), some (.int l2)] [] M =
    ckk (mC M a0 = 9) ((if l2 ≤ (mI M a0 52) then
      (some (none, M)) else
      (ckk (mC M a0 = 9) (deR (mR M a0 48) fun q1 => ckk (mC M q1 = 100) (ckb l1 (mN M q1) (ckk (mC M a0 = 9) (deR (mR M a0 49) fun q2 => ckk (mC M q2 = 100) (ckb l1 (mN M q2) (ckk (mC M a0 = 9) (deR (mR M a0 51) fun q3 => ckk (mC M a0 = 9) (ckk (mC M q3 = 100) (ckb (((24 : Int32) * l1) + (mI M a0 52)) (mN M q3) (ckk (mC M a0 = 9) (ckk (mC M a0 = 9) (bkI (cl jm_Ref_mayBe [.ref a0, .int (aI M q1 (Int32.toNatClampNeg l1)), .int (aI M q2 (Int32.toNatClampNeg l1)), .int (aI M q3 (Int32.toNatClampNeg (((24 : Int32) * l1) + (mI M a0 52)))), .int (mI M a0 53)] M) fun x5 M4 =>
      (if x5 = (0 : Int32) then
        (some (none, M4)) else
        (ckk (mC M4 a0 = 9) (deR (mR M4 a0 51) fun q6 => ckk (mC M4 a0 = 9) (ckk (mC M4 q6 = 100) (ckb (((24 : Int32) * l1) + (mI M4 a0 52)) (mN M4 q6) (ckk (mC M4 a0 = 9) (ckk (mC M4 a0 = 9) (bkI (cl jm_Ref_behind [.ref a0, .int (aI M4 q6 (Int32.toNatClampNeg (((24 : Int32) * l1) + (mI M4 a0 52)))), .int (mI M4 a0 53)] M4) fun x8 M7 =>
        ckk (mC M7 a0 = 9) (ckk (mC (setI M7 a0 53 x8) a0 = 9) (ckk (mC (setI M7 a0 53 x8) a0 = 9) (rn jm_Ref_judges cl 19 [some (.ref a0), some (.int l1), some (.int l2)] [] (setI (setI M7 a0 53 x8) a0 52 ((mI (setI M7 a0 53 x8) a0 52) + (1 : Int32))))))))))))))))))))))))))))) :=
  tr_eb [19] 49 rfl
theorem ca_Ref_judges (d : Nat) (a0 : Nat) (l1 : Int32) (l2 : Int32) (M : ej_Mem) : cal (d + 1) jm_Ref_judges [.ref a0, .int l1, .int l2] M = rn jm_Ref_judges (cal d) 0 [some (.ref a0), some (.int l1), some (.int l2)] [] M := call_eq (show 3 ≤ 3 by decide)
set_option maxRecDepth 100000 in
theorem eq_Ref_judged_0 (cl : Nat → List Value → ej_Mem → Option ej_R) (a0 : Nat) (l1 : Int32) (l2 : Int32) (M : ej_Mem) : rn jm_Ref_judged cl 0 [some (.ref a0), some (.int l1), some (.int l2)] [] M =
    ckk (mC M a0 = 9) (bkI (cl jm_Ref_isRoll [.ref a0, .int l1] M) fun x2 M1 =>
    (if x2 = (0 : Int32) then
      (some (some (.int (-1 : Int32)), M1)) else
      (bkI (cl jm_Ref_in [.long (Int32.toInt64 l2), .long (0 : Int64), .long (1 : Int64)] M1) fun x4 M3 =>
      (if x4 = (0 : Int32) then
        (some (some (.int (-1 : Int32)), M3)) else
        (ckk (mC M3 a0 = 9) (deR (mR M3 a0 50) fun q5 => ckk (mC M3 q5 = 100) (ckb l1 (mN M3 q5) (ckk (mC M3 a0 = 9) (bkV (cl jm_Ref_judges [.ref a0, .int l1, .int (aI M3 q5 (Int32.toNatClampNeg l1))] M3) fun M6 =>
        (if l2 = (0 : Int32) then
          (ckk (mC M6 a0 = 9) (some (some (.int (mI M6 a0 52)), M6))) else
          (ckk (mC M6 a0 = 9) (some (some (.int (mI M6 a0 53)), M6))))))))))))) :=
  tr_eb [] 23 rfl
theorem ca_Ref_judged (d : Nat) (a0 : Nat) (l1 : Int32) (l2 : Int32) (M : ej_Mem) : cal (d + 1) jm_Ref_judged [.ref a0, .int l1, .int l2] M = rn jm_Ref_judged (cal d) 0 [some (.ref a0), some (.int l1), some (.int l2)] [] M := call_eq (show 3 ≤ 3 by decide)
set_option maxRecDepth 100000 in
theorem eq_Ref_feigned_0 (cl : Nat → List Value → ej_Mem → Option ej_R) (a0 : Nat) (l1 : Int32) (M : ej_Mem) : rn jm_Ref_feigned cl 0 [some (.ref a0), some (.int l1), none, none] [] M =
    ckk (mC M a0 = 9) (bkI (cl jm_Ref_isRoll [.ref a0, .int l1] M) fun x2 M1 =>
    (if x2 = (0 : Int32) then
      (some (some (.int (-1 : Int32)), M1)) else
      (ckk (mC M1 a0 = 9) (deR (mR M1 a0 50) fun q3 => ckk (mC M1 q3 = 100) (ckb l1 (mN M1 q3) (ckk (mC M1 a0 = 9) (bkV (cl jm_Ref_judges [.ref a0, .int l1, .int (aI M1 q3 (Int32.toNatClampNeg l1))] M1) fun M4 =>
      rn jm_Ref_feigned cl 25 [some (.ref a0), some (.int l1), some (.int (0 : Int32)), some (.int (0 : Int32))] [] M4))))))) :=
  tr_eb [25] 16 rfl
set_option maxRecDepth 100000 in
theorem eq_Ref_feigned_25 (cl : Nat → List Value → ej_Mem → Option ej_R) (a0 : Nat) (l1 : Int32) (l2 : Int32) (l3 : Int32) (M : ej_Mem) : rn jm_Ref_feigned cl 25 [some (.ref a0), some (.int l1), some (.int l2), some (.int l3)] [] M =
    ckk (mC M a0 = 9) (deR (mR M a0 11) fun q1 => ckk (mC M q1 = 100) (ckb (2 : Int32) (mN M q1) ((if (aI M q1 (Int32.toNatClampNeg (2 : Int32))) ≤ l3 then
      (some (some (.int l2), M)) else
      (ckk (mC M a0 = 9) (ckk (mC M a0 = 9) (bkI (cl jm_Ref_isWished [.ref a0, .int l3, .int (mI M a0 53)] M) fun x3 M2 =>
      (if x3 = (0 : Int32) then
        (rn jm_Ref_feigned cl 25 [some (.ref a0), some (.int l1), some (.int (l2 ||| (0 : Int32))), some (.int (l3 + (1 : Int32)))] [] M2) else
        (ckk (mC M2 a0 = 9) (deR (mR M2 a0 48) fun q4 => ckk (mC M2 q4 = 100) (ckb l1 (mN M2 q4) (ckk (mC M2 a0 = 9) (bkI (cl jm_Ref_firstOf [.ref a0, .int (aI M2 q4 (Int32.toNatClampNeg l1))] M2) fun x6 M5 =>
        ckk (mC M5 a0 = 9) (bkI (cl jm_Ref_isWished [.ref a0, .int l3, .int x6] M5) fun x8 M7 =>
        (if x8 = (0 : Int32) then
          (rn jm_Ref_feigned cl 25 [some (.ref a0), some (.int l1), some (.int (l2 ||| ((1 : Int32) <<< (l3 &&& 31)))), some (.int (l3 + (1 : Int32)))] [] M7) else
          (rn jm_Ref_feigned cl 25 [some (.ref a0), some (.int l1), some (.int (l2 ||| (0 : Int32))), some (.int (l3 + (1 : Int32)))] [] M7)))))))))))))))) :=
  tr_eb [25] 32 rfl
theorem ca_Ref_feigned (d : Nat) (a0 : Nat) (l1 : Int32) (M : ej_Mem) : cal (d + 1) jm_Ref_feigned [.ref a0, .int l1] M = rn jm_Ref_feigned (cal d) 0 [some (.ref a0), some (.int l1), none, none] [] M := call_eq (show 2 ≤ 4 by decide)
set_option maxRecDepth 100000 in
theorem eq_Ref_claims_0 (cl : Nat → List Value → ej_Mem → Option ej_R) (a0 : Nat) (l1 : Int32) (l2 : Int32) (M : ej_Mem) : rn jm_Ref_claims cl 0 [some (.ref a0), some (.int l1), some (.int l2), none, none, none] [] M =
    ckk (mC M a0 = 9) (bkI (cl jm_Ref_isRoll [.ref a0, .int l1] M) fun x2 M1 =>
    (if x2 = (0 : Int32) then
      (some (some (.int (-1 : Int32)), M1)) else
      (bkI (cl jm_Ref_in [.long (Int32.toInt64 l2), .long (0 : Int64), .long (1 : Int64)] M1) fun x4 M3 =>
      (if x4 = (0 : Int32) then
        (some (some (.int (-1 : Int32)), M3)) else
        (ckk (mC M3 a0 = 9) (deR (mR M3 a0 50) fun q5 => ckk (mC M3 q5 = 100) (ckb l1 (mN M3 q5) (ckk (mC M3 a0 = 9) (bkV (cl jm_Ref_judges [.ref a0, .int l1, .int (aI M3 q5 (Int32.toNatClampNeg l1))] M3) fun M6 =>
        ckk (mC M6 a0 = 9) (deR (mR M6 a0 48) fun q7 => ckk (mC M6 q7 = 100) (ckb l1 (mN M6 q7) (ckk (mC M6 a0 = 9) (bkI (cl jm_Ref_firstOf [.ref a0, .int (aI M6 q7 (Int32.toNatClampNeg l1))] M6) fun x9 M8 =>
        (if l2 = (0 : Int32) then
          (ckk (mC M8 a0 = 9) (rn jm_Ref_claims cl 66 [some (.ref a0), some (.int l1), some (.int l2), some (.int (x9 &&& ((mI M8 a0 53) ^^^ (-1 : Int32)))), some (.int (0 : Int32)), some (.int (0 : Int32))] [] M8)) else
          (ckk (mC M8 a0 = 9) (rn jm_Ref_claims cl 66 [some (.ref a0), some (.int l1), some (.int l2), some (.int (x9 &&& (mI M8 a0 53))), some (.int (0 : Int32)), some (.int (0 : Int32))] [] M8)))))))))))))))) :=
  tr_eb [66] 37 rfl
set_option maxRecDepth 100000 in
theorem eq_Ref_claims_66 (cl : Nat → List Value → ej_Mem → Option ej_R) (a0 : Nat) (l1 : Int32) (l2 : Int32) (l3 : Int32) (l4 : Int32) (l5 : Int32) (M : ej_Mem) : rn jm_Ref_claims cl 66 [some (.ref a0), some (.int l1), some (.int l2), some (.int l3), some (.int l4), some (.int l5)] [] M =
    (if (24 : Int32) ≤ l5 then
      (some (some (.int l4), M)) else
      ((if ((l3 >>> (l5 &&& 31)) &&& (1 : Int32)) = (1 : Int32) then
        (ckk (mC M a0 = 9) (deR (mR M a0 22) fun q1 => ckk (mC M q1 = 100) (ckb l5 (mN M q1) ((if (aI M q1 (Int32.toNatClampNeg l5)) = (-1 : Int32) then
          (rn jm_Ref_claims cl 66 [some (.ref a0), some (.int l1), some (.int l2), some (.int l3), some (.int (l4 ||| (0 : Int32))), some (.int (l5 + (1 : Int32)))] [] M) else
          (ckk (mC M a0 = 9) (deR (mR M a0 22) fun q2 => ckk (mC M q2 = 100) (ckb l5 (mN M q2) (rn jm_Ref_claims cl 66 [some (.ref a0), some (.int l1), some (.int l2), some (.int l3), some (.int (l4 ||| ((1 : Int32) <<< ((aI M q2 (Int32.toNatClampNeg l5)) &&& 31)))), some (.int (l5 + (1 : Int32)))] [] M))))))))) else
        (rn jm_Ref_claims cl 66 [some (.ref a0), some (.int l1), some (.int l2), some (.int l3), some (.int (l4 ||| (0 : Int32))), some (.int (l5 + (1 : Int32)))] [] M)))) :=
  tr_eb [66] 29 rfl
theorem ca_Ref_claims (d : Nat) (a0 : Nat) (l1 : Int32) (l2 : Int32) (M : ej_Mem) : cal (d + 1) jm_Ref_claims [.ref a0, .int l1, .int l2] M = rn jm_Ref_claims (cal d) 0 [some (.ref a0), some (.int l1), some (.int l2), none, none, none] [] M := call_eq (show 3 ≤ 6 by decide)
set_option maxRecDepth 100000 in
theorem eq_Ref_risk_0 (cl : Nat → List Value → ej_Mem → Option ej_R) (a0 : Nat) (l1 : Int32) (l2 : Int32) (M : ej_Mem) : rn jm_Ref_risk cl 0 [some (.ref a0), some (.int l1), some (.int l2)] [] M =
    ckk (mC M a0 = 9) (bkI (cl jm_Ref_isRoll [.ref a0, .int l1] M) fun x2 M1 =>
    (if x2 = (0 : Int32) then
      (some (some (.int (-1 : Int32)), M1)) else
      (ckk (mC M1 a0 = 9) (deR (mR M1 a0 50) fun q3 => ckk (mC M1 q3 = 100) (ckb l1 (mN M1 q3) (bkI (cl jm_Ref_in [.long (Int32.toInt64 l2), .long (0 : Int64), .long (Int32.toInt64 ((aI M1 q3 (Int32.toNatClampNeg l1)) - (1 : Int32)))] M1) fun x5 M4 =>
      (if x5 = (0 : Int32) then
        (some (some (.int (-1 : Int32)), M4)) else
        (ckk (mC M4 a0 = 9) (deR (mR M4 a0 50) fun q6 => ckk (mC M4 q6 = 100) (ckb l1 (mN M4 q6) (ckk (mC M4 a0 = 9) (bkV (cl jm_Ref_judges [.ref a0, .int l1, .int (aI M4 q6 (Int32.toNatClampNeg l1))] M4) fun M7 =>
        ckk (mC M7 a0 = 9) ((if l2 < (mI M7 a0 52) then
          (ckk (mC M7 a0 = 9) (bkV (cl jm_Ref_judges [.ref a0, .int l1, .int l2] M7) fun M8 =>
          ckk (mC M8 a0 = 9) (deR (mR M8 a0 51) fun q9 => ckk (mC M8 q9 = 100) (ckb (((24 : Int32) * l1) + l2) (mN M8 q9) (ckk (mC M8 a0 = 9) (ckk (mC M8 a0 = 9) (bkI (cl jm_Ref_turns [.ref a0, .int (aI M8 q9 (Int32.toNatClampNeg (((24 : Int32) * l1) + l2))), .int (mI M8 a0 53)] M8) fun x11 M10 =>
          some (some (.int x11), M10)))))))) else
          (some (some (.int (-1 : Int32)), M7)))))))))))))))) :=
  tr_eb [] 44 rfl
theorem ca_Ref_risk (d : Nat) (a0 : Nat) (l1 : Int32) (l2 : Int32) (M : ej_Mem) : cal (d + 1) jm_Ref_risk [.ref a0, .int l1, .int l2] M = rn jm_Ref_risk (cal d) 0 [some (.ref a0), some (.int l1), some (.int l2)] [] M := call_eq (show 3 ≤ 3 by decide)
set_option maxRecDepth 100000 in
theorem eq_Ref_costs_0 (cl : Nat → List Value → ej_Mem → Option ej_R) (a0 : Nat) (l1 : Int32) (l2 : Int32) (M : ej_Mem) : rn jm_Ref_costs cl 0 [some (.ref a0), some (.int l1), some (.int l2), none, none] [] M =
    ckk (mC M a0 = 9) (bkI (cl jm_Ref_isRoll [.ref a0, .int l1] M) fun x2 M1 =>
    (if x2 = (0 : Int32) then
      (some (some (.int (-1 : Int32)), M1)) else
      (bkI (cl jm_Ref_in [.long (Int32.toInt64 l2), .long (0 : Int64), .long (1 : Int64)] M1) fun x4 M3 =>
      (if x4 = (0 : Int32) then
        (some (some (.int (-1 : Int32)), M3)) else
        (ckk (mC M3 a0 = 9) (deR (mR M3 a0 50) fun q5 => ckk (mC M3 q5 = 100) (ckb l1 (mN M3 q5) (ckk (mC M3 a0 = 9) (bkV (cl jm_Ref_judges [.ref a0, .int l1, .int (aI M3 q5 (Int32.toNatClampNeg l1))] M3) fun M6 =>
        rn jm_Ref_costs cl 36 [some (.ref a0), some (.int l1), some (.int l2), some (.int (0 : Int32)), some (.int (0 : Int32))] [] M6))))))))) :=
  tr_eb [36] 22 rfl
set_option maxRecDepth 100000 in
theorem eq_Ref_costs_36 (cl : Nat → List Value → ej_Mem → Option ej_R) (a0 : Nat) (l1 : Int32) (l2 : Int32) (l3 : Int32) (l4 : Int32) (M : ej_Mem) : rn jm_Ref_costs cl 36 [some (.ref a0), some (.int l1), some (.int l2), some (.int l3), some (.int l4)] [] M =
    ckk (mC M a0 = 9) ((if (mI M a0 52) ≤ l4 then
      (some (some (.int l3), M)) else
      (ckk (mC M a0 = 9) (deR (mR M a0 51) fun q1 => ckk (mC M q1 = 100) (ckb (((24 : Int32) * l1) + l4) (mN M q1) (ckk (mC M a0 = 9) (bkI (cl jm_Ref_costOf [.ref a0, .int (aI M q1 (Int32.toNatClampNeg (((24 : Int32) * l1) + l4))), .int l2] M) fun x3 M2 =>
      rn jm_Ref_costs cl 36 [some (.ref a0), some (.int l1), some (.int l2), some (.int (l3 + x3)), some (.int (l4 + (1 : Int32)))] [] M2))))))) :=
  tr_eb [36] 21 rfl
theorem ca_Ref_costs (d : Nat) (a0 : Nat) (l1 : Int32) (l2 : Int32) (M : ej_Mem) : cal (d + 1) jm_Ref_costs [.ref a0, .int l1, .int l2] M = rn jm_Ref_costs (cal d) 0 [some (.ref a0), some (.int l1), some (.int l2), none, none] [] M := call_eq (show 3 ≤ 5 by decide)
set_option maxRecDepth 100000 in
theorem eq_Ref_canAll_0 (cl : Nat → List Value → ej_Mem → Option ej_R) (a0 : Nat) (l1 : Int32) (M : ej_Mem) : rn jm_Ref_canAll cl 0 [some (.ref a0), some (.int l1), none, none] [] M =
    rn jm_Ref_canAll cl 4 [some (.ref a0), some (.int l1), some (.int (1 : Int32)), some (.int (0 : Int32))] [] M :=
  tr_eb [4] 5 rfl
set_option maxRecDepth 100000 in
theorem eq_Ref_canAll_4 (cl : Nat → List Value → ej_Mem → Option ej_R) (a0 : Nat) (l1 : Int32) (l2 : Int32) (l3 : Int32) (M : ej_Mem) : rn jm_Ref_canAll cl 4 [some (.ref a0), some (.int l1), some (.int l2), some (.int l3)] [] M =
    ckk (mC M a0 = 9) ((if (mI M a0 47) ≤ l3 then
      (ckk (l2 = 0 ∨ l2 = 1) (some (some (.int l2), M))) else
      ((if l2 = (0 : Int32) then
        (ckk (l2 = 0 ∨ l2 = 1) (some (some (.int l2), M))) else
        ((if ((l1 >>> (l3 &&& 31)) &&& (1 : Int32)) = (1 : Int32) then
          (ckk (mC M a0 = 9) (deR (mR M a0 50) fun q1 => ckk (mC M q1 = 100) (ckb l3 (mN M q1) (ckk (mC M a0 = 9) (bkV (cl jm_Ref_judges [.ref a0, .int l3, .int (aI M q1 (Int32.toNatClampNeg l3))] M) fun M2 =>
          ckk (mC M2 a0 = 9) (ckk (mC M2 a0 = 9) (deR (mR M2 a0 50) fun q3 => ckk (mC M2 q3 = 100) (ckb l3 (mN M2 q3) ((if (mI M2 a0 52) = (aI M2 q3 (Int32.toNatClampNeg l3)) then
            (rn jm_Ref_canAll cl 4 [some (.ref a0), some (.int l1), some (.int (1 : Int32)), some (.int (l3 + (1 : Int32)))] [] M2) else
            (rn jm_Ref_canAll cl 4 [some (.ref a0), some (.int l1), some (.int (0 : Int32)), some (.int (l3 + (1 : Int32)))] [] M2))))))))))) else
          (rn jm_Ref_canAll cl 4 [some (.ref a0), some (.int l1), some (.int l2), some (.int (l3 + (1 : Int32)))] [] M))))))) :=
  tr_eb [4] 33 rfl
theorem ca_Ref_canAll (d : Nat) (a0 : Nat) (l1 : Int32) (M : ej_Mem) : cal (d + 1) jm_Ref_canAll [.ref a0, .int l1] M = rn jm_Ref_canAll (cal d) 0 [some (.ref a0), some (.int l1), none, none] [] M := call_eq (show 2 ≤ 4 by decide)
set_option maxRecDepth 100000 in
theorem eq_Ref_words_0 (cl : Nat → List Value → ej_Mem → Option ej_R) (a0 : Nat) (l1 : Int32) (l2 : Int32) (l3 : Int32) (l4 : Int32) (l5 : Int32) (M : ej_Mem) : rn jm_Ref_words cl 0 [some (.ref a0), some (.int l1), some (.int l2), some (.int l3), some (.int l4), some (.int l5), none, none, none, none, none] [] M =
    ckk (mC M a0 = 9) (bkI (cl jm_Ref_isAsked [.ref a0, .int l1, .int l2, .int l3] M) fun x2 M1 =>
    (if x2 = (0 : Int32) then
      (some (some (.int (-1 : Int32)), M1)) else
      ((if l4 < (0 : Int32) then
        (some (some (.int (-1 : Int32)), M1)) else
        (ckk (mC M1 a0 = 9) ((if (l4 >>> ((mI M1 a0 47) &&& 31)) = (0 : Int32) then
          (bkI (cl jm_Ref_in [.long (Int32.toInt64 l5), .long (0 : Int64), .long (1 : Int64)] M1) fun x4 M3 =>
          (if x4 = (0 : Int32) then
            (some (some (.int (-1 : Int32)), M3)) else
            (ckk (mC M3 a0 = 9) (rn jm_Ref_words cl 54 [some (.ref a0), some (.int l1), some (.int l2), some (.int l3), some (.int l4), some (.int l5), some (.int (mI M3 a0 9)), some (.int (-2 : Int32)), some (.int (0 : Int32)), some (.int (0 : Int32)), none] [] M3)))) else
          (some (some (.int (-1 : Int32)), M1))))))))) :=
  tr_eb [54] 29 rfl
set_option maxRecDepth 100000 in
theorem eq_Ref_words_54 (cl : Nat → List Value → ej_Mem → Option ej_R) (a0 : Nat) (l1 : Int32) (l2 : Int32) (l3 : Int32) (l4 : Int32) (l5 : Int32) (l6 : Int32) (l7 : Int32) (l8 : Int32) (l9 : Int32) (o10 : Option Value) (M : ej_Mem) : rn jm_Ref_words cl 54 [some (.ref a0), some (.int l1), some (.int l2), some (.int l3), some (.int l4), some (.int l5), some (.int l6), some (.int l7), some (.int l8), some (.int l9), o10] [] M =
    ckk (mC M a0 = 9) (deR (mR M a0 11) fun q1 => ckk (mC M q1 = 100) (ckb (3 : Int32) (mN M q1) ((if ((1 : Int32) <<< ((aI M q1 (Int32.toNatClampNeg (3 : Int32))) &&& 31)) ≤ l9 then
      (ckk (mC M a0 = 9) ((if l7 = (-2 : Int32) then
        (some (some (.int (-2 : Int32)), (setI M a0 9 l6))) else
        ((if l5 = (0 : Int32) then
          (some (some (.int l7), (setI M a0 9 l6))) else
          (some (some (.int l8), (setI M a0 9 l6)))))))) else
      ((if l7 = (-2 : Int32) then
        (ckk (mC M a0 = 9) (ckk (mC (setI M a0 9 l9) a0 = 9) (bkI (cl jm_Ref_canAll [.ref a0, .int l4] (setI M a0 9 l9)) fun x3 M2 =>
        (if x3 = (0 : Int32) then
          (rn jm_Ref_words cl 54 [some (.ref a0), some (.int l1), some (.int l2), some (.int l3), some (.int l4), some (.int l5), some (.int l6), some (.int l7), some (.int l8), some (.int (l9 + (1 : Int32))), o10] [] M2) else
          (ckk (mC M2 a0 = 9) (bkI (cl jm_Ref_reaches [.ref a0, .int l1, .int l2, .int l3] M2) fun x5 M4 =>
          (if x5 = (3 : Int32) then
            ((if l7 = (-2 : Int32) then
              ((if (1 : Int32) = (0 : Int32) then
                ((if (1 : Int32) = (0 : Int32) then
                  (rn jm_Ref_words cl 54 [some (.ref a0), some (.int l1), some (.int l2), some (.int l3), some (.int l4), some (.int l5), some (.int l6), some (.int l7), some (.int (l8 + (1 : Int32))), some (.int (l9 + (1 : Int32))), some (.int (1 : Int32))] [] M4) else
                  (rn jm_Ref_words cl 54 [some (.ref a0), some (.int l1), some (.int l2), some (.int l3), some (.int l4), some (.int l5), some (.int l6), some (.int l9), some (.int (l8 + (1 : Int32))), some (.int (l9 + (1 : Int32))), some (.int (1 : Int32))] [] M4))) else
                ((if (1 : Int32) = (0 : Int32) then
                  (rn jm_Ref_words cl 54 [some (.ref a0), some (.int l1), some (.int l2), some (.int l3), some (.int l4), some (.int l5), some (.int l6), some (.int l7), some (.int (1 : Int32)), some (.int (l9 + (1 : Int32))), some (.int (1 : Int32))] [] M4) else
                  (rn jm_Ref_words cl 54 [some (.ref a0), some (.int l1), some (.int l2), some (.int l3), some (.int l4), some (.int l5), some (.int l6), some (.int l9), some (.int (1 : Int32)), some (.int (l9 + (1 : Int32))), some (.int (1 : Int32))] [] M4))))) else
              (bkI (cl jm_Ref_bits [.int l9] M4) fun x7 M6 =>
              bkI (cl jm_Ref_bits [.int l7] M6) fun x9 M8 =>
              (if x9 ≤ x7 then
                ((if (0 : Int32) = (0 : Int32) then
                  ((if (0 : Int32) = (0 : Int32) then
                    (rn jm_Ref_words cl 54 [some (.ref a0), some (.int l1), some (.int l2), some (.int l3), some (.int l4), some (.int l5), some (.int l6), some (.int l7), some (.int (l8 + (1 : Int32))), some (.int (l9 + (1 : Int32))), some (.int (0 : Int32))] [] M8) else
                    (rn jm_Ref_words cl 54 [some (.ref a0), some (.int l1), some (.int l2), some (.int l3), some (.int l4), some (.int l5), some (.int l6), some (.int l9), some (.int (l8 + (1 : Int32))), some (.int (l9 + (1 : Int32))), some (.int (0 : Int32))] [] M8))) else
                  ((if (0 : Int32) = (0 : Int32) then
                    (rn jm_Ref_words cl 54 [some (.ref a0), some (.int l1), some (.int l2), some (.int l3), some (.int l4), some (.int l5), some (.int l6), some (.int l7), some (.int (1 : Int32)), some (.int (l9 + (1 : Int32))), some (.int (0 : Int32))] [] M8) else
                    (rn jm_Ref_words cl 54 [some (.ref a0), some (.int l1), some (.int l2), some (.int l3), some (.int l4), some (.int l5), some (.int l6), some (.int l9), some (.int (1 : Int32)), some (.int (l9 + (1 : Int32))), some (.int (0 : Int32))] [] M8))))) else
                ((if (1 : Int32) = (0 : Int32) then
                  ((if (1 : Int32) = (0 : Int32) then
                    (rn jm_Ref_words cl 54 [some (.ref a0), some (.int l1), some (.int l2), some (.int l3), some (.int l4), some (.int l5), some (.int l6), some (.int l7), some (.int (l8 + (1 : Int32))), some (.int (l9 + (1 : Int32))), some (.int (1 : Int32))] [] M8) else
                    (rn jm_Ref_words cl 54 [some (.ref a0), some (.int l1), some (.int l2), some (.int l3), some (.int l4), some (.int l5), some (.int l6), some (.int l9), some (.int (l8 + (1 : Int32))), some (.int (l9 + (1 : Int32))), some (.int (1 : Int32))] [] M8))) else
                  ((if (1 : Int32) = (0 : Int32) then
                    (rn jm_Ref_words cl 54 [some (.ref a0), some (.int l1), some (.int l2), some (.int l3), some (.int l4), some (.int l5), some (.int l6), some (.int l7), some (.int (1 : Int32)), some (.int (l9 + (1 : Int32))), some (.int (1 : Int32))] [] M8) else
                    (rn jm_Ref_words cl 54 [some (.ref a0), some (.int l1), some (.int l2), some (.int l3), some (.int l4), some (.int l5), some (.int l6), some (.int l9), some (.int (1 : Int32)), some (.int (l9 + (1 : Int32))), some (.int (1 : Int32))] [] M8))))))))) else
            (rn jm_Ref_words cl 54 [some (.ref a0), some (.int l1), some (.int l2), some (.int l3), some (.int l4), some (.int l5), some (.int l6), some (.int l7), some (.int l8), some (.int (l9 + (1 : Int32))), o10] [] M4)))))))) else
        (bkI (cl jm_Ref_bits [.int l9] M) fun x11 M10 =>
        bkI (cl jm_Ref_bits [.int l7] M10) fun x13 M12 =>
        (if x13 < x11 then
          (rn jm_Ref_words cl 54 [some (.ref a0), some (.int l1), some (.int l2), some (.int l3), some (.int l4), some (.int l5), some (.int l6), some (.int l7), some (.int l8), some (.int (l9 + (1 : Int32))), o10] [] M12) else
          (ckk (mC M12 a0 = 9) (ckk (mC (setI M12 a0 9 l9) a0 = 9) (bkI (cl jm_Ref_canAll [.ref a0, .int l4] (setI M12 a0 9 l9)) fun x15 M14 =>
          (if x15 = (0 : Int32) then
            (rn jm_Ref_words cl 54 [some (.ref a0), some (.int l1), some (.int l2), some (.int l3), some (.int l4), some (.int l5), some (.int l6), some (.int l7), some (.int l8), some (.int (l9 + (1 : Int32))), o10] [] M14) else
            (ckk (mC M14 a0 = 9) (bkI (cl jm_Ref_reaches [.ref a0, .int l1, .int l2, .int l3] M14) fun x17 M16 =>
            (if x17 = (3 : Int32) then
              ((if l7 = (-2 : Int32) then
                ((if (1 : Int32) = (0 : Int32) then
                  ((if (1 : Int32) = (0 : Int32) then
                    (rn jm_Ref_words cl 54 [some (.ref a0), some (.int l1), some (.int l2), some (.int l3), some (.int l4), some (.int l5), some (.int l6), some (.int l7), some (.int (l8 + (1 : Int32))), some (.int (l9 + (1 : Int32))), some (.int (1 : Int32))] [] M16) else
                    (rn jm_Ref_words cl 54 [some (.ref a0), some (.int l1), some (.int l2), some (.int l3), some (.int l4), some (.int l5), some (.int l6), some (.int l9), some (.int (l8 + (1 : Int32))), some (.int (l9 + (1 : Int32))), some (.int (1 : Int32))] [] M16))) else
                  ((if (1 : Int32) = (0 : Int32) then
                    (rn jm_Ref_words cl 54 [some (.ref a0), some (.int l1), some (.int l2), some (.int l3), some (.int l4), some (.int l5), some (.int l6), some (.int l7), some (.int (1 : Int32)), some (.int (l9 + (1 : Int32))), some (.int (1 : Int32))] [] M16) else
                    (rn jm_Ref_words cl 54 [some (.ref a0), some (.int l1), some (.int l2), some (.int l3), some (.int l4), some (.int l5), some (.int l6), some (.int l9), some (.int (1 : Int32)), some (.int (l9 + (1 : Int32))), some (.int (1 : Int32))] [] M16))))) else
                (bkI (cl jm_Ref_bits [.int l9] M16) fun x19 M18 =>
                bkI (cl jm_Ref_bits [.int l7] M18) fun x21 M20 =>
                (if x21 ≤ x19 then
                  ((if (0 : Int32) = (0 : Int32) then
                    ((if (0 : Int32) = (0 : Int32) then
                      (rn jm_Ref_words cl 54 [some (.ref a0), some (.int l1), some (.int l2), some (.int l3), some (.int l4), some (.int l5), some (.int l6), some (.int l7), some (.int (l8 + (1 : Int32))), some (.int (l9 + (1 : Int32))), some (.int (0 : Int32))] [] M20) else
                      (rn jm_Ref_words cl 54 [some (.ref a0), some (.int l1), some (.int l2), some (.int l3), some (.int l4), some (.int l5), some (.int l6), some (.int l9), some (.int (l8 + (1 : Int32))), some (.int (l9 + (1 : Int32))), some (.int (0 : Int32))] [] M20))) else
                    ((if (0 : Int32) = (0 : Int32) then
                      (rn jm_Ref_words cl 54 [some (.ref a0), some (.int l1), some (.int l2), some (.int l3), some (.int l4), some (.int l5), some (.int l6), some (.int l7), some (.int (1 : Int32)), some (.int (l9 + (1 : Int32))), some (.int (0 : Int32))] [] M20) else
                      (rn jm_Ref_words cl 54 [some (.ref a0), some (.int l1), some (.int l2), some (.int l3), some (.int l4), some (.int l5), some (.int l6), some (.int l9), some (.int (1 : Int32)), some (.int (l9 + (1 : Int32))), some (.int (0 : Int32))] [] M20))))) else
                  ((if (1 : Int32) = (0 : Int32) then
                    ((if (1 : Int32) = (0 : Int32) then
                      (rn jm_Ref_words cl 54 [some (.ref a0), some (.int l1), some (.int l2), some (.int l3), some (.int l4), some (.int l5), some (.int l6), some (.int l7), some (.int (l8 + (1 : Int32))), some (.int (l9 + (1 : Int32))), some (.int (1 : Int32))] [] M20) else
                      (rn jm_Ref_words cl 54 [some (.ref a0), some (.int l1), some (.int l2), some (.int l3), some (.int l4), some (.int l5), some (.int l6), some (.int l9), some (.int (l8 + (1 : Int32))), some (.int (l9 + (1 : Int32))), some (.int (1 : Int32))] [] M20))) else
                    ((if (1 : Int32) = (0 : Int32) then
                      (rn jm_Ref_words cl 54 [some (.ref a0), some (.int l1), some (.int l2), some (.int l3), some (.int l4), some (.int l5), some (.int l6), some (.int l7), some (.int (1 : Int32)), some (.int (l9 + (1 : Int32))), some (.int (1 : Int32))] [] M20) else
                      (rn jm_Ref_words cl 54 [some (.ref a0), some (.int l1), some (.int l2), some (.int l3), some (.int l4), some (.int l5), some (.int l6), some (.int l9), some (.int (1 : Int32)), some (.int (l9 + (1 : Int32))), some (.int (1 : Int32))] [] M20))))))))) else
              (rn jm_Ref_words cl 54 [some (.ref a0), some (.int l1), some (.int l2), some (.int l3), some (.int l4), some (.int l5), some (.int l6), some (.int l7), some (.int l8), some (.int (l9 + (1 : Int32))), o10] [] M16)))))))))))))))) :=
  tr_eb [54] 55 rfl
theorem ca_Ref_words (d : Nat) (a0 : Nat) (l1 : Int32) (l2 : Int32) (l3 : Int32) (l4 : Int32) (l5 : Int32) (M : ej_Mem) : cal (d + 1) jm_Ref_words [.ref a0, .int l1, .int l2, .int l3, .int l4, .int l5] M = rn jm_Ref_words (cal d) 0 [some (.ref a0), some (.int l1), some (.int l2), some (.int l3), some (.int l4), some (.int l5), none, none, none, none, none] [] M := call_eq (show 6 ≤ 11 by decide)
set_option maxRecDepth 100000 in
theorem eq_Ref_carry_0 (cl : Nat → List Value → ej_Mem → Option ej_R) (a0 : Nat) (a1 : Nat) (M : ej_Mem) : rn jm_Ref_carry cl 0 [some (.ref a0), some (.ref a1), none] [] M =
    rn jm_Ref_carry cl 2 [some (.ref a0), some (.ref a1), some (.int (0 : Int32))] [] M :=
  tr_eb [2] 3 rfl
set_option maxRecDepth 100000 in
theorem eq_Ref_carry_2 (cl : Nat → List Value → ej_Mem → Option ej_R) (a0 : Nat) (a1 : Nat) (l2 : Int32) (M : ej_Mem) : rn jm_Ref_carry cl 2 [some (.ref a0), some (.ref a1), some (.int l2)] [] M =
    ckk (100 ≤ mC M a1 ∧ mC M a1 ≤ 104) ((if (Int32.ofNat (mN M a1)) ≤ l2 then
      (some (none, M)) else
      (ckk (mC M a0 = 9) ((if (mI M a0 58) = (0 : Int32) then
        (ckk (mC M a0 = 9) (deR (mR M a0 54) fun q1 => ckk (mC M a0 = 9) (ckk (mC M a1 = 100) (ckb l2 (mN M a1) (ckk (mC M q1 = 100) (ckb (mI M a0 57) (mN M q1) (ckk (mC (setA M q1 (Int32.toNatClampNeg (mI M a0 57)) (aI M a1 (Int32.toNatClampNeg l2))) a0 = 9) (ckk (mC (setA M q1 (Int32.toNatClampNeg (mI M a0 57)) (aI M a1 (Int32.toNatClampNeg l2))) a0 = 9) (rn jm_Ref_carry cl 2 [some (.ref a0), some (.ref a1), some (.int (l2 + (1 : Int32)))] [] (setI (setA M q1 (Int32.toNatClampNeg (mI M a0 57)) (aI M a1 (Int32.toNatClampNeg l2))) a0 57 ((mI (setA M q1 (Int32.toNatClampNeg (mI M a0 57)) (aI M a1 (Int32.toNatClampNeg l2))) a0 57) + (1 : Int32)))))))))))) else
        (ckk (mC M a0 = 9) (deR (mR M a0 54) fun q2 => ckk (mC M a0 = 9) (ckk (mC M q2 = 100) (ckb (mI M a0 57) (mN M q2) (ckk (mC M a1 = 100) (ckb l2 (mN M a1) (ckk (mC (setA M a1 (Int32.toNatClampNeg l2) (aI M q2 (Int32.toNatClampNeg (mI M a0 57)))) a0 = 9) (ckk (mC (setA M a1 (Int32.toNatClampNeg l2) (aI M q2 (Int32.toNatClampNeg (mI M a0 57)))) a0 = 9) (rn jm_Ref_carry cl 2 [some (.ref a0), some (.ref a1), some (.int (l2 + (1 : Int32)))] [] (setI (setA M a1 (Int32.toNatClampNeg l2) (aI M q2 (Int32.toNatClampNeg (mI M a0 57)))) a0 57 ((mI (setA M a1 (Int32.toNatClampNeg l2) (aI M q2 (Int32.toNatClampNeg (mI M a0 57)))) a0 57) + (1 : Int32))))))))))))))))) :=
  tr_eb [2] 25 rfl
theorem ca_Ref_carry (d : Nat) (a0 : Nat) (a1 : Nat) (M : ej_Mem) : cal (d + 1) jm_Ref_carry [.ref a0, .ref a1] M = rn jm_Ref_carry (cal d) 0 [some (.ref a0), some (.ref a1), none] [] M := call_eq (show 2 ≤ 3 by decide)
set_option maxRecDepth 100000 in
theorem eq_Ref_carries_0 (cl : Nat → List Value → ej_Mem → Option ej_R) (a0 : Nat) (l1 : Int32) (M : ej_Mem) : rn jm_Ref_carries cl 0 [some (.ref a0), some (.int l1)] [] M =
    ckk (mC M a0 = 9) (ckk (mC (setI M a0 57 ((46000 : Int32) * l1)) a0 = 9) (deR (mR (setI M a0 57 ((46000 : Int32) * l1)) a0 55) fun q1 => ckk (mC (setI M a0 57 ((46000 : Int32) * l1)) a0 = 9) (bkV (cl jm_Ref_carry [.ref a0, .ref q1] (setI M a0 57 ((46000 : Int32) * l1))) fun M2 =>
    ckk (mC M2 a0 = 9) (deR (mR M2 a0 11) fun q3 => ckk (mC M2 a0 = 9) (bkV (cl jm_Ref_carry [.ref a0, .ref q3] M2) fun M4 =>
    ckk (mC M4 a0 = 9) (deR (mR M4 a0 12) fun q5 => ckk (mC M4 a0 = 9) (bkV (cl jm_Ref_carry [.ref a0, .ref q5] M4) fun M6 =>
    ckk (mC M6 a0 = 9) (deR (mR M6 a0 13) fun q7 => ckk (mC M6 a0 = 9) (bkV (cl jm_Ref_carry [.ref a0, .ref q7] M6) fun M8 =>
    ckk (mC M8 a0 = 9) (deR (mR M8 a0 14) fun q9 => ckk (mC M8 a0 = 9) (bkV (cl jm_Ref_carry [.ref a0, .ref q9] M8) fun M10 =>
    ckk (mC M10 a0 = 9) (deR (mR M10 a0 15) fun q11 => ckk (mC M10 a0 = 9) (bkV (cl jm_Ref_carry [.ref a0, .ref q11] M10) fun M12 =>
    ckk (mC M12 a0 = 9) (deR (mR M12 a0 16) fun q13 => ckk (mC M12 a0 = 9) (bkV (cl jm_Ref_carry [.ref a0, .ref q13] M12) fun M14 =>
    ckk (mC M14 a0 = 9) (deR (mR M14 a0 17) fun q15 => ckk (mC M14 a0 = 9) (bkV (cl jm_Ref_carry [.ref a0, .ref q15] M14) fun M16 =>
    ckk (mC M16 a0 = 9) (deR (mR M16 a0 18) fun q17 => ckk (mC M16 a0 = 9) (bkV (cl jm_Ref_carry [.ref a0, .ref q17] M16) fun M18 =>
    ckk (mC M18 a0 = 9) (deR (mR M18 a0 20) fun q19 => ckk (mC M18 a0 = 9) (bkV (cl jm_Ref_carry [.ref a0, .ref q19] M18) fun M20 =>
    ckk (mC M20 a0 = 9) (deR (mR M20 a0 21) fun q21 => ckk (mC M20 a0 = 9) (bkV (cl jm_Ref_carry [.ref a0, .ref q21] M20) fun M22 =>
    ckk (mC M22 a0 = 9) (deR (mR M22 a0 22) fun q23 => ckk (mC M22 a0 = 9) (bkV (cl jm_Ref_carry [.ref a0, .ref q23] M22) fun M24 =>
    ckk (mC M24 a0 = 9) (deR (mR M24 a0 28) fun q25 => ckk (mC M24 a0 = 9) (bkV (cl jm_Ref_carry [.ref a0, .ref q25] M24) fun M26 =>
    ckk (mC M26 a0 = 9) (deR (mR M26 a0 29) fun q27 => ckk (mC M26 a0 = 9) (bkV (cl jm_Ref_carry [.ref a0, .ref q27] M26) fun M28 =>
    ckk (mC M28 a0 = 9) (deR (mR M28 a0 30) fun q29 => ckk (mC M28 a0 = 9) (bkV (cl jm_Ref_carry [.ref a0, .ref q29] M28) fun M30 =>
    ckk (mC M30 a0 = 9) (deR (mR M30 a0 48) fun q31 => ckk (mC M30 a0 = 9) (bkV (cl jm_Ref_carry [.ref a0, .ref q31] M30) fun M32 =>
    ckk (mC M32 a0 = 9) (deR (mR M32 a0 49) fun q33 => ckk (mC M32 a0 = 9) (bkV (cl jm_Ref_carry [.ref a0, .ref q33] M32) fun M34 =>
    ckk (mC M34 a0 = 9) (deR (mR M34 a0 50) fun q35 => ckk (mC M34 a0 = 9) (bkV (cl jm_Ref_carry [.ref a0, .ref q35] M34) fun M36 =>
    ckk (mC M36 a0 = 9) (deR (mR M36 a0 51) fun q37 => ckk (mC M36 a0 = 9) (bkV (cl jm_Ref_carry [.ref a0, .ref q37] M36) fun M38 =>
    some (none, M38)))))))))))))))))))))))))))))))))))))))) :=
  tr_eb [] 82 rfl
theorem ca_Ref_carries (d : Nat) (a0 : Nat) (l1 : Int32) (M : ej_Mem) : cal (d + 1) jm_Ref_carries [.ref a0, .int l1] M = rn jm_Ref_carries (cal d) 0 [some (.ref a0), some (.int l1)] [] M := call_eq (show 2 ≤ 2 by decide)
set_option maxRecDepth 100000 in
theorem eq_Ref_mark_0 (cl : Nat → List Value → ej_Mem → Option ej_R) (a0 : Nat) (l1 : Int32) (M : ej_Mem) : rn jm_Ref_mark cl 0 [some (.ref a0), some (.int l1)] [] M =
    bkI (cl jm_Ref_in [.long (Int32.toInt64 l1), .long (0 : Int64), .long (3 : Int64)] M) fun x2 M1 =>
    (if x2 = (0 : Int32) then
      (some (some (.int (-1 : Int32)), M1)) else
      (ckk (mC M1 a0 = 9) (deR (mR M1 a0 55) fun q3 => ckk (mC M1 a0 = 9) (ckk (mC M1 q3 = 100) (ckb (0 : Int32) (mN M1 q3) (rn jm_Ref_mark cl 24 [some (.ref a0), some (.int l1)] [] (setA M1 q3 (Int32.toNatClampNeg (0 : Int32)) (mI M1 a0 9)))))))) :=
  tr_eb [24, 34, 44, 54, 64, 74, 85, 96, 107, 114, 119] 13 rfl
set_option maxRecDepth 100000 in
theorem eq_Ref_mark_24 (cl : Nat → List Value → ej_Mem → Option ej_R) (a0 : Nat) (l1 : Int32) (M : ej_Mem) : rn jm_Ref_mark cl 24 [some (.ref a0), some (.int l1)] [] M =
    ckk (mC M a0 = 9) (deR (mR M a0 55) fun q1 => ckk (mC M a0 = 9) (ckk (mC M q1 = 100) (ckb (1 : Int32) (mN M q1) (rn jm_Ref_mark cl 34 [some (.ref a0), some (.int l1)] [] (setA M q1 (Int32.toNatClampNeg (1 : Int32)) (mI M a0 31)))))) :=
  tr_eb [24, 34, 44, 54, 64, 74, 85, 96, 107, 114, 119] 7 rfl
set_option maxRecDepth 100000 in
theorem eq_Ref_mark_34 (cl : Nat → List Value → ej_Mem → Option ej_R) (a0 : Nat) (l1 : Int32) (M : ej_Mem) : rn jm_Ref_mark cl 34 [some (.ref a0), some (.int l1)] [] M =
    ckk (mC M a0 = 9) (deR (mR M a0 55) fun q1 => ckk (mC M a0 = 9) (ckk (mC M q1 = 100) (ckb (2 : Int32) (mN M q1) (rn jm_Ref_mark cl 44 [some (.ref a0), some (.int l1)] [] (setA M q1 (Int32.toNatClampNeg (2 : Int32)) (mI M a0 32)))))) :=
  tr_eb [24, 34, 44, 54, 64, 74, 85, 96, 107, 114, 119] 7 rfl
set_option maxRecDepth 100000 in
theorem eq_Ref_mark_44 (cl : Nat → List Value → ej_Mem → Option ej_R) (a0 : Nat) (l1 : Int32) (M : ej_Mem) : rn jm_Ref_mark cl 44 [some (.ref a0), some (.int l1)] [] M =
    ckk (mC M a0 = 9) (deR (mR M a0 55) fun q1 => ckk (mC M a0 = 9) (ckk (mC M q1 = 100) (ckb (3 : Int32) (mN M q1) (rn jm_Ref_mark cl 54 [some (.ref a0), some (.int l1)] [] (setA M q1 (Int32.toNatClampNeg (3 : Int32)) (mI M a0 33)))))) :=
  tr_eb [24, 34, 44, 54, 64, 74, 85, 96, 107, 114, 119] 7 rfl
set_option maxRecDepth 100000 in
theorem eq_Ref_mark_54 (cl : Nat → List Value → ej_Mem → Option ej_R) (a0 : Nat) (l1 : Int32) (M : ej_Mem) : rn jm_Ref_mark cl 54 [some (.ref a0), some (.int l1)] [] M =
    ckk (mC M a0 = 9) (deR (mR M a0 55) fun q1 => ckk (mC M a0 = 9) (ckk (mC M q1 = 100) (ckb (4 : Int32) (mN M q1) (rn jm_Ref_mark cl 64 [some (.ref a0), some (.int l1)] [] (setA M q1 (Int32.toNatClampNeg (4 : Int32)) (mI M a0 34)))))) :=
  tr_eb [24, 34, 44, 54, 64, 74, 85, 96, 107, 114, 119] 7 rfl
set_option maxRecDepth 100000 in
theorem eq_Ref_mark_64 (cl : Nat → List Value → ej_Mem → Option ej_R) (a0 : Nat) (l1 : Int32) (M : ej_Mem) : rn jm_Ref_mark cl 64 [some (.ref a0), some (.int l1)] [] M =
    ckk (mC M a0 = 9) (deR (mR M a0 55) fun q1 => ckk (mC M a0 = 9) (ckk (mC M q1 = 100) (ckb (5 : Int32) (mN M q1) (rn jm_Ref_mark cl 74 [some (.ref a0), some (.int l1)] [] (setA M q1 (Int32.toNatClampNeg (5 : Int32)) (mI M a0 35)))))) :=
  tr_eb [24, 34, 44, 54, 64, 74, 85, 96, 107, 114, 119] 7 rfl
set_option maxRecDepth 100000 in
theorem eq_Ref_mark_74 (cl : Nat → List Value → ej_Mem → Option ej_R) (a0 : Nat) (l1 : Int32) (M : ej_Mem) : rn jm_Ref_mark cl 74 [some (.ref a0), some (.int l1)] [] M =
    ckk (mC M a0 = 9) (deR (mR M a0 55) fun q1 => ckk (mC M a0 = 9) (ckk (mC M q1 = 100) (ckb (6 : Int32) (mN M q1) (rn jm_Ref_mark cl 85 [some (.ref a0), some (.int l1)] [] (setA M q1 (Int32.toNatClampNeg (6 : Int32)) (mI M a0 36)))))) :=
  tr_eb [24, 34, 44, 54, 64, 74, 85, 96, 107, 114, 119] 7 rfl
set_option maxRecDepth 100000 in
theorem eq_Ref_mark_85 (cl : Nat → List Value → ej_Mem → Option ej_R) (a0 : Nat) (l1 : Int32) (M : ej_Mem) : rn jm_Ref_mark cl 85 [some (.ref a0), some (.int l1)] [] M =
    ckk (mC M a0 = 9) (deR (mR M a0 55) fun q1 => ckk (mC M a0 = 9) (ckk (mC M q1 = 100) (ckb (7 : Int32) (mN M q1) (rn jm_Ref_mark cl 96 [some (.ref a0), some (.int l1)] [] (setA M q1 (Int32.toNatClampNeg (7 : Int32)) (mI M a0 37)))))) :=
  tr_eb [24, 34, 44, 54, 64, 74, 85, 96, 107, 114, 119] 7 rfl
set_option maxRecDepth 100000 in
theorem eq_Ref_mark_96 (cl : Nat → List Value → ej_Mem → Option ej_R) (a0 : Nat) (l1 : Int32) (M : ej_Mem) : rn jm_Ref_mark cl 96 [some (.ref a0), some (.int l1)] [] M =
    ckk (mC M a0 = 9) (deR (mR M a0 55) fun q1 => ckk (mC M a0 = 9) (ckk (mC M q1 = 100) (ckb (8 : Int32) (mN M q1) (rn jm_Ref_mark cl 107 [some (.ref a0), some (.int l1)] [] (setA M q1 (Int32.toNatClampNeg (8 : Int32)) (mI M a0 47)))))) :=
  tr_eb [24, 34, 44, 54, 64, 74, 85, 96, 107, 114, 119] 7 rfl
set_option maxRecDepth 100000 in
theorem eq_Ref_mark_107 (cl : Nat → List Value → ej_Mem → Option ej_R) (a0 : Nat) (l1 : Int32) (M : ej_Mem) : rn jm_Ref_mark cl 107 [some (.ref a0), some (.int l1)] [] M =
    ckk (mC M a0 = 9) (deR (mR M a0 56) fun q1 => ckk (mC M q1 = 102) (ckb l1 (mN M q1) (rn jm_Ref_mark cl 114 [some (.ref a0), some (.int l1)] [] (setA M q1 (Int32.toNatClampNeg l1) (vp_nar .boolean (1 : Int32)))))) :=
  tr_eb [24, 34, 44, 54, 64, 74, 85, 96, 107, 114, 119] 6 rfl
set_option maxRecDepth 100000 in
theorem eq_Ref_mark_114 (cl : Nat → List Value → ej_Mem → Option ej_R) (a0 : Nat) (l1 : Int32) (M : ej_Mem) : rn jm_Ref_mark cl 114 [some (.ref a0), some (.int l1)] [] M =
    ckk (mC M a0 = 9) (ckk ((0 : Int32) = 0 ∨ (0 : Int32) = 1) (rn jm_Ref_mark cl 119 [some (.ref a0), some (.int l1)] [] (setI M a0 58 (0 : Int32)))) :=
  tr_eb [24, 34, 44, 54, 64, 74, 85, 96, 107, 114, 119] 4 rfl
set_option maxRecDepth 100000 in
theorem eq_Ref_mark_119 (cl : Nat → List Value → ej_Mem → Option ej_R) (a0 : Nat) (l1 : Int32) (M : ej_Mem) : rn jm_Ref_mark cl 119 [some (.ref a0), some (.int l1)] [] M =
    ckk (mC M a0 = 9) (bkV (cl jm_Ref_carries [.ref a0, .int l1] M) fun M1 =>
    ckk (mC M1 a0 = 9) (deR (mR M1 a0 11) fun q2 => ckk (mC M1 q2 = 100) (ckb (0 : Int32) (mN M1 q2) (some (some (.int (aI M1 q2 (Int32.toNatClampNeg (0 : Int32)))), M1))))) :=
  tr_eb [24, 34, 44, 54, 64, 74, 85, 96, 107, 114, 119] 8 rfl
theorem ca_Ref_mark (d : Nat) (a0 : Nat) (l1 : Int32) (M : ej_Mem) : cal (d + 1) jm_Ref_mark [.ref a0, .int l1] M = rn jm_Ref_mark (cal d) 0 [some (.ref a0), some (.int l1)] [] M := call_eq (show 2 ≤ 2 by decide)
set_option maxRecDepth 100000 in
theorem eq_Ref_back_0 (cl : Nat → List Value → ej_Mem → Option ej_R) (a0 : Nat) (l1 : Int32) (M : ej_Mem) : rn jm_Ref_back cl 0 [some (.ref a0), some (.int l1)] [] M =
    bkI (cl jm_Ref_in [.long (Int32.toInt64 l1), .long (0 : Int64), .long (3 : Int64)] M) fun x2 M1 =>
    (if x2 = (0 : Int32) then
      (some (some (.int (-1 : Int32)), M1)) else
      (ckk (mC M1 a0 = 9) (deR (mR M1 a0 56) fun q3 => ckk (mC M1 q3 = 102) (ckb l1 (mN M1 q3) ((if (aI M1 q3 (Int32.toNatClampNeg l1)) = (0 : Int32) then
        (some (some (.int (-1 : Int32)), M1)) else
        (ckk (mC M1 a0 = 9) (ckk ((1 : Int32) = 0 ∨ (1 : Int32) = 1) (rn jm_Ref_back cl 28 [some (.ref a0), some (.int l1)] [] (setI M1 a0 58 (1 : Int32))))))))))) :=
  tr_eb [28, 43, 53, 63, 73, 83, 93, 104, 115, 126] 15 rfl
set_option maxRecDepth 100000 in
theorem eq_Ref_back_28 (cl : Nat → List Value → ej_Mem → Option ej_R) (a0 : Nat) (l1 : Int32) (M : ej_Mem) : rn jm_Ref_back cl 28 [some (.ref a0), some (.int l1)] [] M =
    ckk (mC M a0 = 9) (bkV (cl jm_Ref_carries [.ref a0, .int l1] M) fun M1 =>
    ckk (mC M1 a0 = 9) (deR (mR M1 a0 55) fun q2 => ckk (mC M1 q2 = 100) (ckb (0 : Int32) (mN M1 q2) (ckk (mC M1 a0 = 9) (rn jm_Ref_back cl 43 [some (.ref a0), some (.int l1)] [] (setI M1 a0 9 (aI M1 q2 (Int32.toNatClampNeg (0 : Int32))))))))) :=
  tr_eb [28, 43, 53, 63, 73, 83, 93, 104, 115, 126] 10 rfl
set_option maxRecDepth 100000 in
theorem eq_Ref_back_43 (cl : Nat → List Value → ej_Mem → Option ej_R) (a0 : Nat) (l1 : Int32) (M : ej_Mem) : rn jm_Ref_back cl 43 [some (.ref a0), some (.int l1)] [] M =
    ckk (mC M a0 = 9) (deR (mR M a0 55) fun q1 => ckk (mC M q1 = 100) (ckb (1 : Int32) (mN M q1) (ckk (mC M a0 = 9) (rn jm_Ref_back cl 53 [some (.ref a0), some (.int l1)] [] (setI M a0 31 (aI M q1 (Int32.toNatClampNeg (1 : Int32)))))))) :=
  tr_eb [28, 43, 53, 63, 73, 83, 93, 104, 115, 126] 7 rfl
set_option maxRecDepth 100000 in
theorem eq_Ref_back_53 (cl : Nat → List Value → ej_Mem → Option ej_R) (a0 : Nat) (l1 : Int32) (M : ej_Mem) : rn jm_Ref_back cl 53 [some (.ref a0), some (.int l1)] [] M =
    ckk (mC M a0 = 9) (deR (mR M a0 55) fun q1 => ckk (mC M q1 = 100) (ckb (2 : Int32) (mN M q1) (ckk (mC M a0 = 9) (rn jm_Ref_back cl 63 [some (.ref a0), some (.int l1)] [] (setI M a0 32 (aI M q1 (Int32.toNatClampNeg (2 : Int32)))))))) :=
  tr_eb [28, 43, 53, 63, 73, 83, 93, 104, 115, 126] 7 rfl
set_option maxRecDepth 100000 in
theorem eq_Ref_back_63 (cl : Nat → List Value → ej_Mem → Option ej_R) (a0 : Nat) (l1 : Int32) (M : ej_Mem) : rn jm_Ref_back cl 63 [some (.ref a0), some (.int l1)] [] M =
    ckk (mC M a0 = 9) (deR (mR M a0 55) fun q1 => ckk (mC M q1 = 100) (ckb (3 : Int32) (mN M q1) (ckk (mC M a0 = 9) (rn jm_Ref_back cl 73 [some (.ref a0), some (.int l1)] [] (setI M a0 33 (aI M q1 (Int32.toNatClampNeg (3 : Int32)))))))) :=
  tr_eb [28, 43, 53, 63, 73, 83, 93, 104, 115, 126] 7 rfl
set_option maxRecDepth 100000 in
theorem eq_Ref_back_73 (cl : Nat → List Value → ej_Mem → Option ej_R) (a0 : Nat) (l1 : Int32) (M : ej_Mem) : rn jm_Ref_back cl 73 [some (.ref a0), some (.int l1)] [] M =
    ckk (mC M a0 = 9) (deR (mR M a0 55) fun q1 => ckk (mC M q1 = 100) (ckb (4 : Int32) (mN M q1) (ckk (mC M a0 = 9) (rn jm_Ref_back cl 83 [some (.ref a0), some (.int l1)] [] (setI M a0 34 (aI M q1 (Int32.toNatClampNeg (4 : Int32)))))))) :=
  tr_eb [28, 43, 53, 63, 73, 83, 93, 104, 115, 126] 7 rfl
set_option maxRecDepth 100000 in
theorem eq_Ref_back_83 (cl : Nat → List Value → ej_Mem → Option ej_R) (a0 : Nat) (l1 : Int32) (M : ej_Mem) : rn jm_Ref_back cl 83 [some (.ref a0), some (.int l1)] [] M =
    ckk (mC M a0 = 9) (deR (mR M a0 55) fun q1 => ckk (mC M q1 = 100) (ckb (5 : Int32) (mN M q1) (ckk (mC M a0 = 9) (rn jm_Ref_back cl 93 [some (.ref a0), some (.int l1)] [] (setI M a0 35 (aI M q1 (Int32.toNatClampNeg (5 : Int32)))))))) :=
  tr_eb [28, 43, 53, 63, 73, 83, 93, 104, 115, 126] 7 rfl
set_option maxRecDepth 100000 in
theorem eq_Ref_back_93 (cl : Nat → List Value → ej_Mem → Option ej_R) (a0 : Nat) (l1 : Int32) (M : ej_Mem) : rn jm_Ref_back cl 93 [some (.ref a0), some (.int l1)] [] M =
    ckk (mC M a0 = 9) (deR (mR M a0 55) fun q1 => ckk (mC M q1 = 100) (ckb (6 : Int32) (mN M q1) (ckk (mC M a0 = 9) (rn jm_Ref_back cl 104 [some (.ref a0), some (.int l1)] [] (setI M a0 36 (aI M q1 (Int32.toNatClampNeg (6 : Int32)))))))) :=
  tr_eb [28, 43, 53, 63, 73, 83, 93, 104, 115, 126] 7 rfl
set_option maxRecDepth 100000 in
theorem eq_Ref_back_104 (cl : Nat → List Value → ej_Mem → Option ej_R) (a0 : Nat) (l1 : Int32) (M : ej_Mem) : rn jm_Ref_back cl 104 [some (.ref a0), some (.int l1)] [] M =
    ckk (mC M a0 = 9) (deR (mR M a0 55) fun q1 => ckk (mC M q1 = 100) (ckb (7 : Int32) (mN M q1) (ckk (mC M a0 = 9) (rn jm_Ref_back cl 115 [some (.ref a0), some (.int l1)] [] (setI M a0 37 (aI M q1 (Int32.toNatClampNeg (7 : Int32)))))))) :=
  tr_eb [28, 43, 53, 63, 73, 83, 93, 104, 115, 126] 7 rfl
set_option maxRecDepth 100000 in
theorem eq_Ref_back_115 (cl : Nat → List Value → ej_Mem → Option ej_R) (a0 : Nat) (l1 : Int32) (M : ej_Mem) : rn jm_Ref_back cl 115 [some (.ref a0), some (.int l1)] [] M =
    ckk (mC M a0 = 9) (deR (mR M a0 55) fun q1 => ckk (mC M q1 = 100) (ckb (8 : Int32) (mN M q1) (ckk (mC M a0 = 9) (rn jm_Ref_back cl 126 [some (.ref a0), some (.int l1)] [] (setI M a0 47 (aI M q1 (Int32.toNatClampNeg (8 : Int32)))))))) :=
  tr_eb [28, 43, 53, 63, 73, 83, 93, 104, 115, 126] 7 rfl
set_option maxRecDepth 100000 in
theorem eq_Ref_back_126 (cl : Nat → List Value → ej_Mem → Option ej_R) (a0 : Nat) (l1 : Int32) (M : ej_Mem) : rn jm_Ref_back cl 126 [some (.ref a0), some (.int l1)] [] M =
    ckk (mC M a0 = 9) (deR (mR M a0 11) fun q1 => ckk (mC M q1 = 100) (ckb (0 : Int32) (mN M q1) (some (some (.int (aI M q1 (Int32.toNatClampNeg (0 : Int32)))), M)))) :=
  tr_eb [28, 43, 53, 63, 73, 83, 93, 104, 115, 126] 5 rfl
theorem ca_Ref_back (d : Nat) (a0 : Nat) (l1 : Int32) (M : ej_Mem) : cal (d + 1) jm_Ref_back [.ref a0, .int l1] M = rn jm_Ref_back (cal d) 0 [some (.ref a0), some (.int l1)] [] M := call_eq (show 2 ≤ 2 by decide)
set_option maxRecDepth 100000 in
theorem eq_Ref_count_0 (cl : Nat → List Value → ej_Mem → Option ej_R) (a0 : Nat) (l1 : Int32) (M : ej_Mem) : rn jm_Ref_count cl 0 [some (.ref a0), some (.int l1)] [] M =
    bkI (cl jm_Ref_in [.long (Int32.toInt64 l1), .long (0 : Int64), .long (3 : Int64)] M) fun x2 M1 =>
    (if x2 = (0 : Int32) then
      ((if l1 = (4 : Int32) then
        (ckk (mC M1 a0 = 9) (some (some (.int (mI M1 a0 47)), M1))) else
        ((if l1 = (5 : Int32) then
          (ckk (mC M1 a0 = 9) (some (some (.int (mI M1 a0 1)), M1))) else
          (some (some (.int (-1 : Int32)), M1)))))) else
      (ckk (mC M1 a0 = 9) (deR (mR M1 a0 11) fun q3 => ckk (mC M1 q3 = 100) (ckb l1 (mN M1 q3) (some (some (.int (aI M1 q3 (Int32.toNatClampNeg l1))), M1)))))) :=
  tr_eb [] 16 rfl
theorem ca_Ref_count (d : Nat) (a0 : Nat) (l1 : Int32) (M : ej_Mem) : cal (d + 1) jm_Ref_count [.ref a0, .int l1] M = rn jm_Ref_count (cal d) 0 [some (.ref a0), some (.int l1)] [] M := call_eq (show 2 ≤ 2 by decide)
