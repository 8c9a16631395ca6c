/-! equations of the methods: from the entry and each loop head a tree of tests; written by wip/gen/eqs.py -/
set_option maxRecDepth 100000 in
theorem eq_Suit_init_0 (cl : Nat → List Value → ej_Mem → Option ej_R) (a0 : Nat) (M : ej_Mem) : rn jm_Suit_init cl 0 [some (.ref a0)] [] M =
    ckk (¬ (400 : Int32) < 0 ∧ Int32.toNatClampNeg (400 : Int32) ≤ 67108864) (ckk (mC (newM M 100 (Int32.toNatClampNeg (400 : Int32)) (Int32.toNatClampNeg (400 : Int32))) a0 = 8) (rn jm_Suit_init cl 13 [some (.ref a0)] [] (setR (newM M 100 (Int32.toNatClampNeg (400 : Int32)) (Int32.toNatClampNeg (400 : Int32))) a0 0 (some (mZ M))))) :=
  tr_eq [13, 18, 33, 44, 52, 63, 79, 90, 101] 7 rfl
set_option maxRecDepth 100000 in
theorem eq_Suit_init_13 (cl : Nat → List Value → ej_Mem → Option ej_R) (a0 : Nat) (M : ej_Mem) : rn jm_Suit_init cl 13 [some (.ref a0)] [] M =
    ckk (mC M a0 = 8) (rn jm_Suit_init cl 18 [some (.ref a0)] [] (setI M a0 1 (0 : Int32))) :=
  tr_eq [13, 18, 33, 44, 52, 63, 79, 90, 101] 4 rfl
set_option maxRecDepth 100000 in
theorem eq_Suit_init_18 (cl : Nat → List Value → ej_Mem → Option ej_R) (a0 : Nat) (M : ej_Mem) : rn jm_Suit_init cl 18 [some (.ref a0)] [] M =
    ckk (mC (newM M 0 0 17) a0 = 8) (deR (mR (newM M 0 0 17) a0 0) fun q1 => bkV (cl jm_Clerk_init [.ref (mZ M), .ref q1] (newM M 0 0 17)) fun M2 =>
    ckk (mC M2 a0 = 8) (rn jm_Suit_init cl 33 [some (.ref a0)] [] (setR M2 a0 2 (some (mZ M))))) :=
  tr_eq [13, 18, 33, 44, 52, 63, 79, 90, 101] 8 rfl
set_option maxRecDepth 100000 in
theorem eq_Suit_init_33 (cl : Nat → List Value → ej_Mem → Option ej_R) (a0 : Nat) (M : ej_Mem) : rn jm_Suit_init cl 33 [some (.ref a0)] [] M =
    bkV (cl jm_Land_init [.ref (mZ M)] (newM M 3 0 11)) fun M1 =>
    ckk (mC M1 a0 = 8) (rn jm_Suit_init cl 44 [some (.ref a0)] [] (setR M1 a0 3 (some (mZ M)))) :=
  tr_eq [13, 18, 33, 44, 52, 63, 79, 90, 101] 6 rfl
set_option maxRecDepth 100000 in
theorem eq_Suit_init_44 (cl : Nat → List Value → ej_Mem → Option ej_R) (a0 : Nat) (M : ej_Mem) : rn jm_Suit_init cl 44 [some (.ref a0)] [] M =
    ckk (¬ (4 : Int32) < 0 ∧ Int32.toNatClampNeg (4 : Int32) ≤ 67108864) (ckk (mC (newM M 104 (Int32.toNatClampNeg (4 : Int32)) (Int32.toNatClampNeg (4 : Int32))) a0 = 8) (rn jm_Suit_init cl 52 [some (.ref a0)] [] (setR (newM M 104 (Int32.toNatClampNeg (4 : Int32)) (Int32.toNatClampNeg (4 : Int32))) a0 4 (some (mZ M))))) :=
  tr_eq [13, 18, 33, 44, 52, 63, 79, 90, 101] 5 rfl
set_option maxRecDepth 100000 in
theorem eq_Suit_init_52 (cl : Nat → List Value → ej_Mem → Option ej_R) (a0 : Nat) (M : ej_Mem) : rn jm_Suit_init cl 52 [some (.ref a0)] [] M =
    bkV (cl jm_Terms_init [.ref (mZ M)] (newM M 6 0 5)) fun M1 =>
    ckk (mC M1 a0 = 8) (rn jm_Suit_init cl 63 [some (.ref a0)] [] (setR M1 a0 5 (some (mZ M)))) :=
  tr_eq [13, 18, 33, 44, 52, 63, 79, 90, 101] 6 rfl
set_option maxRecDepth 100000 in
theorem eq_Suit_init_63 (cl : Nat → List Value → ej_Mem → Option ej_R) (a0 : Nat) (M : ej_Mem) : rn jm_Suit_init cl 63 [some (.ref a0)] [] M =
    bkV (cl jm_Hunt_init [.ref (mZ M), .int (500 : Int32), .int (22 : Int32)] (newM M 1 0 8)) fun M1 =>
    ckk (mC M1 a0 = 8) (rn jm_Suit_init cl 79 [some (.ref a0)] [] (setR M1 a0 6 (some (mZ M)))) :=
  tr_eq [13, 18, 33, 44, 52, 63, 79, 90, 101] 8 rfl
set_option maxRecDepth 100000 in
theorem eq_Suit_init_79 (cl : Nat → List Value → ej_Mem → Option ej_R) (a0 : Nat) (M : ej_Mem) : rn jm_Suit_init cl 79 [some (.ref a0)] [] M =
    bkV (cl jm_Scal_init [.ref (mZ M)] (newM M 5 0 2)) fun M1 =>
    ckk (mC M1 a0 = 8) (rn jm_Suit_init cl 90 [some (.ref a0)] [] (setR M1 a0 7 (some (mZ M)))) :=
  tr_eq [13, 18, 33, 44, 52, 63, 79, 90, 101] 6 rfl
set_option maxRecDepth 100000 in
theorem eq_Suit_init_90 (cl : Nat → List Value → ej_Mem → Option ej_R) (a0 : Nat) (M : ej_Mem) : rn jm_Suit_init cl 90 [some (.ref a0)] [] M =
    bkV (cl jm_Judg_init [.ref (mZ M)] (newM M 2 0 6)) fun M1 =>
    ckk (mC M1 a0 = 8) (rn jm_Suit_init cl 101 [some (.ref a0)] [] (setR M1 a0 8 (some (mZ M)))) :=
  tr_eq [13, 18, 33, 44, 52, 63, 79, 90, 101] 6 rfl
set_option maxRecDepth 100000 in
theorem eq_Suit_init_101 (cl : Nat → List Value → ej_Mem → Option ej_R) (a0 : Nat) (M : ej_Mem) : rn jm_Suit_init cl 101 [some (.ref a0)] [] M =
    some (none, M) :=
  tr_eq [13, 18, 33, 44, 52, 63, 79, 90, 101] 1 rfl
theorem ca_Suit_init (d : Nat) (a0 : Nat) (M : ej_Mem) : cal (d + 1) jm_Suit_init [.ref a0] M = rn jm_Suit_init (cal d) 0 [some (.ref a0)] [] M := call_eq (show 1 ≤ 1 by decide)
set_option maxRecDepth 100000 in
theorem eq_Suit_feed_0 (cl : Nat → List Value → ej_Mem → Option ej_R) (a0 : Nat) (l1 : Int32) (l2 : Int32) (l3 : Int32) (l4 : Int32) (l5 : Int32) (M : ej_Mem) : rn jm_Suit_feed cl 0 [some (.ref a0), some (.int l1), some (.int l2), some (.int l3), some (.int l4), some (.int l5)] [] M =
    ckk (mC M a0 = 8) ((if ((mI M a0 1) + (20 : Int32)) ≤ (400 : Int32) then
      (ckk (mC M a0 = 8) (bkV (cl jm_Suit_feedNumber [.ref a0, .int l1] M) fun M1 =>
      ckk (mC M1 a0 = 8) (bkV (cl jm_Suit_feedNumber [.ref a0, .int l2] M1) fun M2 =>
      ckk (mC M2 a0 = 8) (bkV (cl jm_Suit_feedNumber [.ref a0, .int l3] M2) fun M3 =>
      ckk (mC M3 a0 = 8) (bkV (cl jm_Suit_feedNumber [.ref a0, .int l4] M3) fun M4 =>
      ckk (mC M4 a0 = 8) (bkV (cl jm_Suit_feedNumber [.ref a0, .int l5] M4) fun M5 =>
      ckk (mC M5 a0 = 8) (some (some (.int (mI M5 a0 1)), M5)))))))) else
      (some (some (.int (-1 : Int32)), M)))) :=
  tr_eq [] 24 rfl
theorem ca_Suit_feed (d : Nat) (a0 : Nat) (l1 : Int32) (l2 : Int32) (l3 : Int32) (l4 : Int32) (l5 : Int32) (M : ej_Mem) : cal (d + 1) jm_Suit_feed [.ref a0, .int l1, .int l2, .int l3, .int l4, .int l5] M = rn jm_Suit_feed (cal d) 0 [some (.ref a0), some (.int l1), some (.int l2), some (.int l3), some (.int l4), some (.int l5)] [] M := call_eq (show 6 ≤ 6 by decide)
set_option maxRecDepth 100000 in
theorem eq_Suit_end_0 (cl : Nat → List Value → ej_Mem → Option ej_R) (a0 : Nat) (l1 : Int32) (M : ej_Mem) : rn jm_Suit_end cl 0 [some (.ref a0), some (.int l1)] [] M =
    (if l1 < (0 : Int32) then
      (some (some (.int (-1 : Int32)), M)) else
      (ckk (mC M a0 = 8) ((if l1 ≤ (mI M a0 1) then
        (ckk (mC M a0 = 8) (some (some (.int l1), (setI M a0 1 l1)))) else
        (some (some (.int (-1 : Int32)), M)))))) :=
  tr_eq [] 11 rfl
theorem ca_Suit_end (d : Nat) (a0 : Nat) (l1 : Int32) (M : ej_Mem) : cal (d + 1) jm_Suit_end [.ref a0, .int l1] M = rn jm_Suit_end (cal d) 0 [some (.ref a0), some (.int l1)] [] M := call_eq (show 2 ≤ 2 by decide)
set_option maxRecDepth 100000 in
theorem eq_Suit_text_0 (cl : Nat → List Value → ej_Mem → Option ej_R) (a0 : Nat) (l1 : Int32) (M : ej_Mem) : rn jm_Suit_text cl 0 [some (.ref a0), some (.int l1), none] [] M =
    (if l1 < (0 : Int32) then
      (some (some (.int (-1 : Int32)), M)) else
      ((if (3 : Int32) < l1 then
        (some (some (.int (-1 : Int32)), M)) else
        (ckk (mC M a0 = 8) (deR (mR M a0 3) fun q1 => ckk (mC M q1 = 3) (bkI (cl jm_Land_hasRoom [.ref q1, .int l1] M) fun x3 M2 =>
        (if x3 = (0 : Int32) then
          (some (some (.int (-1 : Int32)), M2)) else
          (ckk (mC M2 a0 = 8) (deR (mR M2 a0 2) fun q4 => ckk (mC M2 a0 = 8) (ckk (mC M2 q4 = 0) (bkQ (cl jm_Clerk_read [.ref q4, .int (mI M2 a0 1), .int l1] M2)
            (fun M5 => ckk (mC M5 a0 = 8) (ckk (mC (setI M5 a0 1 (0 : Int32)) a0 = 8) (deR (mR (setI M5 a0 1 (0 : Int32)) a0 2) fun q8 => ckk (mC (setI M5 a0 1 (0 : Int32)) q8 = 0) (some (some (.int ((-2 : Int32) - (mI (setI M5 a0 1 (0 : Int32)) q8 3))), (setI M5 a0 1 (0 : Int32)))))))
            (fun q6 M7 => ckk (mC M7 a0 = 8) (ckk (mC (setI M7 a0 1 (0 : Int32)) a0 = 8) (deR (mR (setI M7 a0 1 (0 : Int32)) a0 3) fun q9 => ckk (mC (setI M7 a0 1 (0 : Int32)) q9 = 3) (bkI (cl jm_Land_add [.ref q9, .int l1, .ref q6] (setI M7 a0 1 (0 : Int32))) fun x11 M10 =>
            some (some (.int x11), M10)))))))))))))))) :=
  tr_eq [] 29 rfl
theorem ca_Suit_text (d : Nat) (a0 : Nat) (l1 : Int32) (M : ej_Mem) : cal (d + 1) jm_Suit_text [.ref a0, .int l1] M = rn jm_Suit_text (cal d) 0 [some (.ref a0), some (.int l1), none] [] M := call_eq (show 2 ≤ 3 by decide)
set_option maxRecDepth 100000 in
theorem eq_Suit_open_0 (cl : Nat → List Value → ej_Mem → Option ej_R) (a0 : Nat) (l1 : Int32) (l2 : Int32) (l3 : Int32) (M : ej_Mem) : rn jm_Suit_open cl 0 [some (.ref a0), some (.int l1), some (.int l2), some (.int l3)] [] M =
    ckk (mC M a0 = 8) (deR (mR M a0 3) fun q1 => ckk (mC M q1 = 3) (bkQ (cl jm_Land_writ [.ref q1, .int (0 : Int32), .int l1] M)
      (fun M2 => ckk ((0 : Int32) = 0 ∨ (0 : Int32) = 1) (some (some (.int (0 : Int32)), M2)))
      (fun q3 M4 => bkI (cl jm_Suit_isYear [.int l2] M4) fun x6 M5 =>
      (if x6 = (0 : Int32) then
        (ckk ((0 : Int32) = 0 ∨ (0 : Int32) = 1) (some (some (.int (0 : Int32)), M5))) else
        (bkI (cl jm_Suit_isYear [.int l3] M5) fun x8 M7 =>
        (if x8 = (0 : Int32) then
          (ckk ((0 : Int32) = 0 ∨ (0 : Int32) = 1) (some (some (.int (0 : Int32)), M7))) else
          ((if l2 ≤ l3 then
            (ckk (mC M7 a0 = 8) (deR (mR M7 a0 3) fun q9 => ckk (mC M7 q9 = 3) (deR (mR M7 q9 2) fun q10 => ckk (mC M7 q10 = 100) (ckb l1 (mN M7 q10) (ckk (mC (setA M7 q10 (Int32.toNatClampNeg l1) l2) a0 = 8) (deR (mR (setA M7 q10 (Int32.toNatClampNeg l1) l2) a0 3) fun q11 => ckk (mC (setA M7 q10 (Int32.toNatClampNeg l1) l2) q11 = 3) (deR (mR (setA M7 q10 (Int32.toNatClampNeg l1) l2) q11 3) fun q12 => ckk (mC (setA M7 q10 (Int32.toNatClampNeg l1) l2) q12 = 100) (ckb l1 (mN (setA M7 q10 (Int32.toNatClampNeg l1) l2) q12) (ckk ((1 : Int32) = 0 ∨ (1 : Int32) = 1) (some (some (.int (1 : Int32)), (setA (setA M7 q10 (Int32.toNatClampNeg l1) l2) q12 (Int32.toNatClampNeg l1) l3)))))))))))) else
            (ckk ((0 : Int32) = 0 ∨ (0 : Int32) = 1) (some (some (.int (0 : Int32)), M7))))))))))) :=
  tr_eq [] 29 rfl
theorem ca_Suit_open (d : Nat) (a0 : Nat) (l1 : Int32) (l2 : Int32) (l3 : Int32) (M : ej_Mem) : cal (d + 1) jm_Suit_open [.ref a0, .int l1, .int l2, .int l3] M = rn jm_Suit_open (cal d) 0 [some (.ref a0), some (.int l1), some (.int l2), some (.int l3)] [] M := call_eq (show 4 ≤ 4 by decide)
set_option maxRecDepth 100000 in
theorem eq_Suit_force_0 (cl : Nat → List Value → ej_Mem → Option ej_R) (a0 : Nat) (l1 : Int32) (M : ej_Mem) : rn jm_Suit_force cl 0 [some (.ref a0), some (.int l1), none] [] M =
    (if l1 < (0 : Int32) then
      (some (some (.int (-1 : Int32)), M)) else
      (ckk (mC M a0 = 8) (deR (mR M a0 3) fun q1 => ckk (mC M q1 = 3) (deR (mR M q1 1) fun q2 => ckk (mC M q2 = 100) (ckb (3 : Int32) (mN M q2) ((if l1 < ((1 : Int32) <<< ((aI M q2 (Int32.toNatClampNeg (3 : Int32))) &&& 31)) then
        (ckk (mC M a0 = 8) (deR (mR M a0 3) fun q3 => ckk (mC M q3 = 3) (ckk (mC M a0 = 8) (deR (mR M a0 3) fun q4 => ckk (mC M q4 = 3) (some (some (.int (mI M q3 4)), (setI M q4 4 l1))))))) else
        (some (some (.int (-1 : Int32)), M))))))))) :=
  tr_eq [] 21 rfl
theorem ca_Suit_force (d : Nat) (a0 : Nat) (l1 : Int32) (M : ej_Mem) : cal (d + 1) jm_Suit_force [.ref a0, .int l1] M = rn jm_Suit_force (cal d) 0 [some (.ref a0), some (.int l1), none] [] M := call_eq (show 2 ≤ 3 by decide)
set_option maxRecDepth 100000 in
theorem eq_Suit_holds_0 (cl : Nat → List Value → ej_Mem → Option ej_R) (a0 : Nat) (l1 : Int32) (l2 : Int32) (M : ej_Mem) : rn jm_Suit_holds cl 0 [some (.ref a0), some (.int l1), some (.int l2), none] [] M =
    (if l1 < (0 : Int32) then
      (some (some (.int (-2 : Int32)), M)) else
      ((if (24 : Int32) ≤ l1 then
        (some (some (.int (-2 : Int32)), M)) else
        ((if l2 < (-1 : Int32) then
          (some (some (.int (-2 : Int32)), M)) else
          ((if l2 < (16 : Int32) then
            (ckk (mC M a0 = 8) (deR (mR M a0 3) fun q1 => ckk (mC M q1 = 3) (deR (mR M q1 5) fun q2 => ckk (mC M q2 = 100) (ckb l1 (mN M q2) (ckk (mC M a0 = 8) (deR (mR M a0 3) fun q3 => ckk (mC M q3 = 3) (deR (mR M q3 5) fun q4 => ckk (mC M q4 = 100) (ckb l1 (mN M q4) (some (some (.int (aI M q2 (Int32.toNatClampNeg l1))), (setA M q4 (Int32.toNatClampNeg l1) l2))))))))))) else
            (some (some (.int (-2 : Int32)), M))))))))) :=
  tr_eq [] 25 rfl
theorem ca_Suit_holds (d : Nat) (a0 : Nat) (l1 : Int32) (l2 : Int32) (M : ej_Mem) : cal (d + 1) jm_Suit_holds [.ref a0, .int l1, .int l2] M = rn jm_Suit_holds (cal d) 0 [some (.ref a0), some (.int l1), some (.int l2), none] [] M := call_eq (show 3 ≤ 4 by decide)
set_option maxRecDepth 100000 in
theorem eq_Suit_first_0 (cl : Nat → List Value → ej_Mem → Option ej_R) (a0 : Nat) (l1 : Int32) (M : ej_Mem) : rn jm_Suit_first cl 0 [some (.ref a0), some (.int l1), none] [] M =
    ckk (mC M a0 = 8) (deR (mR M a0 3) fun q1 => ckk (mC M q1 = 3) (bkQ (cl jm_Land_writ [.ref q1, .int (1 : Int32), .int l1] M)
      (fun M2 => some (some (.int (-1 : Int32)), M2))
      (fun q3 M4 => ckk (mC M4 q3 = 7) (some (some (.int (mI M4 q3 0)), M4))))) :=
  tr_eq [] 11 rfl
theorem ca_Suit_first (d : Nat) (a0 : Nat) (l1 : Int32) (M : ej_Mem) : cal (d + 1) jm_Suit_first [.ref a0, .int l1] M = rn jm_Suit_first (cal d) 0 [some (.ref a0), some (.int l1), none] [] M := call_eq (show 2 ≤ 3 by decide)
set_option maxRecDepth 100000 in
theorem eq_Suit_wished_0 (cl : Nat → List Value → ej_Mem → Option ej_R) (a0 : Nat) (l1 : Int32) (l2 : Int32) (M : ej_Mem) : rn jm_Suit_wished cl 0 [some (.ref a0), some (.int l1), some (.int l2), none] [] M =
    ckk (mC M a0 = 8) (deR (mR M a0 3) fun q1 => ckk (mC M q1 = 3) (bkQ (cl jm_Land_writ [.ref q1, .int (2 : Int32), .int l1] M)
      (fun M2 => some (some (.int (-1 : Int32)), M2))
      (fun q3 M4 => bkI (cl jm_Suit_isState [.int l2] M4) fun x6 M5 =>
      (if x6 = (0 : Int32) then
        (some (some (.int (-1 : Int32)), M5)) else
        (ckk (mC M5 q3 = 7) (ckk (mC M5 q3 = 7) (bkI (cl jm_Writ_isTrue [.ref q3, .int (mI M5 q3 5), .int l2] M5) fun x8 M7 =>
        (if x8 = (0 : Int32) then
          (some (some (.int (0 : Int32)), M7)) else
          (some (some (.int (1 : Int32)), M7)))))))))) :=
  tr_eq [] 20 rfl
theorem ca_Suit_wished (d : Nat) (a0 : Nat) (l1 : Int32) (l2 : Int32) (M : ej_Mem) : cal (d + 1) jm_Suit_wished [.ref a0, .int l1, .int l2] M = rn jm_Suit_wished (cal d) 0 [some (.ref a0), some (.int l1), some (.int l2), none] [] M := call_eq (show 3 ≤ 4 by decide)
set_option maxRecDepth 100000 in
theorem eq_Suit_may_0 (cl : Nat → List Value → ej_Mem → Option ej_R) (a0 : Nat) (l1 : Int32) (l2 : Int32) (l3 : Int32) (l4 : Int32) (M : ej_Mem) : rn jm_Suit_may cl 0 [some (.ref a0), some (.int l1), some (.int l2), some (.int l3), some (.int l4)] [] M =
    ckk (mC M a0 = 8) (deR (mR M a0 3) fun q1 => ckk (mC M q1 = 3) (bkQ (cl jm_Land_writ [.ref q1, .int (1 : Int32), .int l1] M)
      (fun M2 => some (some (.int (-1 : Int32)), M2))
      (fun q3 M4 => bkI (cl jm_Suit_isYear [.int l2] M4) fun x6 M5 =>
      (if x6 = (0 : Int32) then
        (some (some (.int (-1 : Int32)), M5)) else
        (ckk (mC M5 a0 = 8) (deR (mR M5 a0 3) fun q7 => ckk (mC M5 q7 = 3) (bkQ (cl jm_Land_writ [.ref q7, .int (0 : Int32), .int l3] M5)
          (fun M8 => some (some (.int (-1 : Int32)), M8))
          (fun q9 M10 => bkI (cl jm_Suit_isState [.int l4] M10) fun x12 M11 =>
          (if x12 = (0 : Int32) then
            (some (some (.int (-1 : Int32)), M11)) else
            (ckk (mC M11 a0 = 8) (bkI (cl jm_Suit_setTerms [.ref a0, .int l1, .int (-1 : Int32), .int l2] M11) fun x14 M13 =>
            ckk (mC M13 a0 = 8) (deR (mR M13 a0 3) fun q15 => ckk (mC M13 a0 = 8) (deR (mR M13 a0 5) fun q16 => ckk (mC M13 q15 = 3) (bkI (cl jm_Land_ledTo [.ref q15, .int l3, .int l4, .ref q16] M13) fun x18 M17 =>
            (if x18 = (-1 : Int32) then
              (some (some (.int (0 : Int32)), M17)) else
              (some (some (.int (1 : Int32)), M17))))))))))))))))) :=
  tr_eq [] 36 rfl
theorem ca_Suit_may (d : Nat) (a0 : Nat) (l1 : Int32) (l2 : Int32) (l3 : Int32) (l4 : Int32) (M : ej_Mem) : cal (d + 1) jm_Suit_may [.ref a0, .int l1, .int l2, .int l3, .int l4] M = rn jm_Suit_may (cal d) 0 [some (.ref a0), some (.int l1), some (.int l2), some (.int l3), some (.int l4)] [] M := call_eq (show 5 ≤ 5 by decide)
set_option maxRecDepth 100000 in
theorem eq_Suit_after_0 (cl : Nat → List Value → ej_Mem → Option ej_R) (a0 : Nat) (l1 : Int32) (l2 : Int32) (M : ej_Mem) : rn jm_Suit_after cl 0 [some (.ref a0), some (.int l1), some (.int l2), none] [] M =
    ckk (mC M a0 = 8) (deR (mR M a0 3) fun q1 => ckk (mC M q1 = 3) (bkQ (cl jm_Land_writ [.ref q1, .int (0 : Int32), .int l1] M)
      (fun M2 => some (some (.int (-1 : Int32)), M2))
      (fun q3 M4 => bkI (cl jm_Suit_isState [.int l2] M4) fun x6 M5 =>
      (if x6 = (0 : Int32) then
        (some (some (.int (-1 : Int32)), M5)) else
        (ckk (mC M5 q3 = 7) (bkI (cl jm_Writ_changed [.ref q3, .int l2] M5) fun x8 M7 =>
        some (some (.int x8), M7))))))) :=
  tr_eq [] 15 rfl
theorem ca_Suit_after (d : Nat) (a0 : Nat) (l1 : Int32) (l2 : Int32) (M : ej_Mem) : cal (d + 1) jm_Suit_after [.ref a0, .int l1, .int l2] M = rn jm_Suit_after (cal d) 0 [some (.ref a0), some (.int l1), some (.int l2), none] [] M := call_eq (show 3 ≤ 4 by decide)
set_option maxRecDepth 100000 in
theorem eq_Suit_turned_0 (cl : Nat → List Value → ej_Mem → Option ej_R) (a0 : Nat) (l1 : Int32) (l2 : Int32) (M : ej_Mem) : rn jm_Suit_turned cl 0 [some (.ref a0), some (.int l1), some (.int l2), none] [] M =
    ckk (mC M a0 = 8) (deR (mR M a0 3) fun q1 => ckk (mC M q1 = 3) (bkQ (cl jm_Land_writ [.ref q1, .int (0 : Int32), .int l1] M)
      (fun M2 => some (some (.int (-1 : Int32)), M2))
      (fun q3 M4 => bkI (cl jm_Suit_isState [.int l2] M4) fun x6 M5 =>
      (if x6 = (0 : Int32) then
        (some (some (.int (-1 : Int32)), M5)) else
        (ckk (mC M5 q3 = 7) (bkI (cl jm_Writ_turners [.ref q3, .int l2] M5) fun x8 M7 =>
        some (some (.int x8), M7))))))) :=
  tr_eq [] 15 rfl
theorem ca_Suit_turned (d : Nat) (a0 : Nat) (l1 : Int32) (l2 : Int32) (M : ej_Mem) : cal (d + 1) jm_Suit_turned [.ref a0, .int l1, .int l2] M = rn jm_Suit_turned (cal d) 0 [some (.ref a0), some (.int l1), some (.int l2), none] [] M := call_eq (show 3 ≤ 4 by decide)
set_option maxRecDepth 100000 in
theorem eq_Suit_search_0 (cl : Nat → List Value → ej_Mem → Option ej_R) (a0 : Nat) (l1 : Int32) (l2 : Int32) (l3 : Int32) (l4 : Int32) (M : ej_Mem) : rn jm_Suit_search cl 0 [some (.ref a0), some (.int l1), some (.int l2), some (.int l3), some (.int l4), none, none] [] M =
    ckk (mC M a0 = 8) (deR (mR M a0 3) fun q1 => ckk (mC M q1 = 3) (bkQ (cl jm_Land_writ [.ref q1, .int (1 : Int32), .int l1] M)
      (fun M2 => ckk (mC M2 a0 = 8) (deR (mR M2 a0 3) fun q5 => ckk (mC M2 q5 = 3) (bkQ (cl jm_Land_writ [.ref q5, .int (2 : Int32), .int l2] M2)
        (fun M6 => ckk ((0 : Int32) = 0 ∨ (0 : Int32) = 1) (some (some (.int (0 : Int32)), M6)))
        (fun q7 M8 => ckk ((0 : Int32) = 0 ∨ (0 : Int32) = 1) (some (some (.int (0 : Int32)), M8))))))
      (fun q3 M4 => ckk (mC M4 a0 = 8) (deR (mR M4 a0 3) fun q9 => ckk (mC M4 q9 = 3) (bkQ (cl jm_Land_writ [.ref q9, .int (2 : Int32), .int l2] M4)
        (fun M10 => ckk ((0 : Int32) = 0 ∨ (0 : Int32) = 1) (some (some (.int (0 : Int32)), M10)))
        (fun q11 M12 => bkI (cl jm_Suit_isYear [.int l3] M12) fun x14 M13 =>
        (if x14 = (0 : Int32) then
          (ckk ((0 : Int32) = 0 ∨ (0 : Int32) = 1) (some (some (.int (0 : Int32)), M13))) else
          ((if l4 = (-1 : Int32) then
            (ckk (mC M13 a0 = 8) (deR (mR M13 a0 3) fun q15 => (if l4 = (-1 : Int32) then
              (ckk (mC M13 q3 = 7) (ckk (mC M13 q15 = 3) (bkV (cl jm_Land_beginSearch [.ref q15, .int l1, .int l2, .int l3, .int (mI M13 q3 0)] M13) fun M17 =>
              ckk ((1 : Int32) = 0 ∨ (1 : Int32) = 1) (some (some (.int (1 : Int32)), M17))))) else
              (ckk (mC M13 q15 = 3) (bkV (cl jm_Land_beginSearch [.ref q15, .int l1, .int l2, .int l3, .int l4] M13) fun M16 =>
              ckk ((1 : Int32) = 0 ∨ (1 : Int32) = 1) (some (some (.int (1 : Int32)), M16))))))) else
            (bkI (cl jm_Suit_isState [.int l4] M13) fun x19 M18 =>
            (if x19 = (0 : Int32) then
              (ckk ((0 : Int32) = 0 ∨ (0 : Int32) = 1) (some (some (.int (0 : Int32)), M18))) else
              (ckk (mC M18 a0 = 8) (deR (mR M18 a0 3) fun q20 => (if l4 = (-1 : Int32) then
                (ckk (mC M18 q3 = 7) (ckk (mC M18 q20 = 3) (bkV (cl jm_Land_beginSearch [.ref q20, .int l1, .int l2, .int l3, .int (mI M18 q3 0)] M18) fun M22 =>
                ckk ((1 : Int32) = 0 ∨ (1 : Int32) = 1) (some (some (.int (1 : Int32)), M22))))) else
                (ckk (mC M18 q20 = 3) (bkV (cl jm_Land_beginSearch [.ref q20, .int l1, .int l2, .int l3, .int l4] M18) fun M21 =>
                ckk ((1 : Int32) = 0 ∨ (1 : Int32) = 1) (some (some (.int (1 : Int32)), M21)))))))))))))))))) :=
  tr_eq [] 39 rfl
theorem ca_Suit_search (d : Nat) (a0 : Nat) (l1 : Int32) (l2 : Int32) (l3 : Int32) (l4 : Int32) (M : ej_Mem) : cal (d + 1) jm_Suit_search [.ref a0, .int l1, .int l2, .int l3, .int l4] M = rn jm_Suit_search (cal d) 0 [some (.ref a0), some (.int l1), some (.int l2), some (.int l3), some (.int l4), none, none] [] M := call_eq (show 5 ≤ 7 by decide)
set_option maxRecDepth 100000 in
theorem eq_Suit_go_0 (cl : Nat → List Value → ej_Mem → Option ej_R) (a0 : Nat) (l1 : Int32) (M : ej_Mem) : rn jm_Suit_go cl 0 [some (.ref a0), some (.int l1), none] [] M =
    ckk (mC M a0 = 8) (deR (mR M a0 3) fun q1 => ckk (mC M q1 = 3) (deQ (mR M q1 7)
      ((if l1 < (1 : Int32) then
        (some (some (.int (-1 : Int32)), M)) else
        ((if (4000 : Int32) < l1 then
          (some (some (.int (-1 : Int32)), M)) else
          (some (some (.int (-1 : Int32)), M))))))
      (fun q2 => (if l1 < (1 : Int32) then
        (some (some (.int (-1 : Int32)), M)) else
        ((if (4000 : Int32) < l1 then
          (some (some (.int (-1 : Int32)), M)) else
          (ckk (mC M q2 = 1) ((if (mI M q2 7) = (0 : Int32) then
            (some (some (.int (-1 : Int32)), M)) else
            (ckk (mC M a0 = 8) (deR (mR M a0 3) fun q3 => ckk (mC M q3 = 3) (ckk (mC M a0 = 8) (deR (mR M a0 3) fun q4 => ckk (mC M q4 = 3) (ckk (mC M a0 = 8) (deR (mR M a0 3) fun q5 => ckk (mC M q5 = 3) (ckk (mC M a0 = 8) (bkI (cl jm_Suit_setTerms [.ref a0, .int (mI M q3 8), .int (mI M q4 9), .int (mI M q5 10)] M) fun x7 M6 =>
            ckk (mC M6 a0 = 8) (deR (mR M6 a0 3) fun q8 => ckk (mC M6 a0 = 8) (deR (mR M6 a0 5) fun q9 => ckk (mC M6 q2 = 1) (bkI (cl jm_Hunt_run [.ref q2, .ref q8, .ref q9, .int l1] M6) fun x11 M10 =>
            some (some (.int x11), M10))))))))))))))))))))) :=
  tr_eq [] 35 rfl
theorem ca_Suit_go (d : Nat) (a0 : Nat) (l1 : Int32) (M : ej_Mem) : cal (d + 1) jm_Suit_go [.ref a0, .int l1] M = rn jm_Suit_go (cal d) 0 [some (.ref a0), some (.int l1), none] [] M := call_eq (show 2 ≤ 3 by decide)
set_option maxRecDepth 100000 in
theorem eq_Suit_sought_0 (cl : Nat → List Value → ej_Mem → Option ej_R) (a0 : Nat) (l1 : Int32) (M : ej_Mem) : rn jm_Suit_sought cl 0 [some (.ref a0), some (.int l1), none] [] M =
    (if l1 < (0 : Int32) then
      (some (some (.int (-1 : Int32)), M)) else
      ((if l1 ≤ (3 : Int32) then
        (ckk (mC M a0 = 8) (deR (mR M a0 3) fun q1 => ckk (mC M q1 = 3) (deQ (mR M q1 7)
          ((if l1 = (3 : Int32) then
            (some (some (.int (-1 : Int32)), M)) else
            (some (some (.int (0 : Int32)), M))))
          (fun q2 => (if l1 = (0 : Int32) then
            (ckk (mC M q2 = 1) (some (some (.int (mI M q2 7)), M))) else if l1 = (1 : Int32) then
            (ckk (mC M q2 = 1) (some (some (.int (mI M q2 5)), M))) else if l1 = (2 : Int32) then
            (ckk (mC M q2 = 1) (some (some (.int (mI M q2 6)), M))) else (ckk (mC M q2 = 1) (bkI (cl jm_Hunt_rowLength [.ref q2] M) fun x4 M3 =>
            some (some (.int x4), M3)))))))) else
        (some (some (.int (-1 : Int32)), M))))) :=
  tr_eq [] 17 rfl
theorem ca_Suit_sought (d : Nat) (a0 : Nat) (l1 : Int32) (M : ej_Mem) : cal (d + 1) jm_Suit_sought [.ref a0, .int l1] M = rn jm_Suit_sought (cal d) 0 [some (.ref a0), some (.int l1), none] [] M := call_eq (show 2 ≤ 3 by decide)
set_option maxRecDepth 100000 in
theorem eq_Suit_row_0 (cl : Nat → List Value → ej_Mem → Option ej_R) (a0 : Nat) (l1 : Int32) (M : ej_Mem) : rn jm_Suit_row cl 0 [some (.ref a0), some (.int l1)] [] M =
    ckk (mC M a0 = 8) (deR (mR M a0 3) fun q1 => ckk (mC M q1 = 3) (deQ (mR M q1 7)
      (some (some (.int (-1 : Int32)), M))
      (fun q2 => ckk (mC M a0 = 8) (deR (mR M a0 3) fun q3 => ckk (mC M q3 = 3) (deQ (mR M q3 7)
        (none)
        (fun q4 => ckk (mC M q4 = 1) (bkI (cl jm_Hunt_moveOfRow [.ref q4, .int l1] M) fun x6 M5 =>
        some (some (.int x6), M5)))))))) :=
  tr_eq [] 10 rfl
theorem ca_Suit_row (d : Nat) (a0 : Nat) (l1 : Int32) (M : ej_Mem) : cal (d + 1) jm_Suit_row [.ref a0, .int l1] M = rn jm_Suit_row (cal d) 0 [some (.ref a0), some (.int l1)] [] M := call_eq (show 2 ≤ 2 by decide)
set_option maxRecDepth 100000 in
theorem eq_Suit_met_0 (cl : Nat → List Value → ej_Mem → Option ej_R) (a0 : Nat) (l1 : Int32) (M : ej_Mem) : rn jm_Suit_met cl 0 [some (.ref a0), some (.int l1), none] [] M =
    ckk (mC M a0 = 8) (deR (mR M a0 3) fun q1 => ckk (mC M q1 = 3) (deQ (mR M q1 7)
      (some (some (.int (-1 : Int32)), M))
      (fun q2 => (if l1 < (0 : Int32) then
        (some (some (.int (-1 : Int32)), M)) else
        (ckk (mC M q2 = 1) ((if l1 < (mI M q2 5) then
          (ckk (mC M q2 = 1) (deR (mR M q2 2) fun q3 => ckk (mC M q3 = 100) (ckb l1 (mN M q3) (some (some (.int (aI M q3 (Int32.toNatClampNeg l1))), M))))) else
          (some (some (.int (-1 : Int32)), M))))))))) :=
  tr_eq [] 17 rfl
theorem ca_Suit_met (d : Nat) (a0 : Nat) (l1 : Int32) (M : ej_Mem) : cal (d + 1) jm_Suit_met [.ref a0, .int l1] M = rn jm_Suit_met (cal d) 0 [some (.ref a0), some (.int l1), none] [] M := call_eq (show 2 ≤ 3 by decide)
set_option maxRecDepth 100000 in
theorem eq_Suit_reached_0 (cl : Nat → List Value → ej_Mem → Option ej_R) (a0 : Nat) (l1 : Int32) (l2 : Int32) (l3 : Int32) (M : ej_Mem) : rn jm_Suit_reached cl 0 [some (.ref a0), some (.int l1), some (.int l2), some (.int l3)] [] M =
    ckk (mC M a0 = 8) (bkI (cl jm_Suit_setTerms [.ref a0, .int l1, .int l2, .int l3] M) fun x2 M1 =>
    (if x2 = (0 : Int32) then
      (some (some (.int (-1 : Int32)), M1)) else
      (ckk (mC M1 a0 = 8) (deR (mR M1 a0 6) fun q3 => ckk (mC M1 a0 = 8) (deR (mR M1 a0 3) fun q4 => ckk (mC M1 a0 = 8) (deR (mR M1 a0 5) fun q5 => ckk (mC M1 q3 = 1) (bkI (cl jm_Hunt_whole [.ref q3, .ref q4, .ref q5] M1) fun x7 M6 =>
      some (some (.int x7), M6)))))))) :=
  tr_eq [] 15 rfl
theorem ca_Suit_reached (d : Nat) (a0 : Nat) (l1 : Int32) (l2 : Int32) (l3 : Int32) (M : ej_Mem) : cal (d + 1) jm_Suit_reached [.ref a0, .int l1, .int l2, .int l3] M = rn jm_Suit_reached (cal d) 0 [some (.ref a0), some (.int l1), some (.int l2), some (.int l3)] [] M := call_eq (show 4 ≤ 4 by decide)
set_option maxRecDepth 100000 in
theorem eq_Suit_fewest_0 (cl : Nat → List Value → ej_Mem → Option ej_R) (a0 : Nat) (l1 : Int32) (l2 : Int32) (l3 : Int32) (l4 : Int32) (M : ej_Mem) : rn jm_Suit_fewest cl 0 [some (.ref a0), some (.int l1), some (.int l2), some (.int l3), some (.int l4), none, none] [] M =
    (if l4 < (0 : Int32) then
      (some (some (.int (-1 : Int32)), M)) else
      ((if (1 : Int32) < l4 then
        (some (some (.int (-1 : Int32)), M)) else
        (ckk (mC M a0 = 8) (bkI (cl jm_Suit_setTerms [.ref a0, .int l1, .int l2, .int l3] M) fun x2 M1 =>
        (if x2 = (0 : Int32) then
          (some (some (.int (-1 : Int32)), M1)) else
          (ckk (mC M1 a0 = 8) (deR (mR M1 a0 3) fun q3 => ckk (mC M1 q3 = 3) (bkI (cl jm_Land_lenders [.ref q3] M1) fun x5 M4 =>
          bkI (cl jm_Intg_bitCount_0f7a4 [.int x5] M4) fun x7 M6 =>
          (if x7 ≤ (10 : Int32) then
            (ckk (mC M6 a0 = 8) (bkI (cl jm_Suit_fewestNames [.ref a0, .int x5] M6) fun x9 M8 =>
            (if l4 = (1 : Int32) then
              (some (some (.int x9), M8)) else
              ((if (0 : Int32) ≤ x9 then
                (bkI (cl jm_Intg_bitCount_0f7a4 [.int x9] M8) fun x11 M10 =>
                some (some (.int x11), M10)) else
                (some (some (.int x9), M8))))))) else
            (some (some (.int (-3 : Int32)), M6)))))))))))) :=
  tr_eq [] 31 rfl
theorem ca_Suit_fewest (d : Nat) (a0 : Nat) (l1 : Int32) (l2 : Int32) (l3 : Int32) (l4 : Int32) (M : ej_Mem) : cal (d + 1) jm_Suit_fewest [.ref a0, .int l1, .int l2, .int l3, .int l4] M = rn jm_Suit_fewest (cal d) 0 [some (.ref a0), some (.int l1), some (.int l2), some (.int l3), some (.int l4), none, none] [] M := call_eq (show 5 ≤ 7 by decide)
set_option maxRecDepth 100000 in
theorem eq_Suit_least_0 (cl : Nat → List Value → ej_Mem → Option ej_R) (a0 : Nat) (l1 : Int32) (l2 : Int32) (l3 : Int32) (l4 : Int32) (M : ej_Mem) : rn jm_Suit_least cl 0 [some (.ref a0), some (.int l1), some (.int l2), some (.int l3), some (.int l4)] [] M =
    (if l4 < (0 : Int32) then
      (some (some (.int (-1 : Int32)), M)) else
      ((if (1 : Int32) < l4 then
        (some (some (.int (-1 : Int32)), M)) else
        (ckk (mC M a0 = 8) (bkI (cl jm_Suit_setTerms [.ref a0, .int l1, .int l2, .int l3] M) fun x2 M1 =>
        (if x2 = (0 : Int32) then
          (some (some (.int (-1 : Int32)), M1)) else
          (ckk (mC M1 a0 = 8) (deR (mR M1 a0 7) fun q3 => ckk (mC M1 a0 = 8) (deR (mR M1 a0 3) fun q4 => ckk (mC M1 a0 = 8) (deR (mR M1 a0 5) fun q5 => ckk (mC M1 a0 = 8) (deR (mR M1 a0 6) fun q6 => (if l4 = (1 : Int32) then
            (ckk (mC M1 q3 = 5) (bkI (cl jm_Scal_lightest [.ref q3, .ref q4, .ref q5, .ref q6, .int (1 : Int32)] M1) fun x10 M9 =>
            some (some (.int x10), M9))) else
            (ckk (mC M1 q3 = 5) (bkI (cl jm_Scal_lightest [.ref q3, .ref q4, .ref q5, .ref q6, .int (0 : Int32)] M1) fun x8 M7 =>
            some (some (.int x8), M7))))))))))))))) :=
  tr_eq [] 26 rfl
theorem ca_Suit_least (d : Nat) (a0 : Nat) (l1 : Int32) (l2 : Int32) (l3 : Int32) (l4 : Int32) (M : ej_Mem) : cal (d + 1) jm_Suit_least [.ref a0, .int l1, .int l2, .int l3, .int l4] M = rn jm_Suit_least (cal d) 0 [some (.ref a0), some (.int l1), some (.int l2), some (.int l3), some (.int l4)] [] M := call_eq (show 5 ≤ 5 by decide)
set_option maxRecDepth 100000 in
theorem eq_Suit_safe_0 (cl : Nat → List Value → ej_Mem → Option ej_R) (a0 : Nat) (l1 : Int32) (l2 : Int32) (l3 : Int32) (l4 : Int32) (M : ej_Mem) : rn jm_Suit_safe cl 0 [some (.ref a0), some (.int l1), some (.int l2), some (.int l3), some (.int l4), none] [] M =
    (if l4 < (0 : Int32) then
      (some (some (.int (-1 : Int32)), M)) else
      ((if (65535 : Int32) < l4 then
        (some (some (.int (-1 : Int32)), M)) else
        (ckk (mC M a0 = 8) (bkI (cl jm_Suit_setTerms [.ref a0, .int l1, .int l2, .int l3] M) fun x2 M1 =>
        (if x2 = (0 : Int32) then
          (some (some (.int (-1 : Int32)), M1)) else
          (ckk (mC M1 a0 = 8) (deR (mR M1 a0 5) fun q3 => ckk (mC M1 q3 = 6) (ckk (mC (setI M1 q3 4 l4) a0 = 8) (deR (mR (setI M1 q3 4 l4) a0 6) fun q4 => ckk (mC (setI M1 q3 4 l4) a0 = 8) (deR (mR (setI M1 q3 4 l4) a0 3) fun q5 => ckk (mC (setI M1 q3 4 l4) a0 = 8) (deR (mR (setI M1 q3 4 l4) a0 5) fun q6 => ckk (mC (setI M1 q3 4 l4) q4 = 1) (bkI (cl jm_Hunt_whole [.ref q4, .ref q5, .ref q6] (setI M1 q3 4 l4)) fun x8 M7 =>
          (if x8 = (2 : Int32) then
            (ckk (mC M7 a0 = 8) (deR (mR M7 a0 6) fun q9 => ckk (mC M7 q9 = 1) (bkI (cl jm_Hunt_rowLength [.ref q9] M7) fun x11 M10 =>
            some (some (.int x11), M10)))) else
            ((if x8 = (4 : Int32) then
              (some (some (.int (-3 : Int32)), M7)) else
              (some (some (.int (-2 : Int32)), M7)))))))))))))))))) :=
  tr_eq [] 32 rfl
theorem ca_Suit_safe (d : Nat) (a0 : Nat) (l1 : Int32) (l2 : Int32) (l3 : Int32) (l4 : Int32) (M : ej_Mem) : cal (d + 1) jm_Suit_safe [.ref a0, .int l1, .int l2, .int l3, .int l4] M = rn jm_Suit_safe (cal d) 0 [some (.ref a0), some (.int l1), some (.int l2), some (.int l3), some (.int l4), none] [] M := call_eq (show 5 ≤ 6 by decide)
set_option maxRecDepth 100000 in
theorem eq_Suit_keys_0 (cl : Nat → List Value → ej_Mem → Option ej_R) (a0 : Nat) (l1 : Int32) (l2 : Int32) (l3 : Int32) (M : ej_Mem) : rn jm_Suit_keys cl 0 [some (.ref a0), some (.int l1), some (.int l2), some (.int l3), none, none, none, none, none, none, none, none] [] M =
    ckk (mC M a0 = 8) (bkI (cl jm_Suit_setTerms [.ref a0, .int l1, .int l2, .int l3] M) fun x2 M1 =>
    (if x2 = (0 : Int32) then
      (some (some (.long (-1 : Int64)), M1)) else
      (ckk (mC M1 a0 = 8) (deR (mR M1 a0 5) fun q3 => ckk (mC M1 q3 = 6) (ckk (mC M1 a0 = 8) (deR (mR M1 a0 6) fun q4 => ckk (mC M1 a0 = 8) (deR (mR M1 a0 3) fun q5 => ckk (mC M1 a0 = 8) (deR (mR M1 a0 5) fun q6 => ckk (mC M1 q4 = 1) (bkI (cl jm_Hunt_whole [.ref q4, .ref q5, .ref q6] M1) fun x8 M7 =>
      (if x8 = (3 : Int32) then
        (ckk (mC M7 a0 = 8) (deR (mR M7 a0 3) fun q12 => ckk (mC M7 q12 = 3) (deR (mR M7 q12 1) fun q13 => ckk (mC M7 q13 = 100) (ckb (0 : Int32) (mN M7 q13) (some (some (.long ((ej_ls 0 (1 : Int64) (aI M7 q13 (Int32.toNatClampNeg (0 : Int32)))) - (1 : Int64))), M7)))))) else
        ((if x8 = (2 : Int32) then
          (ckk (mC M7 a0 = 8) (deR (mR M7 a0 6) fun q9 => ckk (mC M7 q9 = 1) (bkJ (cl jm_Hunt_movesOfRow [.ref q9] M7) fun x11 M10 =>
          rn jm_Suit_keys cl 86 [some (.ref a0), some (.int l1), some (.int l2), some (.int l3), some (.long (mL M1 q3 2)), none, some (.int x8), some (.long x11), none, some (.long (0 : Int64)), none, some (.int (0 : Int32))] [] M10))) else
          (rn jm_Suit_keys cl 86 [some (.ref a0), some (.int l1), some (.int l2), some (.int l3), some (.long (mL M1 q3 2)), none, some (.int x8), some (.long (mL M1 q3 2)), none, some (.long (0 : Int64)), none, some (.int (0 : Int32))] [] M7))))))))))))) :=
  tr_eq [86] 34 rfl
set_option maxRecDepth 100000 in
theorem eq_Suit_keys_86 (cl : Nat → List Value → ej_Mem → Option ej_R) (a0 : Nat) (l1 : Int32) (l2 : Int32) (l3 : Int32) (l4 : Int64) (l6 : Int32) (l7 : Int64) (l9 : Int64) (l11 : Int32) (M : ej_Mem) : rn jm_Suit_keys cl 86 [some (.ref a0), some (.int l1), some (.int l2), some (.int l3), some (.long l4), none, some (.int l6), some (.long l7), none, some (.long l9), none, some (.int l11)] [] M =
    ckk (mC M a0 = 8) (deR (mR M a0 3) fun q1 => ckk (mC M q1 = 3) (deR (mR M q1 1) fun q2 => ckk (mC M q2 = 100) (ckb (0 : Int32) (mN M q2) ((if (aI M q2 (Int32.toNatClampNeg (0 : Int32))) ≤ l11 then
      (some (some (.long l9), M)) else
      (ckk (mC M a0 = 8) (deR (mR M a0 5) fun q3 => ckk (mC M q3 = 6) ((if (lg_cmp ((ej_ls 1 l7 l11) &&& (1 : Int64)) (0 : Int64)) = (0 : Int32) then
        (rn jm_Suit_keys cl 86 [some (.ref a0), some (.int l1), some (.int l2), some (.int l3), some (.long l4), none, some (.int l6), some (.long l7), none, some (.long l9), none, some (.int (l11 + (1 : Int32)))] [] (setL M q3 2 (l4 &&& ((ej_ls 0 (1 : Int64) l11) ^^^ (-1 : Int64))))) else
        (ckk (mC (setL M q3 2 (l4 &&& ((ej_ls 0 (1 : Int64) l11) ^^^ (-1 : Int64)))) a0 = 8) (deR (mR (setL M q3 2 (l4 &&& ((ej_ls 0 (1 : Int64) l11) ^^^ (-1 : Int64)))) a0 6) fun q4 => ckk (mC (setL M q3 2 (l4 &&& ((ej_ls 0 (1 : Int64) l11) ^^^ (-1 : Int64)))) a0 = 8) (deR (mR (setL M q3 2 (l4 &&& ((ej_ls 0 (1 : Int64) l11) ^^^ (-1 : Int64)))) a0 3) fun q5 => ckk (mC (setL M q3 2 (l4 &&& ((ej_ls 0 (1 : Int64) l11) ^^^ (-1 : Int64)))) a0 = 8) (deR (mR (setL M q3 2 (l4 &&& ((ej_ls 0 (1 : Int64) l11) ^^^ (-1 : Int64)))) a0 5) fun q6 => ckk (mC (setL M q3 2 (l4 &&& ((ej_ls 0 (1 : Int64) l11) ^^^ (-1 : Int64)))) q4 = 1) (bkI (cl jm_Hunt_whole [.ref q4, .ref q5, .ref q6] (setL M q3 2 (l4 &&& ((ej_ls 0 (1 : Int64) l11) ^^^ (-1 : Int64))))) fun x8 M7 =>
        (if x8 = (3 : Int32) then
          (rn jm_Suit_keys cl 86 [some (.ref a0), some (.int l1), some (.int l2), some (.int l3), some (.long l4), none, some (.int l6), some (.long l7), none, some (.long (l9 ||| (ej_ls 0 (1 : Int64) l11))), none, some (.int (l11 + (1 : Int32)))] [] M7) else
          (rn jm_Suit_keys cl 86 [some (.ref a0), some (.int l1), some (.int l2), some (.int l3), some (.long l4), none, some (.int l6), some (.long l7), none, some (.long l9), none, some (.int (l11 + (1 : Int32)))] [] M7)))))))))))))))) :=
  tr_eq [86] 43 rfl
theorem ca_Suit_keys (d : Nat) (a0 : Nat) (l1 : Int32) (l2 : Int32) (l3 : Int32) (M : ej_Mem) : cal (d + 1) jm_Suit_keys [.ref a0, .int l1, .int l2, .int l3] M = rn jm_Suit_keys (cal d) 0 [some (.ref a0), some (.int l1), some (.int l2), some (.int l3), none, none, none, none, none, none, none, none] [] M := call_eq (show 4 ≤ 12 by decide)
set_option maxRecDepth 100000 in
theorem eq_Suit_last_0 (cl : Nat → List Value → ej_Mem → Option ej_R) (a0 : Nat) (l1 : Int32) (l2 : Int32) (l3 : Int32) (l4 : Int32) (M : ej_Mem) : rn jm_Suit_last cl 0 [some (.ref a0), some (.int l1), some (.int l2), some (.int l3), some (.int l4), none, none, none] [] M =
    bkI (cl jm_Suit_isYear [.int l3] M) fun x2 M1 =>
    (if x2 = (0 : Int32) then
      (some (some (.int (-1 : Int32)), M1)) else
      (bkI (cl jm_Suit_isYear [.int l4] M1) fun x4 M3 =>
      (if x4 = (0 : Int32) then
        (some (some (.int (-1 : Int32)), M3)) else
        ((if l4 < l3 then
          (some (some (.int (-1 : Int32)), M3)) else
          (rn jm_Suit_last cl 21 [some (.ref a0), some (.int l1), some (.int l2), some (.int l3), some (.int l4), none, none, none] [] M3)))))) :=
  tr_eq [21, 30, 50, 57, 105] 11 rfl
set_option maxRecDepth 100000 in
theorem eq_Suit_last_21 (cl : Nat → List Value → ej_Mem → Option ej_R) (a0 : Nat) (l1 : Int32) (l2 : Int32) (l3 : Int32) (l4 : Int32) (o5 : Option Value) (o6 : Option Value) (o7 : Option Value) (M : ej_Mem) : rn jm_Suit_last cl 21 [some (.ref a0), some (.int l1), some (.int l2), some (.int l3), some (.int l4), o5, o6, o7] [] M =
    (if (100 : Int32) ≤ (l4 - l3) then
      (some (some (.int (-1 : Int32)), M)) else
      (rn jm_Suit_last cl 30 [some (.ref a0), some (.int l1), some (.int l2), some (.int l3), some (.int l4), o5, o6, o7] [] M)) :=
  tr_eq [21, 30, 50, 57, 105] 7 rfl
set_option maxRecDepth 100000 in
theorem eq_Suit_last_30 (cl : Nat → List Value → ej_Mem → Option ej_R) (a0 : Nat) (l1 : Int32) (l2 : Int32) (l3 : Int32) (l4 : Int32) (o5 : Option Value) (o6 : Option Value) (o7 : Option Value) (M : ej_Mem) : rn jm_Suit_last cl 30 [some (.ref a0), some (.int l1), some (.int l2), some (.int l3), some (.int l4), o5, o6, o7] [] M =
    ckk (mC M a0 = 8) (bkI (cl jm_Suit_setTerms [.ref a0, .int l1, .int l2, .int l3] M) fun x2 M1 =>
    (if x2 = (0 : Int32) then
      (some (some (.int (-1 : Int32)), M1)) else
      (rn jm_Suit_last cl 50 [some (.ref a0), some (.int l1), some (.int l2), some (.int l3), some (.int l4), some (.long (-1 : Int64)), none, some (.int l3)] [] M1))) :=
  tr_eq [21, 30, 50, 57, 105] 11 rfl
set_option maxRecDepth 100000 in
theorem eq_Suit_last_50 (cl : Nat → List Value → ej_Mem → Option ej_R) (a0 : Nat) (l1 : Int32) (l2 : Int32) (l3 : Int32) (l4 : Int32) (l5 : Int64) (l7 : Int32) (M : ej_Mem) : rn jm_Suit_last cl 50 [some (.ref a0), some (.int l1), some (.int l2), some (.int l3), some (.int l4), some (.long l5), none, some (.int l7)] [] M =
    (if l4 < l7 then
      (some (some (.int (-2 : Int32)), M)) else
      (rn jm_Suit_last cl 57 [some (.ref a0), some (.int l1), some (.int l2), some (.int l3), some (.int l4), some (.long l5), none, some (.int l7)] [] M)) :=
  tr_eq [21, 30, 50, 57, 105] 5 rfl
set_option maxRecDepth 100000 in
theorem eq_Suit_last_57 (cl : Nat → List Value → ej_Mem → Option ej_R) (a0 : Nat) (l1 : Int32) (l2 : Int32) (l3 : Int32) (l4 : Int32) (l5 : Int64) (l7 : Int32) (M : ej_Mem) : rn jm_Suit_last cl 57 [some (.ref a0), some (.int l1), some (.int l2), some (.int l3), some (.int l4), some (.long l5), none, some (.int l7)] [] M =
    ckk (mC M a0 = 8) (deR (mR M a0 5) fun q1 => ckk (mC M a0 = 8) (deR (mR M a0 3) fun q2 => ckk (mC M q2 = 3) (bkJ (cl jm_Land_movesOpenIn [.ref q2, .int l7] M) fun x4 M3 =>
    ckk (mC M3 q1 = 6) (ckk (mC (setL M3 q1 2 x4) a0 = 8) (deR (mR (setL M3 q1 2 x4) a0 5) fun q5 => ckk (mC (setL M3 q1 2 x4) q5 = 6) ((if (lg_cmp (mL (setL M3 q1 2 x4) q5 2) l5) = (0 : Int32) then
      (ckk (mC (setL M3 q1 2 x4) a0 = 8) (deR (mR (setL M3 q1 2 x4) a0 5) fun q6 => ckk (mC (setL M3 q1 2 x4) q6 = 6) (rn jm_Suit_last cl 50 [some (.ref a0), some (.int l1), some (.int l2), some (.int l3), some (.int l4), some (.long (mL (setL M3 q1 2 x4) q6 2)), none, some (.int (l7 + (1 : Int32)))] [] (setL M3 q1 2 x4)))) else
      (ckk (mC (setL M3 q1 2 x4) a0 = 8) (deR (mR (setL M3 q1 2 x4) a0 6) fun q7 => ckk (mC (setL M3 q1 2 x4) a0 = 8) (deR (mR (setL M3 q1 2 x4) a0 3) fun q8 => ckk (mC (setL M3 q1 2 x4) a0 = 8) (deR (mR (setL M3 q1 2 x4) a0 5) fun q9 => ckk (mC (setL M3 q1 2 x4) q7 = 1) (bkI (cl jm_Hunt_whole [.ref q7, .ref q8, .ref q9] (setL M3 q1 2 x4)) fun x11 M10 =>
      (if x11 = (3 : Int32) then
        (rn jm_Suit_last cl 105 [some (.ref a0), some (.int l1), some (.int l2), some (.int l3), some (.int l4), some (.long l5), none, some (.int l7)] [] M10) else
        (ckk (mC M10 a0 = 8) (deR (mR M10 a0 5) fun q12 => ckk (mC M10 q12 = 6) (rn jm_Suit_last cl 50 [some (.ref a0), some (.int l1), some (.int l2), some (.int l3), some (.int l4), some (.long (mL M10 q12 2)), none, some (.int (l7 + (1 : Int32)))] [] M10)))))))))))))))) :=
  tr_eq [21, 30, 50, 57, 105] 29 rfl
set_option maxRecDepth 100000 in
theorem eq_Suit_last_105 (cl : Nat → List Value → ej_Mem → Option ej_R) (a0 : Nat) (l1 : Int32) (l2 : Int32) (l3 : Int32) (l4 : Int32) (l5 : Int64) (l7 : Int32) (M : ej_Mem) : rn jm_Suit_last cl 105 [some (.ref a0), some (.int l1), some (.int l2), some (.int l3), some (.int l4), some (.long l5), none, some (.int l7)] [] M =
    some (some (.int l7), M) :=
  tr_eq [21, 30, 50, 57, 105] 2 rfl
theorem ca_Suit_last (d : Nat) (a0 : Nat) (l1 : Int32) (l2 : Int32) (l3 : Int32) (l4 : Int32) (M : ej_Mem) : cal (d + 1) jm_Suit_last [.ref a0, .int l1, .int l2, .int l3, .int l4] M = rn jm_Suit_last (cal d) 0 [some (.ref a0), some (.int l1), some (.int l2), some (.int l3), some (.int l4), none, none, none] [] M := call_eq (show 5 ≤ 8 by decide)
set_option maxRecDepth 100000 in
theorem eq_Suit_roll_0 (cl : Nat → List Value → ej_Mem → Option ej_R) (a0 : Nat) (l1 : Int32) (l2 : Int32) (M : ej_Mem) : rn jm_Suit_roll cl 0 [some (.ref a0), some (.int l1), some (.int l2)] [] M =
    ckk (mC M a0 = 8) (deR (mR M a0 3) fun q1 => ckk (mC M q1 = 3) (bkQ (cl jm_Land_writ [.ref q1, .int (1 : Int32), .int l1] M)
      (fun M2 => some (some (.int (-1 : Int32)), M2))
      (fun q3 M4 => bkI (cl jm_Suit_isYear [.int l2] M4) fun x6 M5 =>
      (if x6 = (0 : Int32) then
        (some (some (.int (-1 : Int32)), M5)) else
        (ckk (mC M5 a0 = 8) (deR (mR M5 a0 3) fun q7 => ckk (mC M5 q7 = 3) (deR (mR M5 q7 6) fun q8 => ckk (mC M5 q8 = 4) (bkI (cl jm_Rolls_begin [.ref q8, .int l1, .int l2] M5) fun x10 M9 =>
        some (some (.int x10), M9))))))))) :=
  tr_eq [] 16 rfl
theorem ca_Suit_roll (d : Nat) (a0 : Nat) (l1 : Int32) (l2 : Int32) (M : ej_Mem) : cal (d + 1) jm_Suit_roll [.ref a0, .int l1, .int l2] M = rn jm_Suit_roll (cal d) 0 [some (.ref a0), some (.int l1), some (.int l2)] [] M := call_eq (show 3 ≤ 3 by decide)
set_option maxRecDepth 100000 in
theorem eq_Suit_enter_0 (cl : Nat → List Value → ej_Mem → Option ej_R) (a0 : Nat) (l1 : Int32) (l2 : Int32) (M : ej_Mem) : rn jm_Suit_enter cl 0 [some (.ref a0), some (.int l1), some (.int l2)] [] M =
    ckk (mC M a0 = 8) (deR (mR M a0 3) fun q1 => ckk (mC M q1 = 3) (deR (mR M q1 6) fun q2 => ckk (mC M q2 = 4) (bkI (cl jm_Rolls_has [.ref q2, .int l1] M) fun x4 M3 =>
    (if x4 = (0 : Int32) then
      (some (some (.int (-1 : Int32)), M3)) else
      (ckk (mC M3 a0 = 8) (deR (mR M3 a0 3) fun q5 => ckk (mC M3 q5 = 3) (bkQ (cl jm_Land_writ [.ref q5, .int (0 : Int32), .int l2] M3)
        (fun M6 => some (some (.int (-1 : Int32)), M6))
        (fun q7 M8 => ckk (mC M8 a0 = 8) (deR (mR M8 a0 3) fun q9 => ckk (mC M8 q9 = 3) (deR (mR M8 q9 6) fun q10 => ckk (mC M8 q10 = 4) (bkI (cl jm_Rolls_write [.ref q10, .int l1, .int l2] M8) fun x12 M11 =>
        some (some (.int x12), M11)))))))))))) :=
  tr_eq [] 19 rfl
theorem ca_Suit_enter (d : Nat) (a0 : Nat) (l1 : Int32) (l2 : Int32) (M : ej_Mem) : cal (d + 1) jm_Suit_enter [.ref a0, .int l1, .int l2] M = rn jm_Suit_enter (cal d) 0 [some (.ref a0), some (.int l1), some (.int l2)] [] M := call_eq (show 3 ≤ 3 by decide)
set_option maxRecDepth 100000 in
theorem eq_Suit_judged_0 (cl : Nat → List Value → ej_Mem → Option ej_R) (a0 : Nat) (l1 : Int32) (l2 : Int32) (M : ej_Mem) : rn jm_Suit_judged cl 0 [some (.ref a0), some (.int l1), some (.int l2)] [] M =
    (if l2 < (0 : Int32) then
      (some (some (.int (-1 : Int32)), M)) else
      ((if (1 : Int32) < l2 then
        (some (some (.int (-1 : Int32)), M)) else
        (ckk (mC M a0 = 8) (bkI (cl jm_Suit_judge [.ref a0, .int l1] M) fun x2 M1 =>
        (if x2 = (0 : Int32) then
          (some (some (.int (-1 : Int32)), M1)) else
          ((if l2 = (0 : Int32) then
            (ckk (mC M1 a0 = 8) (deR (mR M1 a0 8) fun q4 => ckk (mC M1 q4 = 2) (some (some (.int (mI M1 q4 3)), M1)))) else
            (ckk (mC M1 a0 = 8) (deR (mR M1 a0 8) fun q3 => ckk (mC M1 q3 = 2) (some (some (.int (mI M1 q3 2)), M1)))))))))))) :=
  tr_eq [] 16 rfl
theorem ca_Suit_judged (d : Nat) (a0 : Nat) (l1 : Int32) (l2 : Int32) (M : ej_Mem) : cal (d + 1) jm_Suit_judged [.ref a0, .int l1, .int l2] M = rn jm_Suit_judged (cal d) 0 [some (.ref a0), some (.int l1), some (.int l2)] [] M := call_eq (show 3 ≤ 3 by decide)
set_option maxRecDepth 100000 in
theorem eq_Suit_feigned_0 (cl : Nat → List Value → ej_Mem → Option ej_R) (a0 : Nat) (l1 : Int32) (M : ej_Mem) : rn jm_Suit_feigned cl 0 [some (.ref a0), some (.int l1), none, none, none] [] M =
    ckk (mC M a0 = 8) (bkI (cl jm_Suit_judge [.ref a0, .int l1] M) fun x2 M1 =>
    (if x2 = (0 : Int32) then
      (some (some (.int (-1 : Int32)), M1)) else
      (rn jm_Suit_feigned cl 14 [some (.ref a0), some (.int l1), some (.int (0 : Int32)), some (.int (0 : Int32)), none] [] M1))) :=
  tr_eq [14] 9 rfl
set_option maxRecDepth 100000 in
theorem eq_Suit_feigned_14 (cl : Nat → List Value → ej_Mem → Option ej_R) (a0 : Nat) (l1 : Int32) (l2 : Int32) (l3 : Int32) (o4 : Option Value) (M : ej_Mem) : rn jm_Suit_feigned cl 14 [some (.ref a0), some (.int l1), some (.int l2), some (.int l3), o4] [] M =
    ckk (mC M a0 = 8) (deR (mR M a0 3) fun q1 => ckk (mC M q1 = 3) (deR (mR M q1 1) fun q2 => ckk (mC M q2 = 100) (ckb (2 : Int32) (mN M q2) ((if (aI M q2 (Int32.toNatClampNeg (2 : Int32))) ≤ l3 then
      (some (some (.int l2), M)) else
      (ckk (mC M a0 = 8) (deR (mR M a0 3) fun q3 => ckk (mC M q3 = 3) (bkQ (cl jm_Land_writ [.ref q3, .int (2 : Int32), .int l3] M)
        (fun M4 => rn jm_Suit_feigned cl 14 [some (.ref a0), some (.int l1), some (.int l2), some (.int (l3 + (1 : Int32))), some (.null)] [] M4)
        (fun q5 M6 => ckk (mC M6 q5 = 7) (ckk (mC M6 a0 = 8) (deR (mR M6 a0 8) fun q7 => ckk (mC M6 q7 = 2) (ckk (mC M6 q5 = 7) (bkI (cl jm_Writ_isTrue [.ref q5, .int (mI M6 q5 5), .int (mI M6 q7 2)] M6) fun x9 M8 =>
        (if x9 = (0 : Int32) then
          (rn jm_Suit_feigned cl 14 [some (.ref a0), some (.int l1), some (.int l2), some (.int (l3 + (1 : Int32))), some (.ref q5)] [] M8) else
          (ckk (mC M8 q5 = 7) (ckk (mC M8 a0 = 8) (deR (mR M8 a0 8) fun q10 => ckk (mC M8 q10 = 2) (ckk (mC M8 q5 = 7) (bkI (cl jm_Writ_isTrue [.ref q5, .int (mI M8 q5 5), .int (mI M8 q10 1)] M8) fun x12 M11 =>
          (if x12 = (0 : Int32) then
            (rn jm_Suit_feigned cl 14 [some (.ref a0), some (.int l1), some (.int (l2 ||| ((1 : Int32) <<< (l3 &&& 31)))), some (.int (l3 + (1 : Int32))), some (.ref q5)] [] M11) else
            (rn jm_Suit_feigned cl 14 [some (.ref a0), some (.int l1), some (.int l2), some (.int (l3 + (1 : Int32))), some (.ref q5)] [] M11))))))))))))))))))))) :=
  tr_eq [14] 40 rfl
theorem ca_Suit_feigned (d : Nat) (a0 : Nat) (l1 : Int32) (M : ej_Mem) : cal (d + 1) jm_Suit_feigned [.ref a0, .int l1] M = rn jm_Suit_feigned (cal d) 0 [some (.ref a0), some (.int l1), none, none, none] [] M := call_eq (show 2 ≤ 5 by decide)
set_option maxRecDepth 100000 in
theorem eq_Suit_claims_0 (cl : Nat → List Value → ej_Mem → Option ej_R) (a0 : Nat) (l1 : Int32) (l2 : Int32) (M : ej_Mem) : rn jm_Suit_claims cl 0 [some (.ref a0), some (.int l1), some (.int l2), none] [] M =
    (if l2 < (0 : Int32) then
      (some (some (.int (-1 : Int32)), M)) else
      ((if (1 : Int32) < l2 then
        (some (some (.int (-1 : Int32)), M)) else
        (ckk (mC M a0 = 8) (bkI (cl jm_Suit_judge [.ref a0, .int l1] M) fun x2 M1 =>
        (if x2 = (0 : Int32) then
          (some (some (.int (-1 : Int32)), M1)) else
          ((if l2 = (0 : Int32) then
            (ckk (mC M1 a0 = 8) (deR (mR M1 a0 8) fun q8 => ckk (mC M1 q8 = 2) (ckk (mC M1 a0 = 8) (deR (mR M1 a0 8) fun q9 => ckk (mC M1 q9 = 2) (ckk (mC M1 a0 = 8) (deR (mR M1 a0 3) fun q10 => ckk (mC M1 q10 = 3) (bkI (cl jm_Land_holdersOf [.ref q10, .int ((mI M1 q8 1) &&& ((mI M1 q9 2) ^^^ (-1 : Int32)))] M1) fun x12 M11 =>
            some (some (.int x12), M11)))))))) else
            (ckk (mC M1 a0 = 8) (deR (mR M1 a0 8) fun q3 => ckk (mC M1 q3 = 2) (ckk (mC M1 a0 = 8) (deR (mR M1 a0 8) fun q4 => ckk (mC M1 q4 = 2) (ckk (mC M1 a0 = 8) (deR (mR M1 a0 3) fun q5 => ckk (mC M1 q5 = 3) (bkI (cl jm_Land_holdersOf [.ref q5, .int ((mI M1 q3 1) &&& (mI M1 q4 2))] M1) fun x7 M6 =>
            some (some (.int x7), M6)))))))))))))))) :=
  tr_eq [] 27 rfl
theorem ca_Suit_claims (d : Nat) (a0 : Nat) (l1 : Int32) (l2 : Int32) (M : ej_Mem) : cal (d + 1) jm_Suit_claims [.ref a0, .int l1, .int l2] M = rn jm_Suit_claims (cal d) 0 [some (.ref a0), some (.int l1), some (.int l2), none] [] M := call_eq (show 3 ≤ 4 by decide)
set_option maxRecDepth 100000 in
theorem eq_Suit_risk_0 (cl : Nat → List Value → ej_Mem → Option ej_R) (a0 : Nat) (l1 : Int32) (l2 : Int32) (M : ej_Mem) : rn jm_Suit_risk cl 0 [some (.ref a0), some (.int l1), some (.int l2), none] [] M =
    (if l2 < (0 : Int32) then
      (some (some (.int (-1 : Int32)), M)) else
      (ckk (mC M a0 = 8) (bkI (cl jm_Suit_judge [.ref a0, .int l1] M) fun x2 M1 =>
      (if x2 = (0 : Int32) then
        (some (some (.int (-1 : Int32)), M1)) else
        (ckk (mC M1 a0 = 8) (deR (mR M1 a0 8) fun q3 => ckk (mC M1 q3 = 2) ((if l2 < (mI M1 q3 3) then
          (ckk (mC M1 a0 = 8) (deR (mR M1 a0 8) fun q4 => ckk (mC M1 a0 = 8) (deR (mR M1 a0 3) fun q5 => ckk (mC M1 a0 = 8) (deR (mR M1 a0 3) fun q6 => ckk (mC M1 q6 = 3) (ckk (mC M1 q4 = 2) (bkI (cl jm_Judg_run [.ref q4, .ref q5, .int l1, .int (mI M1 q6 4), .int l2] M1) fun x8 M7 =>
          ckk (mC M7 a0 = 8) (deR (mR M7 a0 3) fun q9 => ckk (mC M7 a0 = 8) (deR (mR M7 a0 3) fun q10 => ckk (mC M7 q10 = 3) (deR (mR M7 q10 6) fun q11 => ckk (mC M7 q11 = 4) (bkI (cl jm_Rolls_move [.ref q11, .int l1, .int l2] M7) fun x13 M12 =>
          ckk (mC M12 q9 = 3) (bkQ (cl jm_Land_writ [.ref q9, .int (0 : Int32), .int x13] M12)
            (fun M14 => some (some (.int (-1 : Int32)), M14))
            (fun q15 M16 => ckk (mC M16 a0 = 8) (deR (mR M16 a0 8) fun q17 => ckk (mC M16 q17 = 2) (ckk (mC M16 q15 = 7) (bkI (cl jm_Writ_turners [.ref q15, .int (mI M16 q17 2)] M16) fun x19 M18 =>
            some (some (.int x19), M18)))))))))))))))) else
          (some (some (.int (-1 : Int32)), M1)))))))))) :=
  tr_eq [] 41 rfl
theorem ca_Suit_risk (d : Nat) (a0 : Nat) (l1 : Int32) (l2 : Int32) (M : ej_Mem) : cal (d + 1) jm_Suit_risk [.ref a0, .int l1, .int l2] M = rn jm_Suit_risk (cal d) 0 [some (.ref a0), some (.int l1), some (.int l2), none] [] M := call_eq (show 3 ≤ 4 by decide)
set_option maxRecDepth 100000 in
theorem eq_Suit_costs_0 (cl : Nat → List Value → ej_Mem → Option ej_R) (a0 : Nat) (l1 : Int32) (l2 : Int32) (M : ej_Mem) : rn jm_Suit_costs cl 0 [some (.ref a0), some (.int l1), some (.int l2)] [] M =
    (if l2 < (0 : Int32) then
      (some (some (.int (-1 : Int32)), M)) else
      ((if (1 : Int32) < l2 then
        (some (some (.int (-1 : Int32)), M)) else
        (ckk (mC M a0 = 8) (bkI (cl jm_Suit_judge [.ref a0, .int l1] M) fun x2 M1 =>
        (if x2 = (0 : Int32) then
          (some (some (.int (-1 : Int32)), M1)) else
          ((if l2 = (0 : Int32) then
            (ckk (mC M1 a0 = 8) (deR (mR M1 a0 8) fun q4 => ckk (mC M1 q4 = 2) (some (some (.int (mI M1 q4 4)), M1)))) else
            (ckk (mC M1 a0 = 8) (deR (mR M1 a0 8) fun q3 => ckk (mC M1 q3 = 2) (some (some (.int (mI M1 q3 5)), M1)))))))))))) :=
  tr_eq [] 16 rfl
theorem ca_Suit_costs (d : Nat) (a0 : Nat) (l1 : Int32) (l2 : Int32) (M : ej_Mem) : cal (d + 1) jm_Suit_costs [.ref a0, .int l1, .int l2] M = rn jm_Suit_costs (cal d) 0 [some (.ref a0), some (.int l1), some (.int l2)] [] M := call_eq (show 3 ≤ 3 by decide)
set_option maxRecDepth 100000 in
theorem eq_Suit_words_0 (cl : Nat → List Value → ej_Mem → Option ej_R) (a0 : Nat) (l1 : Int32) (l2 : Int32) (l3 : Int32) (l4 : Int32) (l5 : Int32) (M : ej_Mem) : rn jm_Suit_words cl 0 [some (.ref a0), some (.int l1), some (.int l2), some (.int l3), some (.int l4), some (.int l5), none, none, none, none] [] M =
    (if l5 < (0 : Int32) then
      (some (some (.int (-1 : Int32)), M)) else
      ((if (1 : Int32) < l5 then
        (some (some (.int (-1 : Int32)), M)) else
        ((if l4 < (0 : Int32) then
          (some (some (.int (-1 : Int32)), M)) else
          (ckk (mC M a0 = 8) (deR (mR M a0 3) fun q1 => ckk (mC M q1 = 3) (deR (mR M q1 6) fun q2 => ckk (mC M q2 = 4) ((if ((1 : Int32) <<< ((mI M q2 0) &&& 31)) ≤ l4 then
            (some (some (.int (-1 : Int32)), M)) else
            (ckk (mC M a0 = 8) (bkI (cl jm_Suit_setTerms [.ref a0, .int l1, .int l2, .int l3] M) fun x4 M3 =>
            (if x4 = (0 : Int32) then
              (some (some (.int (-1 : Int32)), M3)) else
              (ckk (mC M3 a0 = 8) (deR (mR M3 a0 5) fun q5 => ckk (mC M3 a0 = 8) (deR (mR M3 a0 3) fun q6 => ckk (mC M3 q6 = 3) (deR (mR M3 q6 1) fun q7 => ckk (mC M3 q7 = 100) (ckb (3 : Int32) (mN M3 q7) (ckk (mC M3 q5 = 6) (ckk (mC (setI M3 q5 3 (((1 : Int32) <<< ((aI M3 q7 (Int32.toNatClampNeg (3 : Int32))) &&& 31)) - (1 : Int32))) a0 = 8) (deR (mR (setI M3 q5 3 (((1 : Int32) <<< ((aI M3 q7 (Int32.toNatClampNeg (3 : Int32))) &&& 31)) - (1 : Int32))) a0 6) fun q8 => ckk (mC (setI M3 q5 3 (((1 : Int32) <<< ((aI M3 q7 (Int32.toNatClampNeg (3 : Int32))) &&& 31)) - (1 : Int32))) a0 = 8) (deR (mR (setI M3 q5 3 (((1 : Int32) <<< ((aI M3 q7 (Int32.toNatClampNeg (3 : Int32))) &&& 31)) - (1 : Int32))) a0 3) fun q9 => ckk (mC (setI M3 q5 3 (((1 : Int32) <<< ((aI M3 q7 (Int32.toNatClampNeg (3 : Int32))) &&& 31)) - (1 : Int32))) a0 = 8) (deR (mR (setI M3 q5 3 (((1 : Int32) <<< ((aI M3 q7 (Int32.toNatClampNeg (3 : Int32))) &&& 31)) - (1 : Int32))) a0 5) fun q10 => ckk (mC (setI M3 q5 3 (((1 : Int32) <<< ((aI M3 q7 (Int32.toNatClampNeg (3 : Int32))) &&& 31)) - (1 : Int32))) q8 = 1) (bkI (cl jm_Hunt_whole [.ref q8, .ref q9, .ref q10] (setI M3 q5 3 (((1 : Int32) <<< ((aI M3 q7 (Int32.toNatClampNeg (3 : Int32))) &&& 31)) - (1 : Int32)))) fun x12 M11 =>
              (if x12 = (3 : Int32) then
                (rn jm_Suit_words cl 90 [some (.ref a0), some (.int l1), some (.int l2), some (.int l3), some (.int l4), some (.int l5), some (.int (0 : Int32)), none, none, none] [] M11) else
                (some (some (.int (-2 : Int32)), M11))))))))))))))))))))))))))) :=
  tr_eq [90, 113] 45 rfl
set_option maxRecDepth 100000 in
theorem eq_Suit_words_90 (cl : Nat → List Value → ej_Mem → Option ej_R) (a0 : Nat) (l1 : Int32) (l2 : Int32) (l3 : Int32) (l4 : Int32) (l5 : Int32) (l6 : Int32) (o7 : Option Value) (o8 : Option Value) (o9 : Option Value) (M : ej_Mem) : rn jm_Suit_words cl 90 [some (.ref a0), some (.int l1), some (.int l2), some (.int l3), some (.int l4), some (.int l5), some (.int l6), o7, o8, o9] [] M =
    ckk (mC M a0 = 8) (deR (mR M a0 3) fun q1 => ckk (mC M q1 = 3) (deR (mR M q1 1) fun q2 => ckk (mC M q2 = 100) (ckb (3 : Int32) (mN M q2) ((if (aI M q2 (Int32.toNatClampNeg (3 : Int32))) < l6 then
      (some (some (.int (-2 : Int32)), M)) else
      (rn jm_Suit_words cl 113 [some (.ref a0), some (.int l1), some (.int l2), some (.int l3), some (.int l4), some (.int l5), some (.int l6), some (.int (-1 : Int32)), some (.int (0 : Int32)), some (.int (0 : Int32))] [] M)))))) :=
  tr_eq [90, 113] 14 rfl
set_option maxRecDepth 100000 in
theorem eq_Suit_words_113 (cl : Nat → List Value → ej_Mem → Option ej_R) (a0 : Nat) (l1 : Int32) (l2 : Int32) (l3 : Int32) (l4 : Int32) (l5 : Int32) (l6 : Int32) (l7 : Int32) (l8 : Int32) (l9 : Int32) (M : ej_Mem) : rn jm_Suit_words cl 113 [some (.ref a0), some (.int l1), some (.int l2), some (.int l3), some (.int l4), some (.int l5), some (.int l6), some (.int l7), some (.int l8), some (.int l9)] [] M =
    ckk (mC M a0 = 8) (deR (mR M a0 3) fun q1 => ckk (mC M q1 = 3) (deR (mR M q1 1) fun q2 => ckk (mC M q2 = 100) (ckb (3 : Int32) (mN M q2) ((if ((1 : Int32) <<< ((aI M q2 (Int32.toNatClampNeg (3 : Int32))) &&& 31)) ≤ l9 then
      ((if l8 ≤ (0 : Int32) then
        (rn jm_Suit_words cl 90 [some (.ref a0), some (.int l1), some (.int l2), some (.int l3), some (.int l4), some (.int l5), some (.int (l6 + (1 : Int32))), some (.int l7), some (.int l8), some (.int l9)] [] M) else
        ((if l5 = (0 : Int32) then
          (some (some (.int l7), M)) else
          (some (some (.int l8), M)))))) else
      (bkI (cl jm_Intg_bitCount_0f7a4 [.int l9] M) fun x4 M3 =>
      (if x4 = l6 then
        (ckk (mC M3 a0 = 8) (bkI (cl jm_Suit_isBarring [.ref a0, .int l9, .int l4] M3) fun x6 M5 =>
        (if x6 = (0 : Int32) then
          (rn jm_Suit_words cl 113 [some (.ref a0), some (.int l1), some (.int l2), some (.int l3), some (.int l4), some (.int l5), some (.int l6), some (.int l7), some (.int l8), some (.int (l9 + (1 : Int32)))] [] M5) else
          ((if l8 = (0 : Int32) then
            (rn jm_Suit_words cl 113 [some (.ref a0), some (.int l1), some (.int l2), some (.int l3), some (.int l4), some (.int l5), some (.int l6), some (.int l9), some (.int (l8 + (1 : Int32))), some (.int (l9 + (1 : Int32)))] [] M5) else
            (rn jm_Suit_words cl 113 [some (.ref a0), some (.int l1), some (.int l2), some (.int l3), some (.int l4), some (.int l5), some (.int l6), some (.int l7), some (.int (l8 + (1 : Int32))), some (.int (l9 + (1 : Int32)))] [] M5)))))) else
        (rn jm_Suit_words cl 113 [some (.ref a0), some (.int l1), some (.int l2), some (.int l3), some (.int l4), some (.int l5), some (.int l6), some (.int l7), some (.int l8), some (.int (l9 + (1 : Int32)))] [] M3)))))))) :=
  tr_eq [90, 113] 27 rfl
theorem ca_Suit_words (d : Nat) (a0 : Nat) (l1 : Int32) (l2 : Int32) (l3 : Int32) (l4 : Int32) (l5 : Int32) (M : ej_Mem) : cal (d + 1) jm_Suit_words [.ref a0, .int l1, .int l2, .int l3, .int l4, .int l5] M = rn jm_Suit_words (cal d) 0 [some (.ref a0), some (.int l1), some (.int l2), some (.int l3), some (.int l4), some (.int l5), none, none, none, none] [] M := call_eq (show 6 ≤ 10 by decide)
set_option maxRecDepth 100000 in
theorem eq_Suit_mark_0 (cl : Nat → List Value → ej_Mem → Option ej_R) (a0 : Nat) (l1 : Int32) (M : ej_Mem) : rn jm_Suit_mark cl 0 [some (.ref a0), some (.int l1)] [] M =
    (if l1 < (0 : Int32) then
      (some (some (.int (-1 : Int32)), M)) else
      ((if l1 < (4 : Int32) then
        (ckk (mC M a0 = 8) (deR (mR M a0 4) fun q1 => ckk (mC M q1 = 104) (ckb l1 (mN M q1) (deQ (aR M q1 (Int32.toNatClampNeg l1))
          (ckk (mC M a0 = 8) (deR (mR M a0 4) fun q3 => bkV (cl jm_Land_init [.ref (mZ M)] (newM M 3 0 11)) fun M4 =>
          ckk (mC M4 q3 = 104) (ckb l1 (mN M4 q3) (ckk (mC M4 (mZ M) = 3) (ckk (mC (setP M4 q3 (Int32.toNatClampNeg l1) (some (mZ M))) a0 = 8) (deR (mR (setP M4 q3 (Int32.toNatClampNeg l1) (some (mZ M))) a0 4) fun q5 => ckk (mC (setP M4 q3 (Int32.toNatClampNeg l1) (some (mZ M))) q5 = 104) (ckb l1 (mN (setP M4 q3 (Int32.toNatClampNeg l1) (some (mZ M))) q5) (deQ (aR (setP M4 q3 (Int32.toNatClampNeg l1) (some (mZ M))) q5 (Int32.toNatClampNeg l1))
            (ckk (mC (setP M4 q3 (Int32.toNatClampNeg l1) (some (mZ M))) a0 = 8) (deR (mR (setP M4 q3 (Int32.toNatClampNeg l1) (some (mZ M))) a0 3) fun q7 => none))
            (fun q6 => ckk (mC (setP M4 q3 (Int32.toNatClampNeg l1) (some (mZ M))) a0 = 8) (deR (mR (setP M4 q3 (Int32.toNatClampNeg l1) (some (mZ M))) a0 3) fun q8 => ckk (mC (setP M4 q3 (Int32.toNatClampNeg l1) (some (mZ M))) q6 = 3) (bkV (cl jm_Land_copyFrom [.ref q6, .ref q8] (setP M4 q3 (Int32.toNatClampNeg l1) (some (mZ M)))) fun M9 =>
            ckk (mC M9 a0 = 8) (deR (mR M9 a0 3) fun q10 => ckk (mC M9 q10 = 3) (deR (mR M9 q10 1) fun q11 => ckk (mC M9 q11 = 100) (ckb (0 : Int32) (mN M9 q11) (some (some (.int (aI M9 q11 (Int32.toNatClampNeg (0 : Int32)))), M9))))))))))))))))
          (fun q2 => ckk (mC M a0 = 8) (deR (mR M a0 4) fun q12 => ckk (mC M q12 = 104) (ckb l1 (mN M q12) (deQ (aR M q12 (Int32.toNatClampNeg l1))
            (ckk (mC M a0 = 8) (deR (mR M a0 3) fun q14 => none))
            (fun q13 => ckk (mC M a0 = 8) (deR (mR M a0 3) fun q15 => ckk (mC M q13 = 3) (bkV (cl jm_Land_copyFrom [.ref q13, .ref q15] M) fun M16 =>
            ckk (mC M16 a0 = 8) (deR (mR M16 a0 3) fun q17 => ckk (mC M16 q17 = 3) (deR (mR M16 q17 1) fun q18 => ckk (mC M16 q18 = 100) (ckb (0 : Int32) (mN M16 q18) (some (some (.int (aI M16 q18 (Int32.toNatClampNeg (0 : Int32)))), M16)))))))))))))))) else
        (some (some (.int (-1 : Int32)), M))))) :=
  tr_eq [] 30 rfl
theorem ca_Suit_mark (d : Nat) (a0 : Nat) (l1 : Int32) (M : ej_Mem) : cal (d + 1) jm_Suit_mark [.ref a0, .int l1] M = rn jm_Suit_mark (cal d) 0 [some (.ref a0), some (.int l1)] [] M := call_eq (show 2 ≤ 2 by decide)
set_option maxRecDepth 100000 in
theorem eq_Suit_back_0 (cl : Nat → List Value → ej_Mem → Option ej_R) (a0 : Nat) (l1 : Int32) (M : ej_Mem) : rn jm_Suit_back cl 0 [some (.ref a0), some (.int l1)] [] M =
    (if l1 < (0 : Int32) then
      (some (some (.int (-1 : Int32)), M)) else
      ((if (4 : Int32) ≤ l1 then
        (some (some (.int (-1 : Int32)), M)) else
        (ckk (mC M a0 = 8) (deR (mR M a0 4) fun q1 => ckk (mC M q1 = 104) (ckb l1 (mN M q1) (deQ (aR M q1 (Int32.toNatClampNeg l1))
          (some (some (.int (-1 : Int32)), M))
          (fun q2 => ckk (mC M a0 = 8) (deR (mR M a0 3) fun q3 => ckk (mC M a0 = 8) (deR (mR M a0 4) fun q4 => ckk (mC M q4 = 104) (ckb l1 (mN M q4) (deQ (aR M q4 (Int32.toNatClampNeg l1))
            (ckk (mC M q3 = 3) (bkV (cl jm_Land_copyFrom [.ref q3, .null] M) fun M6 =>
            ckk (mC M6 a0 = 8) (deR (mR M6 a0 3) fun q7 => ckk (mC M6 q7 = 3) (deR (mR M6 q7 1) fun q8 => ckk (mC M6 q8 = 100) (ckb (0 : Int32) (mN M6 q8) (some (some (.int (aI M6 q8 (Int32.toNatClampNeg (0 : Int32)))), M6)))))))
            (fun q5 => ckk (mC M q3 = 3) (bkV (cl jm_Land_copyFrom [.ref q3, .ref q5] M) fun M9 =>
            ckk (mC M9 a0 = 8) (deR (mR M9 a0 3) fun q10 => ckk (mC M9 q10 = 3) (deR (mR M9 q10 1) fun q11 => ckk (mC M9 q11 = 100) (ckb (0 : Int32) (mN M9 q11) (some (some (.int (aI M9 q11 (Int32.toNatClampNeg (0 : Int32)))), M9))))))))))))))))))) :=
  tr_eq [] 23 rfl
theorem ca_Suit_back (d : Nat) (a0 : Nat) (l1 : Int32) (M : ej_Mem) : cal (d + 1) jm_Suit_back [.ref a0, .int l1] M = rn jm_Suit_back (cal d) 0 [some (.ref a0), some (.int l1)] [] M := call_eq (show 2 ≤ 2 by decide)
set_option maxRecDepth 100000 in
theorem eq_Suit_count_0 (cl : Nat → List Value → ej_Mem → Option ej_R) (a0 : Nat) (l1 : Int32) (M : ej_Mem) : rn jm_Suit_count cl 0 [some (.ref a0), some (.int l1)] [] M =
    (if l1 < (0 : Int32) then
      ((if l1 = (4 : Int32) then
        (ckk (mC M a0 = 8) (deR (mR M a0 3) fun q1 => ckk (mC M q1 = 3) (deR (mR M q1 6) fun q2 => ckk (mC M q2 = 4) (some (some (.int (mI M q2 0)), M))))) else
        ((if l1 = (5 : Int32) then
          (ckk (mC M a0 = 8) (some (some (.int (mI M a0 1)), M))) else
          (some (some (.int (-1 : Int32)), M)))))) else
      ((if (3 : Int32) < l1 then
        ((if l1 = (4 : Int32) then
          (ckk (mC M a0 = 8) (deR (mR M a0 3) fun q3 => ckk (mC M q3 = 3) (deR (mR M q3 6) fun q4 => ckk (mC M q4 = 4) (some (some (.int (mI M q4 0)), M))))) else
          ((if l1 = (5 : Int32) then
            (ckk (mC M a0 = 8) (some (some (.int (mI M a0 1)), M))) else
            (some (some (.int (-1 : Int32)), M)))))) else
        (ckk (mC M a0 = 8) (deR (mR M a0 3) fun q5 => ckk (mC M q5 = 3) (deR (mR M q5 1) fun q6 => ckk (mC M q6 = 100) (ckb l1 (mN M q6) (some (some (.int (aI M q6 (Int32.toNatClampNeg l1))), M))))))))) :=
  tr_eq [] 15 rfl
theorem ca_Suit_count (d : Nat) (a0 : Nat) (l1 : Int32) (M : ej_Mem) : cal (d + 1) jm_Suit_count [.ref a0, .int l1] M = rn jm_Suit_count (cal d) 0 [some (.ref a0), some (.int l1)] [] M := call_eq (show 2 ≤ 2 by decide)
set_option maxRecDepth 100000 in
theorem eq_Suit_isYear_0 (cl : Nat → List Value → ej_Mem → Option ej_R) (l0 : Int32) (M : ej_Mem) : rn jm_Suit_isYear cl 0 [some (.int l0)] [] M =
    (if l0 < (0 : Int32) then
      (ckk ((0 : Int32) = 0 ∨ (0 : Int32) = 1) (some (some (.int (0 : Int32)), M))) else
      ((if (2999 : Int32) < l0 then
        (ckk ((0 : Int32) = 0 ∨ (0 : Int32) = 1) (some (some (.int (0 : Int32)), M))) else
        (ckk ((1 : Int32) = 0 ∨ (1 : Int32) = 1) (some (some (.int (1 : Int32)), M)))))) :=
  tr_eq [] 8 rfl
theorem ca_Suit_isYear (d : Nat) (l0 : Int32) (M : ej_Mem) : cal (d + 1) jm_Suit_isYear [.int l0] M = rn jm_Suit_isYear (cal d) 0 [some (.int l0)] [] M := call_eq (show 1 ≤ 1 by decide)
set_option maxRecDepth 100000 in
theorem eq_Suit_isState_0 (cl : Nat → List Value → ej_Mem → Option ej_R) (l0 : Int32) (M : ej_Mem) : rn jm_Suit_isState cl 0 [some (.int l0)] [] M =
    (if l0 < (0 : Int32) then
      (ckk ((0 : Int32) = 0 ∨ (0 : Int32) = 1) (some (some (.int (0 : Int32)), M))) else
      ((if (16777215 : Int32) < l0 then
        (ckk ((0 : Int32) = 0 ∨ (0 : Int32) = 1) (some (some (.int (0 : Int32)), M))) else
        (ckk ((1 : Int32) = 0 ∨ (1 : Int32) = 1) (some (some (.int (1 : Int32)), M)))))) :=
  tr_eq [] 8 rfl
theorem ca_Suit_isState (d : Nat) (l0 : Int32) (M : ej_Mem) : cal (d + 1) jm_Suit_isState [.int l0] M = rn jm_Suit_isState (cal d) 0 [some (.int l0)] [] M := call_eq (show 1 ≤ 1 by decide)
set_option maxRecDepth 100000 in
theorem eq_Suit_feedNumber_0 (cl : Nat → List Value → ej_Mem → Option ej_R) (a0 : Nat) (l1 : Int32) (M : ej_Mem) : rn jm_Suit_feedNumber cl 0 [some (.ref a0), some (.int l1), none] [] M =
    rn jm_Suit_feedNumber cl 3 [some (.ref a0), some (.int l1), some (.int (24 : Int32))] [] M :=
  tr_eq [3] 3 rfl
set_option maxRecDepth 100000 in
theorem eq_Suit_feedNumber_3 (cl : Nat → List Value → ej_Mem → Option ej_R) (a0 : Nat) (l1 : Int32) (l2 : Int32) (M : ej_Mem) : rn jm_Suit_feedNumber cl 3 [some (.ref a0), some (.int l1), some (.int l2)] [] M =
    (if l2 < (0 : Int32) then
      (some (none, M)) else
      (ckk (mC M a0 = 8) ((if (400 : Int32) ≤ (mI M a0 1) then
        (rn jm_Suit_feedNumber cl 3 [some (.ref a0), some (.int l1), some (.int (l2 + (-8 : Int32)))] [] M) else
        (ckk (mC M a0 = 8) (deR (mR M a0 0) fun q1 => ckk (mC M a0 = 8) (ckk (mC M q1 = 100) (ckb (mI M a0 1) (mN M q1) (ckk (mC (setA M q1 (Int32.toNatClampNeg (mI M a0 1)) ((l1 >>> (l2 &&& 31)) &&& (255 : Int32))) a0 = 8) (ckk (mC (setA M q1 (Int32.toNatClampNeg (mI M a0 1)) ((l1 >>> (l2 &&& 31)) &&& (255 : Int32))) a0 = 8) (rn jm_Suit_feedNumber cl 3 [some (.ref a0), some (.int l1), some (.int (l2 + (-8 : Int32)))] [] (setI (setA M q1 (Int32.toNatClampNeg (mI M a0 1)) ((l1 >>> (l2 &&& 31)) &&& (255 : Int32))) a0 1 ((mI (setA M q1 (Int32.toNatClampNeg (mI M a0 1)) ((l1 >>> (l2 &&& 31)) &&& (255 : Int32))) a0 1) + (1 : Int32)))))))))))))) :=
  tr_eq [3] 25 rfl
theorem ca_Suit_feedNumber (d : Nat) (a0 : Nat) (l1 : Int32) (M : ej_Mem) : cal (d + 1) jm_Suit_feedNumber [.ref a0, .int l1] M = rn jm_Suit_feedNumber (cal d) 0 [some (.ref a0), some (.int l1), none] [] M := call_eq (show 2 ≤ 3 by decide)
set_option maxRecDepth 100000 in
theorem eq_Suit_setTerms_0 (cl : Nat → List Value → ej_Mem → Option ej_R) (a0 : Nat) (l1 : Int32) (l2 : Int32) (l3 : Int32) (M : ej_Mem) : rn jm_Suit_setTerms cl 0 [some (.ref a0), some (.int l1), some (.int l2), some (.int l3)] [] M =
    ckk (mC M a0 = 8) (deR (mR M a0 5) fun q1 => ckk (mC M a0 = 8) (deR (mR M a0 3) fun q2 => ckk (mC M q2 = 3) (bkQ (cl jm_Land_writ [.ref q2, .int (1 : Int32), .int l1] M)
      (fun M3 => ckk (mC M3 q1 = 6) (rn jm_Suit_setTerms cl 16 [some (.ref a0), some (.int l1), some (.int l2), some (.int l3)] [] (setR M3 q1 0 none)))
      (fun q4 M5 => ckk (mC M5 q1 = 6) (rn jm_Suit_setTerms cl 16 [some (.ref a0), some (.int l1), some (.int l2), some (.int l3)] [] (setR M5 q1 0 (some q4))))))) :=
  tr_eq [16, 32, 47, 61, 70] 9 rfl
set_option maxRecDepth 100000 in
theorem eq_Suit_setTerms_16 (cl : Nat → List Value → ej_Mem → Option ej_R) (a0 : Nat) (l1 : Int32) (l2 : Int32) (l3 : Int32) (M : ej_Mem) : rn jm_Suit_setTerms cl 16 [some (.ref a0), some (.int l1), some (.int l2), some (.int l3)] [] M =
    ckk (mC M a0 = 8) (deR (mR M a0 5) fun q1 => ckk (mC M a0 = 8) (deR (mR M a0 3) fun q2 => ckk (mC M q2 = 3) (bkQ (cl jm_Land_writ [.ref q2, .int (2 : Int32), .int l2] M)
      (fun M3 => ckk (mC M3 q1 = 6) (rn jm_Suit_setTerms cl 32 [some (.ref a0), some (.int l1), some (.int l2), some (.int l3)] [] (setR M3 q1 1 none)))
      (fun q4 M5 => ckk (mC M5 q1 = 6) (rn jm_Suit_setTerms cl 32 [some (.ref a0), some (.int l1), some (.int l2), some (.int l3)] [] (setR M5 q1 1 (some q4))))))) :=
  tr_eq [16, 32, 47, 61, 70] 9 rfl
set_option maxRecDepth 100000 in
theorem eq_Suit_setTerms_32 (cl : Nat → List Value → ej_Mem → Option ej_R) (a0 : Nat) (l1 : Int32) (l2 : Int32) (l3 : Int32) (M : ej_Mem) : rn jm_Suit_setTerms cl 32 [some (.ref a0), some (.int l1), some (.int l2), some (.int l3)] [] M =
    ckk (mC M a0 = 8) (deR (mR M a0 5) fun q1 => ckk (mC M a0 = 8) (deR (mR M a0 3) fun q2 => ckk (mC M q2 = 3) (bkJ (cl jm_Land_movesOpenIn [.ref q2, .int l3] M) fun x4 M3 =>
    ckk (mC M3 q1 = 6) (rn jm_Suit_setTerms cl 47 [some (.ref a0), some (.int l1), some (.int l2), some (.int l3)] [] (setL M3 q1 2 x4))))) :=
  tr_eq [16, 32, 47, 61, 70] 8 rfl
set_option maxRecDepth 100000 in
theorem eq_Suit_setTerms_47 (cl : Nat → List Value → ej_Mem → Option ej_R) (a0 : Nat) (l1 : Int32) (l2 : Int32) (l3 : Int32) (M : ej_Mem) : rn jm_Suit_setTerms cl 47 [some (.ref a0), some (.int l1), some (.int l2), some (.int l3)] [] M =
    ckk (mC M a0 = 8) (deR (mR M a0 5) fun q1 => ckk (mC M a0 = 8) (deR (mR M a0 3) fun q2 => ckk (mC M q2 = 3) (ckk (mC M q1 = 6) (rn jm_Suit_setTerms cl 61 [some (.ref a0), some (.int l1), some (.int l2), some (.int l3)] [] (setI M q1 3 (mI M q2 4)))))) :=
  tr_eq [16, 32, 47, 61, 70] 7 rfl
set_option maxRecDepth 100000 in
theorem eq_Suit_setTerms_61 (cl : Nat → List Value → ej_Mem → Option ej_R) (a0 : Nat) (l1 : Int32) (l2 : Int32) (l3 : Int32) (M : ej_Mem) : rn jm_Suit_setTerms cl 61 [some (.ref a0), some (.int l1), some (.int l2), some (.int l3)] [] M =
    ckk (mC M a0 = 8) (deR (mR M a0 5) fun q1 => ckk (mC M q1 = 6) (rn jm_Suit_setTerms cl 70 [some (.ref a0), some (.int l1), some (.int l2), some (.int l3)] [] (setI M q1 4 (65535 : Int32)))) :=
  tr_eq [16, 32, 47, 61, 70] 5 rfl
set_option maxRecDepth 100000 in
theorem eq_Suit_setTerms_70 (cl : Nat → List Value → ej_Mem → Option ej_R) (a0 : Nat) (l1 : Int32) (l2 : Int32) (l3 : Int32) (M : ej_Mem) : rn jm_Suit_setTerms cl 70 [some (.ref a0), some (.int l1), some (.int l2), some (.int l3)] [] M =
    ckk (mC M a0 = 8) (deR (mR M a0 5) fun q1 => ckk (mC M q1 = 6) (deQ (mR M q1 0)
      (ckk ((0 : Int32) = 0 ∨ (0 : Int32) = 1) (some (some (.int (0 : Int32)), M)))
      (fun q2 => ckk (mC M a0 = 8) (deR (mR M a0 5) fun q3 => ckk (mC M q3 = 6) (deQ (mR M q3 1)
        (ckk ((0 : Int32) = 0 ∨ (0 : Int32) = 1) (some (some (.int (0 : Int32)), M)))
        (fun q4 => bkI (cl jm_Suit_isYear [.int l3] M) fun x6 M5 =>
        (if x6 = (0 : Int32) then
          (ckk ((0 : Int32) = 0 ∨ (0 : Int32) = 1) (some (some (.int (0 : Int32)), M5))) else
          (ckk ((1 : Int32) = 0 ∨ (1 : Int32) = 1) (some (some (.int (1 : Int32)), M5)))))))))) :=
  tr_eq [16, 32, 47, 61, 70] 14 rfl
theorem ca_Suit_setTerms (d : Nat) (a0 : Nat) (l1 : Int32) (l2 : Int32) (l3 : Int32) (M : ej_Mem) : cal (d + 1) jm_Suit_setTerms [.ref a0, .int l1, .int l2, .int l3] M = rn jm_Suit_setTerms (cal d) 0 [some (.ref a0), some (.int l1), some (.int l2), some (.int l3)] [] M := call_eq (show 4 ≤ 4 by decide)
set_option maxRecDepth 100000 in
theorem eq_Suit_fewestNames_0 (cl : Nat → List Value → ej_Mem → Option ej_R) (a0 : Nat) (l1 : Int32) (M : ej_Mem) : rn jm_Suit_fewestNames cl 0 [some (.ref a0), some (.int l1), none, none, none, none, none] [] M =
    ckk (mC M a0 = 8) (deR (mR M a0 5) fun q1 => ckk (mC M q1 = 6) (ckk (mC M a0 = 8) (deR (mR M a0 6) fun q2 => ckk (mC M a0 = 8) (deR (mR M a0 3) fun q3 => ckk (mC M a0 = 8) (deR (mR M a0 5) fun q4 => ckk (mC M q2 = 1) (bkI (cl jm_Hunt_whole [.ref q2, .ref q3, .ref q4] M) fun x6 M5 =>
    (if x6 = (3 : Int32) then
      (some (some (.int (-2 : Int32)), M5)) else
      (rn jm_Suit_fewestNames cl 33 [some (.ref a0), some (.int l1), some (.long (mL M q1 2)), none, some (.int (0 : Int32)), none, none] [] M5)))))))) :=
  tr_eq [33, 53] 16 rfl
set_option maxRecDepth 100000 in
theorem eq_Suit_fewestNames_33 (cl : Nat → List Value → ej_Mem → Option ej_R) (a0 : Nat) (l1 : Int32) (l2 : Int64) (l4 : Int32) (o5 : Option Value) (o6 : Option Value) (M : ej_Mem) : rn jm_Suit_fewestNames cl 33 [some (.ref a0), some (.int l1), some (.long l2), none, some (.int l4), o5, o6] [] M =
    bkI (cl jm_Intg_bitCount_0f7a4 [.int l1] M) fun x2 M1 =>
    (if x2 < l4 then
      (some (some (.int (-2 : Int32)), M1)) else
      (bkI (cl jm_Intg_bitCount_0f7a4 [.int l1] M1) fun x4 M3 =>
      rn jm_Suit_fewestNames cl 53 [some (.ref a0), some (.int l1), some (.long l2), none, some (.int l4), some (.int (0 : Int32)), some (.int ((1 : Int32) <<< (x4 &&& 31)))] [] M3)) :=
  tr_eq [33, 53] 12 rfl
set_option maxRecDepth 100000 in
theorem eq_Suit_fewestNames_53 (cl : Nat → List Value → ej_Mem → Option ej_R) (a0 : Nat) (l1 : Int32) (l2 : Int64) (l4 : Int32) (l5 : Int32) (l6 : Int32) (M : ej_Mem) : rn jm_Suit_fewestNames cl 53 [some (.ref a0), some (.int l1), some (.long l2), none, some (.int l4), some (.int l5), some (.int l6)] [] M =
    (if l6 ≤ (0 : Int32) then
      (rn jm_Suit_fewestNames cl 33 [some (.ref a0), some (.int l1), some (.long l2), none, some (.int (l4 + (1 : Int32))), some (.int l5), some (.int l6)] [] M) else
      (bkI (cl jm_Intg_bitCount_0f7a4 [.int l5] M) fun x2 M1 =>
      (if x2 = l4 then
        (ckk (mC M1 a0 = 8) (deR (mR M1 a0 5) fun q5 => ckk (mC M1 a0 = 8) (deR (mR M1 a0 3) fun q6 => ckk (mC M1 q6 = 3) (bkJ (cl jm_Land_movesLentBy [.ref q6, .int l5] M1) fun x8 M7 =>
        ckk (mC M7 q5 = 6) (ckk (mC (setL M7 q5 2 (l2 &&& x8)) a0 = 8) (deR (mR (setL M7 q5 2 (l2 &&& x8)) a0 3) fun q9 => ckk (mC (setL M7 q5 2 (l2 &&& x8)) a0 = 8) (deR (mR (setL M7 q5 2 (l2 &&& x8)) a0 5) fun q10 => ckk (mC (setL M7 q5 2 (l2 &&& x8)) q10 = 6) (ckk (mC (setL M7 q5 2 (l2 &&& x8)) q9 = 3) (bkI (cl jm_Land_lendersOf [.ref q9, .long (mL (setL M7 q5 2 (l2 &&& x8)) q10 2)] (setL M7 q5 2 (l2 &&& x8))) fun x12 M11 =>
        (if x12 = l5 then
          (ckk (mC M11 a0 = 8) (deR (mR M11 a0 6) fun q15 => ckk (mC M11 a0 = 8) (deR (mR M11 a0 3) fun q16 => ckk (mC M11 a0 = 8) (deR (mR M11 a0 5) fun q17 => ckk (mC M11 q15 = 1) (bkI (cl jm_Hunt_whole [.ref q15, .ref q16, .ref q17] M11) fun x19 M18 =>
          (if x19 = (2 : Int32) then
            (some (some (.int l5), M18)) else
            (bkI (cl jm_Suit_nextSubset [.int l5, .int l1] M18) fun x21 M20 =>
            rn jm_Suit_fewestNames cl 53 [some (.ref a0), some (.int l1), some (.long l2), none, some (.int l4), some (.int x21), some (.int (l6 + (-1 : Int32)))] [] M20))))))) else
          (bkI (cl jm_Suit_nextSubset [.int l5, .int l1] M11) fun x14 M13 =>
          rn jm_Suit_fewestNames cl 53 [some (.ref a0), some (.int l1), some (.long l2), none, some (.int l4), some (.int x14), some (.int (l6 + (-1 : Int32)))] [] M13))))))))))) else
        (bkI (cl jm_Suit_nextSubset [.int l5, .int l1] M1) fun x4 M3 =>
        rn jm_Suit_fewestNames cl 53 [some (.ref a0), some (.int l1), some (.long l2), none, some (.int l4), some (.int x4), some (.int (l6 + (-1 : Int32)))] [] M3)))) :=
  tr_eq [33, 53] 39 rfl
theorem ca_Suit_fewestNames (d : Nat) (a0 : Nat) (l1 : Int32) (M : ej_Mem) : cal (d + 1) jm_Suit_fewestNames [.ref a0, .int l1] M = rn jm_Suit_fewestNames (cal d) 0 [some (.ref a0), some (.int l1), none, none, none, none, none] [] M := call_eq (show 2 ≤ 7 by decide)
set_option maxRecDepth 100000 in
theorem eq_Suit_nextSubset_0 (cl : Nat → List Value → ej_Mem → Option ej_R) (l0 : Int32) (l1 : Int32) (M : ej_Mem) : rn jm_Suit_nextSubset cl 0 [some (.int l0), some (.int l1)] [] M =
    some (some (.int (((l0 ||| (l1 ^^^ (-1 : Int32))) + (1 : Int32)) &&& l1)), M) :=
  tr_eq [] 10 rfl
theorem ca_Suit_nextSubset (d : Nat) (l0 : Int32) (l1 : Int32) (M : ej_Mem) : cal (d + 1) jm_Suit_nextSubset [.int l0, .int l1] M = rn jm_Suit_nextSubset (cal d) 0 [some (.int l0), some (.int l1)] [] M := call_eq (show 2 ≤ 2 by decide)
set_option maxRecDepth 100000 in
theorem eq_Suit_judge_0 (cl : Nat → List Value → ej_Mem → Option ej_R) (a0 : Nat) (l1 : Int32) (M : ej_Mem) : rn jm_Suit_judge cl 0 [some (.ref a0), some (.int l1)] [] M =
    ckk (mC M a0 = 8) (deR (mR M a0 8) fun q1 => ckk (mC M a0 = 8) (deR (mR M a0 3) fun q2 => ckk (mC M a0 = 8) (deR (mR M a0 3) fun q3 => ckk (mC M q3 = 3) (ckk (mC M q1 = 2) (bkI (cl jm_Judg_run [.ref q1, .ref q2, .int l1, .int (mI M q3 4), .int (24 : Int32)] M) fun x5 M4 =>
    ckk (x5 = 0 ∨ x5 = 1) (some (some (.int x5), M4))))))) :=
  tr_eq [] 11 rfl
theorem ca_Suit_judge (d : Nat) (a0 : Nat) (l1 : Int32) (M : ej_Mem) : cal (d + 1) jm_Suit_judge [.ref a0, .int l1] M = rn jm_Suit_judge (cal d) 0 [some (.ref a0), some (.int l1)] [] M := call_eq (show 2 ≤ 2 by decide)
set_option maxRecDepth 100000 in
theorem eq_Suit_isBarring_0 (cl : Nat → List Value → ej_Mem → Option ej_R) (a0 : Nat) (l1 : Int32) (l2 : Int32) (M : ej_Mem) : rn jm_Suit_isBarring cl 0 [some (.ref a0), some (.int l1), some (.int l2), none] [] M =
    rn jm_Suit_isBarring cl 2 [some (.ref a0), some (.int l1), some (.int l2), some (.int (0 : Int32))] [] M :=
  tr_eq [2] 3 rfl
set_option maxRecDepth 100000 in
theorem eq_Suit_isBarring_2 (cl : Nat → List Value → ej_Mem → Option ej_R) (a0 : Nat) (l1 : Int32) (l2 : Int32) (l3 : Int32) (M : ej_Mem) : rn jm_Suit_isBarring cl 2 [some (.ref a0), some (.int l1), some (.int l2), some (.int l3)] [] M =
    ckk (mC M a0 = 8) (deR (mR M a0 3) fun q1 => ckk (mC M q1 = 3) (deR (mR M q1 6) fun q2 => ckk (mC M q2 = 4) ((if (mI M q2 0) ≤ l3 then
      (ckk (mC M a0 = 8) (deR (mR M a0 5) fun q3 => ckk (mC M q3 = 6) (ckk (mC (setI M q3 3 l1) a0 = 8) (deR (mR (setI M q3 3 l1) a0 6) fun q4 => ckk (mC (setI M q3 3 l1) a0 = 8) (deR (mR (setI M q3 3 l1) a0 3) fun q5 => ckk (mC (setI M q3 3 l1) a0 = 8) (deR (mR (setI M q3 3 l1) a0 5) fun q6 => ckk (mC (setI M q3 3 l1) q4 = 1) (bkI (cl jm_Hunt_whole [.ref q4, .ref q5, .ref q6] (setI M q3 3 l1)) fun x8 M7 =>
      (if x8 = (3 : Int32) then
        (ckk ((1 : Int32) = 0 ∨ (1 : Int32) = 1) (some (some (.int (1 : Int32)), M7))) else
        (ckk ((0 : Int32) = 0 ∨ (0 : Int32) = 1) (some (some (.int (0 : Int32)), M7))))))))))) else
      ((if ((l2 >>> (l3 &&& 31)) &&& (1 : Int32)) = (0 : Int32) then
        (rn jm_Suit_isBarring cl 2 [some (.ref a0), some (.int l1), some (.int l2), some (.int (l3 + (1 : Int32)))] [] M) else
        (ckk (mC M a0 = 8) (deR (mR M a0 8) fun q9 => ckk (mC M a0 = 8) (deR (mR M a0 3) fun q10 => ckk (mC M q9 = 2) (bkI (cl jm_Judg_run [.ref q9, .ref q10, .int l3, .int l1, .int (24 : Int32)] M) fun x12 M11 =>
        ckk (mC M11 a0 = 8) (deR (mR M11 a0 8) fun q13 => ckk (mC M11 q13 = 2) (ckk (mC M11 a0 = 8) (deR (mR M11 a0 3) fun q14 => ckk (mC M11 q14 = 3) (deR (mR M11 q14 6) fun q15 => ckk (mC M11 q15 = 4) (bkI (cl jm_Rolls_length [.ref q15, .int l3] M11) fun x17 M16 =>
        (if x17 ≤ (mI M11 q13 3) then
          (rn jm_Suit_isBarring cl 2 [some (.ref a0), some (.int l1), some (.int l2), some (.int (l3 + (1 : Int32)))] [] M16) else
          (ckk ((0 : Int32) = 0 ∨ (0 : Int32) = 1) (some (some (.int (0 : Int32)), M16))))))))))))))))))) :=
  tr_eq [2] 33 rfl
theorem ca_Suit_isBarring (d : Nat) (a0 : Nat) (l1 : Int32) (l2 : Int32) (M : ej_Mem) : cal (d + 1) jm_Suit_isBarring [.ref a0, .int l1, .int l2] M = rn jm_Suit_isBarring (cal d) 0 [some (.ref a0), some (.int l1), some (.int l2), none] [] M := call_eq (show 3 ≤ 4 by decide)
