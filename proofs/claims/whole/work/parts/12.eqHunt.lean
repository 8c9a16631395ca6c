/-! equations of the methods: from the entry and each loop head a tree of tests; written by wip/gen/eqs.py -/
set_option maxRecDepth 100000 in
theorem eq_Hunt_init_0 (cl : Nat → List Value → ej_Mem → Option ej_R) (a0 : Nat) (l1 : Int32) (l2 : Int32) (M : ej_Mem) : rn jm_Hunt_init cl 0 [some (.ref a0), some (.int l1), some (.int l2)] [] M =
    ckk (mC M a0 = 1) (rn jm_Hunt_init cl 9 [some (.ref a0), some (.int l1), some (.int l2)] [] (setI M a0 5 (0 : Int32))) :=
  tr_eq [9, 14, 19, 24, 29, 36, 43, 55] 6 rfl
set_option maxRecDepth 100000 in
theorem eq_Hunt_init_9 (cl : Nat → List Value → ej_Mem → Option ej_R) (a0 : Nat) (l1 : Int32) (l2 : Int32) (M : ej_Mem) : rn jm_Hunt_init cl 9 [some (.ref a0), some (.int l1), some (.int l2)] [] M =
    ckk (mC M a0 = 1) (rn jm_Hunt_init cl 14 [some (.ref a0), some (.int l1), some (.int l2)] [] (setI M a0 6 (0 : Int32))) :=
  tr_eq [9, 14, 19, 24, 29, 36, 43, 55] 4 rfl
set_option maxRecDepth 100000 in
theorem eq_Hunt_init_14 (cl : Nat → List Value → ej_Mem → Option ej_R) (a0 : Nat) (l1 : Int32) (l2 : Int32) (M : ej_Mem) : rn jm_Hunt_init cl 14 [some (.ref a0), some (.int l1), some (.int l2)] [] M =
    ckk (mC M a0 = 1) (rn jm_Hunt_init cl 19 [some (.ref a0), some (.int l1), some (.int l2)] [] (setI M a0 7 (0 : Int32))) :=
  tr_eq [9, 14, 19, 24, 29, 36, 43, 55] 4 rfl
set_option maxRecDepth 100000 in
theorem eq_Hunt_init_19 (cl : Nat → List Value → ej_Mem → Option ej_R) (a0 : Nat) (l1 : Int32) (l2 : Int32) (M : ej_Mem) : rn jm_Hunt_init cl 19 [some (.ref a0), some (.int l1), some (.int l2)] [] M =
    ckk (mC M a0 = 1) (rn jm_Hunt_init cl 24 [some (.ref a0), some (.int l1), some (.int l2)] [] (setI M a0 0 l1)) :=
  tr_eq [9, 14, 19, 24, 29, 36, 43, 55] 4 rfl
set_option maxRecDepth 100000 in
theorem eq_Hunt_init_24 (cl : Nat → List Value → ej_Mem → Option ej_R) (a0 : Nat) (l1 : Int32) (l2 : Int32) (M : ej_Mem) : rn jm_Hunt_init cl 24 [some (.ref a0), some (.int l1), some (.int l2)] [] M =
    ckk (mC M a0 = 1) (rn jm_Hunt_init cl 29 [some (.ref a0), some (.int l1), some (.int l2)] [] (setI M a0 1 l2)) :=
  tr_eq [9, 14, 19, 24, 29, 36, 43, 55] 4 rfl
set_option maxRecDepth 100000 in
theorem eq_Hunt_init_29 (cl : Nat → List Value → ej_Mem → Option ej_R) (a0 : Nat) (l1 : Int32) (l2 : Int32) (M : ej_Mem) : rn jm_Hunt_init cl 29 [some (.ref a0), some (.int l1), some (.int l2)] [] M =
    ckk (¬ l1 < 0 ∧ Int32.toNatClampNeg l1 ≤ 67108864) (ckk (mC (newM M 100 (Int32.toNatClampNeg l1) (Int32.toNatClampNeg l1)) a0 = 1) (rn jm_Hunt_init cl 36 [some (.ref a0), some (.int l1), some (.int l2)] [] (setR (newM M 100 (Int32.toNatClampNeg l1) (Int32.toNatClampNeg l1)) a0 2 (some (mZ M))))) :=
  tr_eq [9, 14, 19, 24, 29, 36, 43, 55] 5 rfl
set_option maxRecDepth 100000 in
theorem eq_Hunt_init_36 (cl : Nat → List Value → ej_Mem → Option ej_R) (a0 : Nat) (l1 : Int32) (l2 : Int32) (M : ej_Mem) : rn jm_Hunt_init cl 36 [some (.ref a0), some (.int l1), some (.int l2)] [] M =
    ckk (¬ l1 < 0 ∧ Int32.toNatClampNeg l1 ≤ 67108864) (ckk (mC (newM M 100 (Int32.toNatClampNeg l1) (Int32.toNatClampNeg l1)) a0 = 1) (rn jm_Hunt_init cl 43 [some (.ref a0), some (.int l1), some (.int l2)] [] (setR (newM M 100 (Int32.toNatClampNeg l1) (Int32.toNatClampNeg l1)) a0 3 (some (mZ M))))) :=
  tr_eq [9, 14, 19, 24, 29, 36, 43, 55] 5 rfl
set_option maxRecDepth 100000 in
theorem eq_Hunt_init_43 (cl : Nat → List Value → ej_Mem → Option ej_R) (a0 : Nat) (l1 : Int32) (l2 : Int32) (M : ej_Mem) : rn jm_Hunt_init cl 43 [some (.ref a0), some (.int l1), some (.int l2)] [] M =
    ckk (¬ ((1 : Int32) <<< (((32 : Int32) - l2) &&& 31)) < 0 ∧ Int32.toNatClampNeg ((1 : Int32) <<< (((32 : Int32) - l2) &&& 31)) ≤ 67108864) (ckk (mC (newM M 100 (Int32.toNatClampNeg ((1 : Int32) <<< (((32 : Int32) - l2) &&& 31))) (Int32.toNatClampNeg ((1 : Int32) <<< (((32 : Int32) - l2) &&& 31)))) a0 = 1) (rn jm_Hunt_init cl 55 [some (.ref a0), some (.int l1), some (.int l2)] [] (setR (newM M 100 (Int32.toNatClampNeg ((1 : Int32) <<< (((32 : Int32) - l2) &&& 31))) (Int32.toNatClampNeg ((1 : Int32) <<< (((32 : Int32) - l2) &&& 31)))) a0 4 (some (mZ M))))) :=
  tr_eq [9, 14, 19, 24, 29, 36, 43, 55] 9 rfl
set_option maxRecDepth 100000 in
theorem eq_Hunt_init_55 (cl : Nat → List Value → ej_Mem → Option ej_R) (a0 : Nat) (l1 : Int32) (l2 : Int32) (M : ej_Mem) : rn jm_Hunt_init cl 55 [some (.ref a0), some (.int l1), some (.int l2)] [] M =
    some (none, M) :=
  tr_eq [9, 14, 19, 24, 29, 36, 43, 55] 1 rfl
theorem ca_Hunt_init (d : Nat) (a0 : Nat) (l1 : Int32) (l2 : Int32) (M : ej_Mem) : cal (d + 1) jm_Hunt_init [.ref a0, .int l1, .int l2] M = rn jm_Hunt_init (cal d) 0 [some (.ref a0), some (.int l1), some (.int l2)] [] M := call_eq (show 3 ≤ 3 by decide)
set_option maxRecDepth 100000 in
theorem eq_Hunt_begin_0 (cl : Nat → List Value → ej_Mem → Option ej_R) (a0 : Nat) (l1 : Int32) (a2 : Nat) (M : ej_Mem) : rn jm_Hunt_begin cl 0 [some (.ref a0), some (.int l1), some (.ref a2)] [] M =
    ckk (mC M a0 = 1) (bkV (cl jm_Hunt_forget [.ref a0] M) fun M1 =>
    ckk (mC M1 a0 = 1) (ckk (mC (setI M1 a0 7 (1 : Int32)) a0 = 1) (bkV (cl jm_Hunt_meet [.ref a0, .int l1, .int (0 : Int32), .ref a2] (setI M1 a0 7 (1 : Int32))) fun M2 =>
    some (none, M2)))) :=
  tr_eq [] 11 rfl
theorem ca_Hunt_begin (d : Nat) (a0 : Nat) (l1 : Int32) (a2 : Nat) (M : ej_Mem) : cal (d + 1) jm_Hunt_begin [.ref a0, .int l1, .ref a2] M = rn jm_Hunt_begin (cal d) 0 [some (.ref a0), some (.int l1), some (.ref a2)] [] M := call_eq (show 3 ≤ 3 by decide)
set_option maxRecDepth 100000 in
theorem eq_Hunt_forget_0 (cl : Nat → List Value → ej_Mem → Option ej_R) (a0 : Nat) (M : ej_Mem) : rn jm_Hunt_forget cl 0 [some (.ref a0), none] [] M =
    ckk (mC M a0 = 1) (rn jm_Hunt_forget cl 7 [some (.ref a0), some (.int ((mI M a0 5) - (1 : Int32)))] [] M) :=
  tr_eq [7] 6 rfl
set_option maxRecDepth 100000 in
theorem eq_Hunt_forget_7 (cl : Nat → List Value → ej_Mem → Option ej_R) (a0 : Nat) (l1 : Int32) (M : ej_Mem) : rn jm_Hunt_forget cl 7 [some (.ref a0), some (.int l1)] [] M =
    (if l1 < (0 : Int32) then
      (ckk (mC M a0 = 1) (ckk (mC (setI M a0 5 (0 : Int32)) a0 = 1) (ckk (mC (setI (setI M a0 5 (0 : Int32)) a0 6 (0 : Int32)) a0 = 1) (some (none, (setI (setI (setI M a0 5 (0 : Int32)) a0 6 (0 : Int32)) a0 7 (0 : Int32))))))) else
      (ckk (mC M a0 = 1) (deR (mR M a0 4) fun q1 => ckk (mC M a0 = 1) (deR (mR M a0 2) fun q2 => ckk (mC M q2 = 100) (ckb l1 (mN M q2) (ckk (mC M a0 = 1) (bkI (cl jm_Hunt_slotOf [.ref a0, .int (aI M q2 (Int32.toNatClampNeg l1))] M) fun x4 M3 =>
      ckk (mC M3 q1 = 100) (ckb x4 (mN M3 q1) (rn jm_Hunt_forget cl 7 [some (.ref a0), some (.int (l1 + (-1 : Int32)))] [] (setA M3 q1 (Int32.toNatClampNeg x4) (0 : Int32))))))))))) :=
  tr_eq [7] 15 rfl
theorem ca_Hunt_forget (d : Nat) (a0 : Nat) (M : ej_Mem) : cal (d + 1) jm_Hunt_forget [.ref a0] M = rn jm_Hunt_forget (cal d) 0 [some (.ref a0), none] [] M := call_eq (show 1 ≤ 2 by decide)
set_option maxRecDepth 100000 in
theorem eq_Hunt_whole_0 (cl : Nat → List Value → ej_Mem → Option ej_R) (a0 : Nat) (a1 : Nat) (a2 : Nat) (M : ej_Mem) : rn jm_Hunt_whole cl 0 [some (.ref a0), some (.ref a1), some (.ref a2), none] [] M =
    ckk (mC M a2 = 6) (deQ (mR M a2 0)
      (some (some (.int (0 : Int32)), M))
      (fun q1 => ckk (mC M a2 = 6) (deQ (mR M a2 0)
        (none)
        (fun q2 => ckk (mC M q2 = 7) (ckk (mC M a2 = 6) (deQ (mR M a2 1)
          (ckk (mC M a0 = 1) (bkV (cl jm_Hunt_begin [.ref a0, .int (mI M q2 0), .null] M) fun M4 =>
          rn jm_Hunt_whole cl 26 [some (.ref a0), some (.ref a1), some (.ref a2), some (.int (0 : Int32))] [] M4))
          (fun q3 => ckk (mC M a0 = 1) (bkV (cl jm_Hunt_begin [.ref a0, .int (mI M q2 0), .ref q3] M) fun M5 =>
          rn jm_Hunt_whole cl 26 [some (.ref a0), some (.ref a1), some (.ref a2), some (.int (0 : Int32))] [] M5)))))))) :=
  tr_eq [26] 13 rfl
set_option maxRecDepth 100000 in
theorem eq_Hunt_whole_26 (cl : Nat → List Value → ej_Mem → Option ej_R) (a0 : Nat) (a1 : Nat) (a2 : Nat) (l3 : Int32) (M : ej_Mem) : rn jm_Hunt_whole cl 26 [some (.ref a0), some (.ref a1), some (.ref a2), some (.int l3)] [] M =
    ckk (mC M a0 = 1) ((if (mI M a0 0) ≤ l3 then
      (ckk (mC M a0 = 1) (some (some (.int (mI M a0 7)), M))) else
      (ckk (mC M a0 = 1) ((if (mI M a0 7) = (1 : Int32) then
        (ckk (mC M a0 = 1) (bkV (cl jm_Hunt_passOne [.ref a0, .ref a1, .ref a2] M) fun M1 =>
        rn jm_Hunt_whole cl 26 [some (.ref a0), some (.ref a1), some (.ref a2), some (.int (l3 + (1 : Int32)))] [] M1)) else
        (ckk (mC M a0 = 1) (some (some (.int (mI M a0 7)), M)))))))) :=
  tr_eq [26] 15 rfl
theorem ca_Hunt_whole (d : Nat) (a0 : Nat) (a1 : Nat) (a2 : Nat) (M : ej_Mem) : cal (d + 1) jm_Hunt_whole [.ref a0, .ref a1, .ref a2] M = rn jm_Hunt_whole (cal d) 0 [some (.ref a0), some (.ref a1), some (.ref a2), none] [] M := call_eq (show 3 ≤ 4 by decide)
set_option maxRecDepth 100000 in
theorem eq_Hunt_run_0 (cl : Nat → List Value → ej_Mem → Option ej_R) (a0 : Nat) (a1 : Nat) (a2 : Nat) (l3 : Int32) (M : ej_Mem) : rn jm_Hunt_run cl 0 [some (.ref a0), some (.ref a1), some (.ref a2), some (.int l3), none] [] M =
    rn jm_Hunt_run cl 3 [some (.ref a0), some (.ref a1), some (.ref a2), some (.int l3), some (.int (0 : Int32))] [] M :=
  tr_eq [3] 3 rfl
set_option maxRecDepth 100000 in
theorem eq_Hunt_run_3 (cl : Nat → List Value → ej_Mem → Option ej_R) (a0 : Nat) (a1 : Nat) (a2 : Nat) (l3 : Int32) (l4 : Int32) (M : ej_Mem) : rn jm_Hunt_run cl 3 [some (.ref a0), some (.ref a1), some (.ref a2), some (.int l3), some (.int l4)] [] M =
    (if l3 ≤ l4 then
      (some (some (.int l4), M)) else
      (ckk (mC M a0 = 1) ((if (mI M a0 7) = (1 : Int32) then
        (ckk (mC M a0 = 1) (bkV (cl jm_Hunt_passOne [.ref a0, .ref a1, .ref a2] M) fun M1 =>
        rn jm_Hunt_run cl 3 [some (.ref a0), some (.ref a1), some (.ref a2), some (.int l3), some (.int (l4 + (1 : Int32)))] [] M1)) else
        (some (some (.int l4), M)))))) :=
  tr_eq [3] 14 rfl
theorem ca_Hunt_run (d : Nat) (a0 : Nat) (a1 : Nat) (a2 : Nat) (l3 : Int32) (M : ej_Mem) : cal (d + 1) jm_Hunt_run [.ref a0, .ref a1, .ref a2, .int l3] M = rn jm_Hunt_run (cal d) 0 [some (.ref a0), some (.ref a1), some (.ref a2), some (.int l3), none] [] M := call_eq (show 4 ≤ 5 by decide)
set_option maxRecDepth 100000 in
theorem eq_Hunt_passOne_0 (cl : Nat → List Value → ej_Mem → Option ej_R) (a0 : Nat) (a1 : Nat) (a2 : Nat) (M : ej_Mem) : rn jm_Hunt_passOne cl 0 [some (.ref a0), some (.ref a1), some (.ref a2), none, none] [] M =
    ckk (mC M a0 = 1) (ckk (mC M a0 = 1) ((if (mI M a0 6) < (mI M a0 5) then
      (ckk (mC M a0 = 1) (deR (mR M a0 2) fun q1 => ckk (mC M a0 = 1) (ckk (mC M q1 = 100) (ckb (mI M a0 6) (mN M q1) (ckk (mC M a0 = 1) (ckk (mC M a0 = 1) (rn jm_Hunt_passOne cl 40 [some (.ref a0), some (.ref a1), some (.ref a2), some (.int (aI M q1 (Int32.toNatClampNeg (mI M a0 6)))), some (.int (0 : Int32))] [] (setI M a0 6 ((mI M a0 6) + (1 : Int32)))))))))) else
      (ckk (mC M a0 = 1) (some (none, (setI M a0 7 (3 : Int32)))))))) :=
  tr_eq [40] 20 rfl
set_option maxRecDepth 100000 in
theorem eq_Hunt_passOne_40 (cl : Nat → List Value → ej_Mem → Option ej_R) (a0 : Nat) (a1 : Nat) (a2 : Nat) (l3 : Int32) (l4 : Int32) (M : ej_Mem) : rn jm_Hunt_passOne cl 40 [some (.ref a0), some (.ref a1), some (.ref a2), some (.int l3), some (.int l4)] [] M =
    ckk (mC M a1 = 3) (deR (mR M a1 1) fun q1 => ckk (mC M q1 = 100) (ckb (0 : Int32) (mN M q1) ((if (aI M q1 (Int32.toNatClampNeg (0 : Int32))) ≤ l4 then
      (ckk (mC M a0 = 1) ((if (mI M a0 7) = (1 : Int32) then
        (ckk (mC M a0 = 1) (ckk (mC M a0 = 1) ((if (mI M a0 6) < (mI M a0 5) then
          (some (none, M)) else
          (ckk (mC M a0 = 1) (some (none, (setI M a0 7 (3 : Int32))))))))) else
        (some (none, M))))) else
      (ckk (mC M a0 = 1) ((if (mI M a0 7) = (1 : Int32) then
        (ckk (mC M a2 = 6) ((if (lg_cmp ((ej_ls 1 (mL M a2 2) l4) &&& (1 : Int64)) (0 : Int64)) = (0 : Int32) then
          (rn jm_Hunt_passOne cl 40 [some (.ref a0), some (.ref a1), some (.ref a2), some (.int l3), some (.int (l4 + (1 : Int32)))] [] M) else
          (ckk (mC M a0 = 1) (bkV (cl jm_Hunt_tryMove [.ref a0, .ref a1, .ref a2, .int l4, .int l3] M) fun M2 =>
          rn jm_Hunt_passOne cl 40 [some (.ref a0), some (.ref a1), some (.ref a2), some (.int l3), some (.int (l4 + (1 : Int32)))] [] M2))))) else
        (ckk (mC M a0 = 1) ((if (mI M a0 7) = (1 : Int32) then
          (ckk (mC M a0 = 1) (ckk (mC M a0 = 1) ((if (mI M a0 6) < (mI M a0 5) then
            (some (none, M)) else
            (ckk (mC M a0 = 1) (some (none, (setI M a0 7 (3 : Int32))))))))) else
          (some (none, M)))))))))))) :=
  tr_eq [40] 28 rfl
theorem ca_Hunt_passOne (d : Nat) (a0 : Nat) (a1 : Nat) (a2 : Nat) (M : ej_Mem) : cal (d + 1) jm_Hunt_passOne [.ref a0, .ref a1, .ref a2] M = rn jm_Hunt_passOne (cal d) 0 [some (.ref a0), some (.ref a1), some (.ref a2), none, none] [] M := call_eq (show 3 ≤ 5 by decide)
set_option maxRecDepth 100000 in
theorem eq_Hunt_tryMove_0 (cl : Nat → List Value → ej_Mem → Option ej_R) (a0 : Nat) (a1 : Nat) (a2 : Nat) (l3 : Int32) (l4 : Int32) (M : ej_Mem) : rn jm_Hunt_tryMove cl 0 [some (.ref a0), some (.ref a1), some (.ref a2), some (.int l3), some (.int l4), none, none] [] M =
    ckk (mC M a1 = 3) (bkQ (cl jm_Land_writ [.ref a1, .int (0 : Int32), .int l3] M)
      (fun M1 => some (none, M1))
      (fun q2 M3 => ckk (mC M3 q2 = 7) (bkI (cl jm_Writ_changed [.ref q2, .int l4] M3) fun x5 M4 =>
      (if x5 = l4 then
        (some (none, M4)) else
        (ckk (mC M4 q2 = 7) (ckk (mC M4 q2 = 7) (bkI (cl jm_Writ_isTrue [.ref q2, .int (mI M4 q2 5), .int l4] M4) fun x7 M6 =>
        (if x7 = (0 : Int32) then
          (some (none, M6)) else
          (ckk (mC M6 a0 = 1) (bkI (cl jm_Hunt_placeOf [.ref a0, .int x5] M6) fun x9 M8 =>
          (if x9 = (-1 : Int32) then
            (ckk (mC M8 a2 = 6) ((if (mI M8 a2 4) = (65535 : Int32) then
              (ckk (mC M8 a1 = 3) (bkI (cl jm_Land_isStopped [.ref a1, .int x5, .ref a2] M8) fun x11 M10 =>
              (if x11 = (0 : Int32) then
                (ckk (mC M10 a0 = 1) (ckk (mC M10 a2 = 6) (deQ (mR M10 a2 1)
                  (ckk (mC M10 a0 = 1) (bkV (cl jm_Hunt_meet [.ref a0, .int x5, .int ((((mI M10 a0 6) - (1 : Int32)) * (64 : Int32)) + l3), .null] M10) fun M13 =>
                  some (none, M13)))
                  (fun q12 => ckk (mC M10 a0 = 1) (bkV (cl jm_Hunt_meet [.ref a0, .int x5, .int ((((mI M10 a0 6) - (1 : Int32)) * (64 : Int32)) + l3), .ref q12] M10) fun M14 =>
                  some (none, M14)))))) else
                (some (none, M10))))) else
              (ckk (mC M8 q2 = 7) (bkI (cl jm_Writ_turners [.ref q2, .int l4] M8) fun x16 M15 =>
              ckk (mC M15 a2 = 6) ((if (x16 &&& ((mI M15 a2 4) ^^^ (-1 : Int32))) = (0 : Int32) then
                (ckk (mC M15 a1 = 3) (bkI (cl jm_Land_isStopped [.ref a1, .int x5, .ref a2] M15) fun x18 M17 =>
                (if x18 = (0 : Int32) then
                  (ckk (mC M17 a0 = 1) (ckk (mC M17 a2 = 6) (deQ (mR M17 a2 1)
                    (ckk (mC M17 a0 = 1) (bkV (cl jm_Hunt_meet [.ref a0, .int x5, .int ((((mI M17 a0 6) - (1 : Int32)) * (64 : Int32)) + l3), .null] M17) fun M20 =>
                    some (none, M20)))
                    (fun q19 => ckk (mC M17 a0 = 1) (bkV (cl jm_Hunt_meet [.ref a0, .int x5, .int ((((mI M17 a0 6) - (1 : Int32)) * (64 : Int32)) + l3), .ref q19] M17) fun M21 =>
                    some (none, M21)))))) else
                  (some (none, M17))))) else
                (some (none, M15))))))))) else
            (some (none, M8))))))))))))) :=
  tr_eq [] 57 rfl
theorem ca_Hunt_tryMove (d : Nat) (a0 : Nat) (a1 : Nat) (a2 : Nat) (l3 : Int32) (l4 : Int32) (M : ej_Mem) : cal (d + 1) jm_Hunt_tryMove [.ref a0, .ref a1, .ref a2, .int l3, .int l4] M = rn jm_Hunt_tryMove (cal d) 0 [some (.ref a0), some (.ref a1), some (.ref a2), some (.int l3), some (.int l4), none, none] [] M := call_eq (show 5 ≤ 7 by decide)
set_option maxRecDepth 100000 in
theorem eq_Hunt_meet_0 (cl : Nat → List Value → ej_Mem → Option ej_R) (a0 : Nat) (l1 : Int32) (l2 : Int32) (a3 : Nat) (M : ej_Mem) : rn jm_Hunt_meet cl 0 [some (.ref a0), some (.int l1), some (.int l2), some (.ref a3)] [] M =
    ckk (mC M a0 = 1) (ckk (mC M a0 = 1) ((if (mI M a0 5) < (mI M a0 0) then
      (ckk (mC M a0 = 1) (deR (mR M a0 4) fun q1 => ckk (mC M a0 = 1) (bkI (cl jm_Hunt_slotOf [.ref a0, .int l1] M) fun x3 M2 =>
      ckk (mC M2 a0 = 1) (ckk (mC M2 q1 = 100) (ckb x3 (mN M2 q1) (ckk (mC (setA M2 q1 (Int32.toNatClampNeg x3) ((mI M2 a0 5) + (1 : Int32))) a0 = 1) (deR (mR (setA M2 q1 (Int32.toNatClampNeg x3) ((mI M2 a0 5) + (1 : Int32))) a0 2) fun q4 => ckk (mC (setA M2 q1 (Int32.toNatClampNeg x3) ((mI M2 a0 5) + (1 : Int32))) a0 = 1) (ckk (mC (setA M2 q1 (Int32.toNatClampNeg x3) ((mI M2 a0 5) + (1 : Int32))) q4 = 100) (ckb (mI (setA M2 q1 (Int32.toNatClampNeg x3) ((mI M2 a0 5) + (1 : Int32))) a0 5) (mN (setA M2 q1 (Int32.toNatClampNeg x3) ((mI M2 a0 5) + (1 : Int32))) q4) (ckk (mC (setA (setA M2 q1 (Int32.toNatClampNeg x3) ((mI M2 a0 5) + (1 : Int32))) q4 (Int32.toNatClampNeg (mI (setA M2 q1 (Int32.toNatClampNeg x3) ((mI M2 a0 5) + (1 : Int32))) a0 5)) l1) a0 = 1) (deR (mR (setA (setA M2 q1 (Int32.toNatClampNeg x3) ((mI M2 a0 5) + (1 : Int32))) q4 (Int32.toNatClampNeg (mI (setA M2 q1 (Int32.toNatClampNeg x3) ((mI M2 a0 5) + (1 : Int32))) a0 5)) l1) a0 3) fun q5 => ckk (mC (setA (setA M2 q1 (Int32.toNatClampNeg x3) ((mI M2 a0 5) + (1 : Int32))) q4 (Int32.toNatClampNeg (mI (setA M2 q1 (Int32.toNatClampNeg x3) ((mI M2 a0 5) + (1 : Int32))) a0 5)) l1) a0 = 1) (ckk (mC (setA (setA M2 q1 (Int32.toNatClampNeg x3) ((mI M2 a0 5) + (1 : Int32))) q4 (Int32.toNatClampNeg (mI (setA M2 q1 (Int32.toNatClampNeg x3) ((mI M2 a0 5) + (1 : Int32))) a0 5)) l1) q5 = 100) (ckb (mI (setA (setA M2 q1 (Int32.toNatClampNeg x3) ((mI M2 a0 5) + (1 : Int32))) q4 (Int32.toNatClampNeg (mI (setA M2 q1 (Int32.toNatClampNeg x3) ((mI M2 a0 5) + (1 : Int32))) a0 5)) l1) a0 5) (mN (setA (setA M2 q1 (Int32.toNatClampNeg x3) ((mI M2 a0 5) + (1 : Int32))) q4 (Int32.toNatClampNeg (mI (setA M2 q1 (Int32.toNatClampNeg x3) ((mI M2 a0 5) + (1 : Int32))) a0 5)) l1) q5) (ckk (mC (setA (setA (setA M2 q1 (Int32.toNatClampNeg x3) ((mI M2 a0 5) + (1 : Int32))) q4 (Int32.toNatClampNeg (mI (setA M2 q1 (Int32.toNatClampNeg x3) ((mI M2 a0 5) + (1 : Int32))) a0 5)) l1) q5 (Int32.toNatClampNeg (mI (setA (setA M2 q1 (Int32.toNatClampNeg x3) ((mI M2 a0 5) + (1 : Int32))) q4 (Int32.toNatClampNeg (mI (setA M2 q1 (Int32.toNatClampNeg x3) ((mI M2 a0 5) + (1 : Int32))) a0 5)) l1) a0 5)) l2) a0 = 1) (ckk (mC (setA (setA (setA M2 q1 (Int32.toNatClampNeg x3) ((mI M2 a0 5) + (1 : Int32))) q4 (Int32.toNatClampNeg (mI (setA M2 q1 (Int32.toNatClampNeg x3) ((mI M2 a0 5) + (1 : Int32))) a0 5)) l1) q5 (Int32.toNatClampNeg (mI (setA (setA M2 q1 (Int32.toNatClampNeg x3) ((mI M2 a0 5) + (1 : Int32))) q4 (Int32.toNatClampNeg (mI (setA M2 q1 (Int32.toNatClampNeg x3) ((mI M2 a0 5) + (1 : Int32))) a0 5)) l1) a0 5)) l2) a0 = 1) (ckk (mC (setI (setA (setA (setA M2 q1 (Int32.toNatClampNeg x3) ((mI M2 a0 5) + (1 : Int32))) q4 (Int32.toNatClampNeg (mI (setA M2 q1 (Int32.toNatClampNeg x3) ((mI M2 a0 5) + (1 : Int32))) a0 5)) l1) q5 (Int32.toNatClampNeg (mI (setA (setA M2 q1 (Int32.toNatClampNeg x3) ((mI M2 a0 5) + (1 : Int32))) q4 (Int32.toNatClampNeg (mI (setA M2 q1 (Int32.toNatClampNeg x3) ((mI M2 a0 5) + (1 : Int32))) a0 5)) l1) a0 5)) l2) a0 5 ((mI (setA (setA (setA M2 q1 (Int32.toNatClampNeg x3) ((mI M2 a0 5) + (1 : Int32))) q4 (Int32.toNatClampNeg (mI (setA M2 q1 (Int32.toNatClampNeg x3) ((mI M2 a0 5) + (1 : Int32))) a0 5)) l1) q5 (Int32.toNatClampNeg (mI (setA (setA M2 q1 (Int32.toNatClampNeg x3) ((mI M2 a0 5) + (1 : Int32))) q4 (Int32.toNatClampNeg (mI (setA M2 q1 (Int32.toNatClampNeg x3) ((mI M2 a0 5) + (1 : Int32))) a0 5)) l1) a0 5)) l2) a0 5) + (1 : Int32))) a3 = 7) (ckk (mC (setI (setA (setA (setA M2 q1 (Int32.toNatClampNeg x3) ((mI M2 a0 5) + (1 : Int32))) q4 (Int32.toNatClampNeg (mI (setA M2 q1 (Int32.toNatClampNeg x3) ((mI M2 a0 5) + (1 : Int32))) a0 5)) l1) q5 (Int32.toNatClampNeg (mI (setA (setA M2 q1 (Int32.toNatClampNeg x3) ((mI M2 a0 5) + (1 : Int32))) q4 (Int32.toNatClampNeg (mI (setA M2 q1 (Int32.toNatClampNeg x3) ((mI M2 a0 5) + (1 : Int32))) a0 5)) l1) a0 5)) l2) a0 5 ((mI (setA (setA (setA M2 q1 (Int32.toNatClampNeg x3) ((mI M2 a0 5) + (1 : Int32))) q4 (Int32.toNatClampNeg (mI (setA M2 q1 (Int32.toNatClampNeg x3) ((mI M2 a0 5) + (1 : Int32))) a0 5)) l1) q5 (Int32.toNatClampNeg (mI (setA (setA M2 q1 (Int32.toNatClampNeg x3) ((mI M2 a0 5) + (1 : Int32))) q4 (Int32.toNatClampNeg (mI (setA M2 q1 (Int32.toNatClampNeg x3) ((mI M2 a0 5) + (1 : Int32))) a0 5)) l1) a0 5)) l2) a0 5) + (1 : Int32))) a3 = 7) (bkI (cl jm_Writ_isTrue [.ref a3, .int (mI (setI (setA (setA (setA M2 q1 (Int32.toNatClampNeg x3) ((mI M2 a0 5) + (1 : Int32))) q4 (Int32.toNatClampNeg (mI (setA M2 q1 (Int32.toNatClampNeg x3) ((mI M2 a0 5) + (1 : Int32))) a0 5)) l1) q5 (Int32.toNatClampNeg (mI (setA (setA M2 q1 (Int32.toNatClampNeg x3) ((mI M2 a0 5) + (1 : Int32))) q4 (Int32.toNatClampNeg (mI (setA M2 q1 (Int32.toNatClampNeg x3) ((mI M2 a0 5) + (1 : Int32))) a0 5)) l1) a0 5)) l2) a0 5 ((mI (setA (setA (setA M2 q1 (Int32.toNatClampNeg x3) ((mI M2 a0 5) + (1 : Int32))) q4 (Int32.toNatClampNeg (mI (setA M2 q1 (Int32.toNatClampNeg x3) ((mI M2 a0 5) + (1 : Int32))) a0 5)) l1) q5 (Int32.toNatClampNeg (mI (setA (setA M2 q1 (Int32.toNatClampNeg x3) ((mI M2 a0 5) + (1 : Int32))) q4 (Int32.toNatClampNeg (mI (setA M2 q1 (Int32.toNatClampNeg x3) ((mI M2 a0 5) + (1 : Int32))) a0 5)) l1) a0 5)) l2) a0 5) + (1 : Int32))) a3 5), .int l1] (setI (setA (setA (setA M2 q1 (Int32.toNatClampNeg x3) ((mI M2 a0 5) + (1 : Int32))) q4 (Int32.toNatClampNeg (mI (setA M2 q1 (Int32.toNatClampNeg x3) ((mI M2 a0 5) + (1 : Int32))) a0 5)) l1) q5 (Int32.toNatClampNeg (mI (setA (setA M2 q1 (Int32.toNatClampNeg x3) ((mI M2 a0 5) + (1 : Int32))) q4 (Int32.toNatClampNeg (mI (setA M2 q1 (Int32.toNatClampNeg x3) ((mI M2 a0 5) + (1 : Int32))) a0 5)) l1) a0 5)) l2) a0 5 ((mI (setA (setA (setA M2 q1 (Int32.toNatClampNeg x3) ((mI M2 a0 5) + (1 : Int32))) q4 (Int32.toNatClampNeg (mI (setA M2 q1 (Int32.toNatClampNeg x3) ((mI M2 a0 5) + (1 : Int32))) a0 5)) l1) q5 (Int32.toNatClampNeg (mI (setA (setA M2 q1 (Int32.toNatClampNeg x3) ((mI M2 a0 5) + (1 : Int32))) q4 (Int32.toNatClampNeg (mI (setA M2 q1 (Int32.toNatClampNeg x3) ((mI M2 a0 5) + (1 : Int32))) a0 5)) l1) a0 5)) l2) a0 5) + (1 : Int32)))) fun x7 M6 =>
      (if x7 = (0 : Int32) then
        (some (none, M6)) else
        (ckk (mC M6 a0 = 1) (some (none, (setI M6 a0 7 (2 : Int32)))))))))))))))))))))))) else
      (ckk (mC M a0 = 1) (some (none, (setI M a0 7 (4 : Int32)))))))) :=
  tr_eq [] 45 rfl
theorem ca_Hunt_meet (d : Nat) (a0 : Nat) (l1 : Int32) (l2 : Int32) (a3 : Nat) (M : ej_Mem) : cal (d + 1) jm_Hunt_meet [.ref a0, .int l1, .int l2, .ref a3] M = rn jm_Hunt_meet (cal d) 0 [some (.ref a0), some (.int l1), some (.int l2), some (.ref a3)] [] M := call_eq (show 4 ≤ 4 by decide)
set_option maxRecDepth 100000 in
theorem eq_Hunt_placeOf_0 (cl : Nat → List Value → ej_Mem → Option ej_R) (a0 : Nat) (l1 : Int32) (M : ej_Mem) : rn jm_Hunt_placeOf cl 0 [some (.ref a0), some (.int l1)] [] M =
    ckk (mC M a0 = 1) (deR (mR M a0 4) fun q1 => ckk (mC M a0 = 1) (bkI (cl jm_Hunt_slotOf [.ref a0, .int l1] M) fun x3 M2 =>
    ckk (mC M2 q1 = 100) (ckb x3 (mN M2 q1) (some (some (.int ((aI M2 q1 (Int32.toNatClampNeg x3)) - (1 : Int32))), M2))))) :=
  tr_eq [] 9 rfl
theorem ca_Hunt_placeOf (d : Nat) (a0 : Nat) (l1 : Int32) (M : ej_Mem) : cal (d + 1) jm_Hunt_placeOf [.ref a0, .int l1] M = rn jm_Hunt_placeOf (cal d) 0 [some (.ref a0), some (.int l1)] [] M := call_eq (show 2 ≤ 2 by decide)
set_option maxRecDepth 100000 in
theorem eq_Hunt_slotOf_0 (cl : Nat → List Value → ej_Mem → Option ej_R) (a0 : Nat) (l1 : Int32) (M : ej_Mem) : rn jm_Hunt_slotOf cl 0 [some (.ref a0), some (.int l1), none, none, none] [] M =
    ckk (mC M a0 = 1) (rn jm_Hunt_slotOf cl 12 [some (.ref a0), some (.int l1), some (.int (ej_bin 8 (l1 * (-1640531527 : Int32)) (mI M a0 1))), some (.int (0 : Int32)), none] [] M) :=
  tr_eq [12] 10 rfl
set_option maxRecDepth 100000 in
theorem eq_Hunt_slotOf_12 (cl : Nat → List Value → ej_Mem → Option ej_R) (a0 : Nat) (l1 : Int32) (l2 : Int32) (l3 : Int32) (o4 : Option Value) (M : ej_Mem) : rn jm_Hunt_slotOf cl 12 [some (.ref a0), some (.int l1), some (.int l2), some (.int l3), o4] [] M =
    ckk (mC M a0 = 1) (deR (mR M a0 4) fun q1 => ckk (100 ≤ mC M q1 ∧ mC M q1 ≤ 104) ((if (Int32.ofNat (mN M q1)) ≤ l3 then
      (some (some (.int l2), M)) else
      (ckk (mC M a0 = 1) (deR (mR M a0 4) fun q2 => ckk (mC M q2 = 100) (ckb l2 (mN M q2) ((if ((aI M q2 (Int32.toNatClampNeg l2)) - (1 : Int32)) < (0 : Int32) then
        (some (some (.int l2), M)) else
        (ckk (mC M a0 = 1) (deR (mR M a0 2) fun q3 => ckk (mC M q3 = 100) (ckb ((aI M q2 (Int32.toNatClampNeg l2)) - (1 : Int32)) (mN M q3) ((if (aI M q3 (Int32.toNatClampNeg ((aI M q2 (Int32.toNatClampNeg l2)) - (1 : Int32)))) = l1 then
          (some (some (.int l2), M)) else
          (ckk (mC M a0 = 1) (deR (mR M a0 4) fun q4 => ckk (100 ≤ mC M q4 ∧ mC M q4 ≤ 104) ((if (Int32.ofNat (mN M q4)) ≤ (l2 + (1 : Int32)) then
            (rn jm_Hunt_slotOf cl 12 [some (.ref a0), some (.int l1), some (.int (0 : Int32)), some (.int (l3 + (1 : Int32))), some (.int ((aI M q2 (Int32.toNatClampNeg l2)) - (1 : Int32)))] [] M) else
            (rn jm_Hunt_slotOf cl 12 [some (.ref a0), some (.int l1), some (.int (l2 + (1 : Int32))), some (.int (l3 + (1 : Int32))), some (.int ((aI M q2 (Int32.toNatClampNeg l2)) - (1 : Int32)))] [] M)))))))))))))))))) :=
  tr_eq [12] 35 rfl
theorem ca_Hunt_slotOf (d : Nat) (a0 : Nat) (l1 : Int32) (M : ej_Mem) : cal (d + 1) jm_Hunt_slotOf [.ref a0, .int l1] M = rn jm_Hunt_slotOf (cal d) 0 [some (.ref a0), some (.int l1), none, none, none] [] M := call_eq (show 2 ≤ 5 by decide)
set_option maxRecDepth 100000 in
theorem eq_Hunt_rowLength_0 (cl : Nat → List Value → ej_Mem → Option ej_R) (a0 : Nat) (M : ej_Mem) : rn jm_Hunt_rowLength cl 0 [some (.ref a0), none, none] [] M =
    ckk (mC M a0 = 1) ((if (mI M a0 7) = (2 : Int32) then
      (ckk (mC M a0 = 1) (rn jm_Hunt_rowLength cl 19 [some (.ref a0), some (.int (0 : Int32)), some (.int ((mI M a0 5) - (1 : Int32)))] [] M)) else
      (some (some (.int (-1 : Int32)), M)))) :=
  tr_eq [19] 12 rfl
set_option maxRecDepth 100000 in
theorem eq_Hunt_rowLength_19 (cl : Nat → List Value → ej_Mem → Option ej_R) (a0 : Nat) (l1 : Int32) (l2 : Int32) (M : ej_Mem) : rn jm_Hunt_rowLength cl 19 [some (.ref a0), some (.int l1), some (.int l2)] [] M =
    (if l2 ≤ (0 : Int32) then
      (some (some (.int l1), M)) else
      (ckk (mC M a0 = 1) ((if (mI M a0 5) ≤ l1 then
        (some (some (.int l1), M)) else
        (ckk (mC M a0 = 1) (deR (mR M a0 3) fun q1 => ckk (mC M q1 = 100) (ckb l2 (mN M q1) (ckk (¬ (64 : Int32) = 0) (rn jm_Hunt_rowLength cl 19 [some (.ref a0), some (.int (l1 + (1 : Int32))), some (.int ((aI M q1 (Int32.toNatClampNeg l2)) / (64 : Int32)))] [] M))))))))) :=
  tr_eq [19] 16 rfl
theorem ca_Hunt_rowLength (d : Nat) (a0 : Nat) (M : ej_Mem) : cal (d + 1) jm_Hunt_rowLength [.ref a0] M = rn jm_Hunt_rowLength (cal d) 0 [some (.ref a0), none, none] [] M := call_eq (show 1 ≤ 3 by decide)
set_option maxRecDepth 100000 in
theorem eq_Hunt_moveOfRow_0 (cl : Nat → List Value → ej_Mem → Option ej_R) (a0 : Nat) (l1 : Int32) (M : ej_Mem) : rn jm_Hunt_moveOfRow cl 0 [some (.ref a0), some (.int l1), none, none, none] [] M =
    ckk (mC M a0 = 1) (bkI (cl jm_Hunt_rowLength [.ref a0] M) fun x2 M1 =>
    (if l1 < (0 : Int32) then
      (some (some (.int (-1 : Int32)), M1)) else
      ((if (0 : Int32) < (x2 - l1) then
        (ckk (mC M1 a0 = 1) (rn jm_Hunt_moveOfRow cl 27 [some (.ref a0), some (.int l1), some (.int (x2 - l1)), some (.int ((mI M1 a0 5) - (1 : Int32))), some (.int (1 : Int32))] [] M1)) else
        (some (some (.int (-1 : Int32)), M1)))))) :=
  tr_eq [27] 17 rfl
set_option maxRecDepth 100000 in
theorem eq_Hunt_moveOfRow_27 (cl : Nat → List Value → ej_Mem → Option ej_R) (a0 : Nat) (l1 : Int32) (l2 : Int32) (l3 : Int32) (l4 : Int32) (M : ej_Mem) : rn jm_Hunt_moveOfRow cl 27 [some (.ref a0), some (.int l1), some (.int l2), some (.int l3), some (.int l4)] [] M =
    (if l2 ≤ l4 then
      ((if l3 ≤ (0 : Int32) then
        (some (some (.int (-1 : Int32)), M)) else
        (ckk (mC M a0 = 1) (deR (mR M a0 3) fun q1 => ckk (mC M q1 = 100) (ckb l3 (mN M q1) (ckk (¬ (64 : Int32) = 0) (some (some (.int ((aI M q1 (Int32.toNatClampNeg l3)) - (aI M q1 (Int32.toNatClampNeg l3)) / (64 : Int32) * (64 : Int32))), M)))))))) else
      ((if l3 ≤ (0 : Int32) then
        ((if l3 ≤ (0 : Int32) then
          (some (some (.int (-1 : Int32)), M)) else
          (ckk (mC M a0 = 1) (deR (mR M a0 3) fun q2 => ckk (mC M q2 = 100) (ckb l3 (mN M q2) (ckk (¬ (64 : Int32) = 0) (some (some (.int ((aI M q2 (Int32.toNatClampNeg l3)) - (aI M q2 (Int32.toNatClampNeg l3)) / (64 : Int32) * (64 : Int32))), M)))))))) else
        (ckk (mC M a0 = 1) (deR (mR M a0 3) fun q3 => ckk (mC M q3 = 100) (ckb l3 (mN M q3) (ckk (¬ (64 : Int32) = 0) (rn jm_Hunt_moveOfRow cl 27 [some (.ref a0), some (.int l1), some (.int l2), some (.int ((aI M q3 (Int32.toNatClampNeg l3)) / (64 : Int32))), some (.int (l4 + (1 : Int32)))] [] M)))))))) :=
  tr_eq [27] 15 rfl
theorem ca_Hunt_moveOfRow (d : Nat) (a0 : Nat) (l1 : Int32) (M : ej_Mem) : cal (d + 1) jm_Hunt_moveOfRow [.ref a0, .int l1] M = rn jm_Hunt_moveOfRow (cal d) 0 [some (.ref a0), some (.int l1), none, none, none] [] M := call_eq (show 2 ≤ 5 by decide)
set_option maxRecDepth 100000 in
theorem eq_Hunt_movesOfRow_0 (cl : Nat → List Value → ej_Mem → Option ej_R) (a0 : Nat) (M : ej_Mem) : rn jm_Hunt_movesOfRow cl 0 [some (.ref a0), none, none, none, none] [] M =
    ckk (mC M a0 = 1) (rn jm_Hunt_movesOfRow cl 12 [some (.ref a0), some (.long (0 : Int64)), none, some (.int ((mI M a0 5) - (1 : Int32))), some (.int (0 : Int32))] [] M) :=
  tr_eq [12, 21, 25, 27, 33, 35, 36, 37, 45, 47, 48, 55] 10 rfl
set_option maxRecDepth 100000 in
theorem eq_Hunt_movesOfRow_12 (cl : Nat → List Value → ej_Mem → Option ej_R) (a0 : Nat) (l1 : Int64) (l3 : Int32) (l4 : Int32) (M : ej_Mem) : rn jm_Hunt_movesOfRow cl 12 [some (.ref a0), some (.long l1), none, some (.int l3), some (.int l4)] [] M =
    ckk (mC M a0 = 1) ((if (mI M a0 5) ≤ l4 then
      (rn jm_Hunt_movesOfRow cl 55 [some (.ref a0), some (.long l1), none, some (.int l3), some (.int l4)] [] M) else
      (rn jm_Hunt_movesOfRow cl 21 [some (.ref a0), some (.long l1), none, some (.int l3), some (.int l4)] [] M))) :=
  tr_eq [12, 21, 25, 27, 33, 35, 36, 37, 45, 47, 48, 55] 5 rfl
set_option maxRecDepth 100000 in
theorem eq_Hunt_movesOfRow_21 (cl : Nat → List Value → ej_Mem → Option ej_R) (a0 : Nat) (l1 : Int64) (l3 : Int32) (l4 : Int32) (M : ej_Mem) : rn jm_Hunt_movesOfRow cl 21 [some (.ref a0), some (.long l1), none, some (.int l3), some (.int l4)] [] M =
    (if l3 ≤ (0 : Int32) then
      (rn jm_Hunt_movesOfRow cl 55 [some (.ref a0), some (.long l1), none, some (.int l3), some (.int l4)] [] M) else
      (rn jm_Hunt_movesOfRow cl 25 [some (.ref a0), some (.long l1), none, some (.int l3), some (.int l4)] [] M)) :=
  tr_eq [12, 21, 25, 27, 33, 35, 36, 37, 45, 47, 48, 55] 3 rfl
set_option maxRecDepth 100000 in
theorem eq_Hunt_movesOfRow_25 (cl : Nat → List Value → ej_Mem → Option ej_R) (a0 : Nat) (l1 : Int64) (l3 : Int32) (l4 : Int32) (M : ej_Mem) : rn jm_Hunt_movesOfRow cl 25 [some (.ref a0), some (.long l1), none, some (.int l3), some (.int l4)] [] M =
    rn jm_Hunt_movesOfRow cl 27 [some (.ref a0), some (.long l1), none, some (.int l3), some (.int l4)] [.long (1 : Int64), .long l1] M :=
  tr_eq [12, 21, 25, 27, 33, 35, 36, 37, 45, 47, 48, 55] 3 rfl
set_option maxRecDepth 100000 in
theorem eq_Hunt_movesOfRow_27 (cl : Nat → List Value → ej_Mem → Option ej_R) (a0 : Nat) (l1 : Int64) (l3 : Int32) (l4 : Int32) (s0 : Int64) (s1 : Int64) (M : ej_Mem) : rn jm_Hunt_movesOfRow cl 27 [some (.ref a0), some (.long l1), none, some (.int l3), some (.int l4)] [.long s1, .long s0] M =
    ckk (mC M a0 = 1) (deR (mR M a0 3) fun q1 => ckk (mC M q1 = 100) (ckb l3 (mN M q1) (rn jm_Hunt_movesOfRow cl 33 [some (.ref a0), some (.long l1), none, some (.int l3), some (.int l4)] [.int (aI M q1 (Int32.toNatClampNeg l3)), .long s1, .long s0] M))) :=
  tr_eq [12, 21, 25, 27, 33, 35, 36, 37, 45, 47, 48, 55] 5 rfl
set_option maxRecDepth 100000 in
theorem eq_Hunt_movesOfRow_33 (cl : Nat → List Value → ej_Mem → Option ej_R) (a0 : Nat) (l1 : Int64) (l3 : Int32) (l4 : Int32) (s0 : Int64) (s1 : Int64) (s2 : Int32) (M : ej_Mem) : rn jm_Hunt_movesOfRow cl 33 [some (.ref a0), some (.long l1), none, some (.int l3), some (.int l4)] [.int s2, .long s1, .long s0] M =
    rn jm_Hunt_movesOfRow cl 35 [some (.ref a0), some (.long l1), none, some (.int l3), some (.int l4)] [.int (64 : Int32), .int s2, .long s1, .long s0] M :=
  tr_eq [12, 21, 25, 27, 33, 35, 36, 37, 45, 47, 48, 55] 2 rfl
set_option maxRecDepth 100000 in
theorem eq_Hunt_movesOfRow_35 (cl : Nat → List Value → ej_Mem → Option ej_R) (a0 : Nat) (l1 : Int64) (l3 : Int32) (l4 : Int32) (s0 : Int64) (s1 : Int64) (s2 : Int32) (s3 : Int32) (M : ej_Mem) : rn jm_Hunt_movesOfRow cl 35 [some (.ref a0), some (.long l1), none, some (.int l3), some (.int l4)] [.int s3, .int s2, .long s1, .long s0] M =
    ckk (¬ s3 = 0) (rn jm_Hunt_movesOfRow cl 36 [some (.ref a0), some (.long l1), none, some (.int l3), some (.int l4)] [.int (s2 - s2 / s3 * s3), .long s1, .long s0] M) :=
  tr_eq [12, 21, 25, 27, 33, 35, 36, 37, 45, 47, 48, 55] 2 rfl
set_option maxRecDepth 100000 in
theorem eq_Hunt_movesOfRow_36 (cl : Nat → List Value → ej_Mem → Option ej_R) (a0 : Nat) (l1 : Int64) (l3 : Int32) (l4 : Int32) (s0 : Int64) (s1 : Int64) (s2 : Int32) (M : ej_Mem) : rn jm_Hunt_movesOfRow cl 36 [some (.ref a0), some (.long l1), none, some (.int l3), some (.int l4)] [.int s2, .long s1, .long s0] M =
    rn jm_Hunt_movesOfRow cl 37 [some (.ref a0), some (.long l1), none, some (.int l3), some (.int l4)] [.long (ej_ls 0 s1 s2), .long s0] M :=
  tr_eq [12, 21, 25, 27, 33, 35, 36, 37, 45, 47, 48, 55] 2 rfl
set_option maxRecDepth 100000 in
theorem eq_Hunt_movesOfRow_37 (cl : Nat → List Value → ej_Mem → Option ej_R) (a0 : Nat) (l1 : Int64) (l3 : Int32) (l4 : Int32) (s0 : Int64) (s1 : Int64) (M : ej_Mem) : rn jm_Hunt_movesOfRow cl 37 [some (.ref a0), some (.long l1), none, some (.int l3), some (.int l4)] [.long s1, .long s0] M =
    ckk (mC M a0 = 1) (deR (mR M a0 3) fun q1 => ckk (mC M q1 = 100) (ckb l3 (mN M q1) (rn jm_Hunt_movesOfRow cl 45 [some (.ref a0), some (.long (s0 ||| s1)), none, some (.int l3), some (.int l4)] [.int (aI M q1 (Int32.toNatClampNeg l3))] M))) :=
  tr_eq [12, 21, 25, 27, 33, 35, 36, 37, 45, 47, 48, 55] 7 rfl
set_option maxRecDepth 100000 in
theorem eq_Hunt_movesOfRow_45 (cl : Nat → List Value → ej_Mem → Option ej_R) (a0 : Nat) (l1 : Int64) (l3 : Int32) (l4 : Int32) (s0 : Int32) (M : ej_Mem) : rn jm_Hunt_movesOfRow cl 45 [some (.ref a0), some (.long l1), none, some (.int l3), some (.int l4)] [.int s0] M =
    rn jm_Hunt_movesOfRow cl 47 [some (.ref a0), some (.long l1), none, some (.int l3), some (.int l4)] [.int (64 : Int32), .int s0] M :=
  tr_eq [12, 21, 25, 27, 33, 35, 36, 37, 45, 47, 48, 55] 2 rfl
set_option maxRecDepth 100000 in
theorem eq_Hunt_movesOfRow_47 (cl : Nat → List Value → ej_Mem → Option ej_R) (a0 : Nat) (l1 : Int64) (l3 : Int32) (l4 : Int32) (s0 : Int32) (s1 : Int32) (M : ej_Mem) : rn jm_Hunt_movesOfRow cl 47 [some (.ref a0), some (.long l1), none, some (.int l3), some (.int l4)] [.int s1, .int s0] M =
    ckk (¬ s1 = 0) (rn jm_Hunt_movesOfRow cl 48 [some (.ref a0), some (.long l1), none, some (.int l3), some (.int l4)] [.int (s0 / s1)] M) :=
  tr_eq [12, 21, 25, 27, 33, 35, 36, 37, 45, 47, 48, 55] 2 rfl
set_option maxRecDepth 100000 in
theorem eq_Hunt_movesOfRow_48 (cl : Nat → List Value → ej_Mem → Option ej_R) (a0 : Nat) (l1 : Int64) (l3 : Int32) (l4 : Int32) (s0 : Int32) (M : ej_Mem) : rn jm_Hunt_movesOfRow cl 48 [some (.ref a0), some (.long l1), none, some (.int l3), some (.int l4)] [.int s0] M =
    rn jm_Hunt_movesOfRow cl 12 [some (.ref a0), some (.long l1), none, some (.int s0), some (.int (l4 + (1 : Int32)))] [] M :=
  tr_eq [12, 21, 25, 27, 33, 35, 36, 37, 45, 47, 48, 55] 4 rfl
set_option maxRecDepth 100000 in
theorem eq_Hunt_movesOfRow_55 (cl : Nat → List Value → ej_Mem → Option ej_R) (a0 : Nat) (l1 : Int64) (l3 : Int32) (l4 : Int32) (M : ej_Mem) : rn jm_Hunt_movesOfRow cl 55 [some (.ref a0), some (.long l1), none, some (.int l3), some (.int l4)] [] M =
    some (some (.long l1), M) :=
  tr_eq [12, 21, 25, 27, 33, 35, 36, 37, 45, 47, 48, 55] 2 rfl
theorem ca_Hunt_movesOfRow (d : Nat) (a0 : Nat) (M : ej_Mem) : cal (d + 1) jm_Hunt_movesOfRow [.ref a0] M = rn jm_Hunt_movesOfRow (cal d) 0 [some (.ref a0), none, none, none, none] [] M := call_eq (show 1 ≤ 5 by decide)
set_option maxRecDepth 100000 in
theorem eq_Hunt_copyFrom_0 (cl : Nat → List Value → ej_Mem → Option ej_R) (a0 : Nat) (a1 : Nat) (M : ej_Mem) : rn jm_Hunt_copyFrom cl 0 [some (.ref a0), some (.ref a1)] [] M =
    ckk (mC M a1 = 1) (ckk (mC M a0 = 1) (rn jm_Hunt_copyFrom cl 8 [some (.ref a0), some (.ref a1)] [] (setI M a0 5 (mI M a1 5)))) :=
  tr_eq [8, 16, 24, 41, 58, 76] 5 rfl
set_option maxRecDepth 100000 in
theorem eq_Hunt_copyFrom_8 (cl : Nat → List Value → ej_Mem → Option ej_R) (a0 : Nat) (a1 : Nat) (M : ej_Mem) : rn jm_Hunt_copyFrom cl 8 [some (.ref a0), some (.ref a1)] [] M =
    ckk (mC M a1 = 1) (ckk (mC M a0 = 1) (rn jm_Hunt_copyFrom cl 16 [some (.ref a0), some (.ref a1)] [] (setI M a0 6 (mI M a1 6)))) :=
  tr_eq [8, 16, 24, 41, 58, 76] 5 rfl
set_option maxRecDepth 100000 in
theorem eq_Hunt_copyFrom_16 (cl : Nat → List Value → ej_Mem → Option ej_R) (a0 : Nat) (a1 : Nat) (M : ej_Mem) : rn jm_Hunt_copyFrom cl 16 [some (.ref a0), some (.ref a1)] [] M =
    ckk (mC M a1 = 1) (ckk (mC M a0 = 1) (rn jm_Hunt_copyFrom cl 24 [some (.ref a0), some (.ref a1)] [] (setI M a0 7 (mI M a1 7)))) :=
  tr_eq [8, 16, 24, 41, 58, 76] 5 rfl
set_option maxRecDepth 100000 in
theorem eq_Hunt_copyFrom_24 (cl : Nat → List Value → ej_Mem → Option ej_R) (a0 : Nat) (a1 : Nat) (M : ej_Mem) : rn jm_Hunt_copyFrom cl 24 [some (.ref a0), some (.ref a1)] [] M =
    ckk (mC M a1 = 1) (deR (mR M a1 2) fun q1 => ckk (mC M a0 = 1) (deR (mR M a0 2) fun q2 => ckk (mC M a0 = 1) (ckk (mC M q1 = 100 ∧ mC M q2 = 100 ∧ ej_cats [] ≤ 8) (ckk (¬ (0 : Int32) < 0 ∧ ¬ (0 : Int32) < 0 ∧ ¬ (mI M a0 5) < 0 ∧ (Int32.toNatClampNeg (0 : Int32)) + (Int32.toNatClampNeg (mI M a0 5)) ≤ mN M q1 ∧ (Int32.toNatClampNeg (0 : Int32)) + (Int32.toNatClampNeg (mI M a0 5)) ≤ mN M q2) (rn jm_Hunt_copyFrom cl 41 [some (.ref a0), some (.ref a1)] [] (cpyM M q1 (Int32.toNatClampNeg (0 : Int32)) q2 (Int32.toNatClampNeg (0 : Int32)) (Int32.toNatClampNeg (mI M a0 5)))))))) :=
  tr_eq [8, 16, 24, 41, 58, 76] 10 rfl
set_option maxRecDepth 100000 in
theorem eq_Hunt_copyFrom_41 (cl : Nat → List Value → ej_Mem → Option ej_R) (a0 : Nat) (a1 : Nat) (M : ej_Mem) : rn jm_Hunt_copyFrom cl 41 [some (.ref a0), some (.ref a1)] [] M =
    ckk (mC M a1 = 1) (deR (mR M a1 3) fun q1 => ckk (mC M a0 = 1) (deR (mR M a0 3) fun q2 => ckk (mC M a0 = 1) (ckk (mC M q1 = 100 ∧ mC M q2 = 100 ∧ ej_cats [] ≤ 8) (ckk (¬ (0 : Int32) < 0 ∧ ¬ (0 : Int32) < 0 ∧ ¬ (mI M a0 5) < 0 ∧ (Int32.toNatClampNeg (0 : Int32)) + (Int32.toNatClampNeg (mI M a0 5)) ≤ mN M q1 ∧ (Int32.toNatClampNeg (0 : Int32)) + (Int32.toNatClampNeg (mI M a0 5)) ≤ mN M q2) (rn jm_Hunt_copyFrom cl 58 [some (.ref a0), some (.ref a1)] [] (cpyM M q1 (Int32.toNatClampNeg (0 : Int32)) q2 (Int32.toNatClampNeg (0 : Int32)) (Int32.toNatClampNeg (mI M a0 5)))))))) :=
  tr_eq [8, 16, 24, 41, 58, 76] 10 rfl
set_option maxRecDepth 100000 in
theorem eq_Hunt_copyFrom_58 (cl : Nat → List Value → ej_Mem → Option ej_R) (a0 : Nat) (a1 : Nat) (M : ej_Mem) : rn jm_Hunt_copyFrom cl 58 [some (.ref a0), some (.ref a1)] [] M =
    ckk (mC M a1 = 1) (deR (mR M a1 4) fun q1 => ckk (mC M a0 = 1) (deR (mR M a0 4) fun q2 => ckk (mC M a0 = 1) (deR (mR M a0 4) fun q3 => ckk (100 ≤ mC M q3 ∧ mC M q3 ≤ 104) (ckk (mC M q1 = 100 ∧ mC M q2 = 100 ∧ ej_cats [] ≤ 8) (ckk (¬ (0 : Int32) < 0 ∧ ¬ (0 : Int32) < 0 ∧ ¬ (Int32.ofNat (mN M q3)) < 0 ∧ (Int32.toNatClampNeg (0 : Int32)) + (Int32.toNatClampNeg (Int32.ofNat (mN M q3))) ≤ mN M q1 ∧ (Int32.toNatClampNeg (0 : Int32)) + (Int32.toNatClampNeg (Int32.ofNat (mN M q3))) ≤ mN M q2) (rn jm_Hunt_copyFrom cl 76 [some (.ref a0), some (.ref a1)] [] (cpyM M q1 (Int32.toNatClampNeg (0 : Int32)) q2 (Int32.toNatClampNeg (0 : Int32)) (Int32.toNatClampNeg (Int32.ofNat (mN M q3)))))))))) :=
  tr_eq [8, 16, 24, 41, 58, 76] 11 rfl
set_option maxRecDepth 100000 in
theorem eq_Hunt_copyFrom_76 (cl : Nat → List Value → ej_Mem → Option ej_R) (a0 : Nat) (a1 : Nat) (M : ej_Mem) : rn jm_Hunt_copyFrom cl 76 [some (.ref a0), some (.ref a1)] [] M =
    some (none, M) :=
  tr_eq [8, 16, 24, 41, 58, 76] 1 rfl
theorem ca_Hunt_copyFrom (d : Nat) (a0 : Nat) (a1 : Nat) (M : ej_Mem) : cal (d + 1) jm_Hunt_copyFrom [.ref a0, .ref a1] M = rn jm_Hunt_copyFrom (cal d) 0 [some (.ref a0), some (.ref a1)] [] M := call_eq (show 2 ≤ 2 by decide)
set_option maxRecDepth 100000 in
theorem eq_Scal_init_0 (cl : Nat → List Value → ej_Mem → Option ej_R) (a0 : Nat) (M : ej_Mem) : rn jm_Scal_init cl 0 [some (.ref a0)] [] M =
    ckk (¬ (500 : Int32) < 0 ∧ Int32.toNatClampNeg (500 : Int32) ≤ 67108864) (ckk (mC (newM M 100 (Int32.toNatClampNeg (500 : Int32)) (Int32.toNatClampNeg (500 : Int32))) a0 = 5) (rn jm_Scal_init cl 13 [some (.ref a0)] [] (setR (newM M 100 (Int32.toNatClampNeg (500 : Int32)) (Int32.toNatClampNeg (500 : Int32))) a0 0 (some (mZ M))))) :=
  tr_eq [13, 22] 7 rfl
set_option maxRecDepth 100000 in
theorem eq_Scal_init_13 (cl : Nat → List Value → ej_Mem → Option ej_R) (a0 : Nat) (M : ej_Mem) : rn jm_Scal_init cl 13 [some (.ref a0)] [] M =
    ckk (¬ (500 : Int32) < 0 ∧ Int32.toNatClampNeg (500 : Int32) ≤ 67108864) (ckk (mC (newM M 102 (Int32.toNatClampNeg (500 : Int32)) (Int32.toNatClampNeg (500 : Int32))) a0 = 5) (rn jm_Scal_init cl 22 [some (.ref a0)] [] (setR (newM M 102 (Int32.toNatClampNeg (500 : Int32)) (Int32.toNatClampNeg (500 : Int32))) a0 1 (some (mZ M))))) :=
  tr_eq [13, 22] 5 rfl
set_option maxRecDepth 100000 in
theorem eq_Scal_init_22 (cl : Nat → List Value → ej_Mem → Option ej_R) (a0 : Nat) (M : ej_Mem) : rn jm_Scal_init cl 22 [some (.ref a0)] [] M =
    some (none, M) :=
  tr_eq [13, 22] 1 rfl
theorem ca_Scal_init (d : Nat) (a0 : Nat) (M : ej_Mem) : cal (d + 1) jm_Scal_init [.ref a0] M = rn jm_Scal_init (cal d) 0 [some (.ref a0)] [] M := call_eq (show 1 ≤ 1 by decide)
set_option maxRecDepth 100000 in
theorem eq_Scal_lightest_0 (cl : Nat → List Value → ej_Mem → Option ej_R) (a0 : Nat) (a1 : Nat) (a2 : Nat) (a3 : Nat) (l4 : Int32) (M : ej_Mem) : rn jm_Scal_lightest cl 0 [some (.ref a0), some (.ref a1), some (.ref a2), some (.ref a3), some (.int l4), none, none, none] [] M =
    ckk (mC M a2 = 6) (deQ (mR M a2 0)
      (some (some (.int (-2 : Int32)), M))
      (fun q1 => ckk (mC M a2 = 6) (deQ (mR M a2 1)
        (some (some (.int (-2 : Int32)), M))
        (fun q2 => ckk (mC M a2 = 6) (deQ (mR M a2 0)
          (none)
          (fun q3 => ckk (mC M q3 = 7) (ckk (mC M a3 = 1) (bkV (cl jm_Hunt_begin [.ref a3, .int (mI M q3 0), .null] M) fun M4 =>
          ckk (mC M4 a0 = 5) (deR (mR M4 a0 0) fun q5 => ckk (mC M4 q5 = 100) (ckb (0 : Int32) (mN M4 q5) (ckk (mC (setA M4 q5 (Int32.toNatClampNeg (0 : Int32)) (0 : Int32)) a0 = 5) (deR (mR (setA M4 q5 (Int32.toNatClampNeg (0 : Int32)) (0 : Int32)) a0 1) fun q6 => ckk (mC (setA M4 q5 (Int32.toNatClampNeg (0 : Int32)) (0 : Int32)) q6 = 102) (ckb (0 : Int32) (mN (setA M4 q5 (Int32.toNatClampNeg (0 : Int32)) (0 : Int32)) q6) (rn jm_Scal_lightest cl 50 [some (.ref a0), some (.ref a1), some (.ref a2), some (.ref a3), some (.int l4), some (.int (-2 : Int32)), some (.int (0 : Int32)), none] [] (setA (setA M4 q5 (Int32.toNatClampNeg (0 : Int32)) (0 : Int32)) q6 (Int32.toNatClampNeg (0 : Int32)) (vp_nar .boolean (0 : Int32))))))))))))))))) :=
  tr_eq [50] 27 rfl
set_option maxRecDepth 100000 in
theorem eq_Scal_lightest_50 (cl : Nat → List Value → ej_Mem → Option ej_R) (a0 : Nat) (a1 : Nat) (a2 : Nat) (a3 : Nat) (l4 : Int32) (l5 : Int32) (l6 : Int32) (o7 : Option Value) (M : ej_Mem) : rn jm_Scal_lightest cl 50 [some (.ref a0), some (.ref a1), some (.ref a2), some (.ref a3), some (.int l4), some (.int l5), some (.int l6), o7] [] M =
    (if (500 : Int32) ≤ l6 then
      (some (some (.int l5), M)) else
      (ckk (mC M a3 = 1) (ckk (mC M a0 = 5) (bkI (cl jm_Scal_lightestOpen [.ref a0, .int (mI M a3 5)] M) fun x2 M1 =>
      (if x2 = (-1 : Int32) then
        (some (some (.int l5), M1)) else
        (ckk (mC M1 a0 = 5) (deR (mR M1 a0 1) fun q3 => ckk (mC M1 q3 = 102) (ckb x2 (mN M1 q3) ((if l5 = (-2 : Int32) then
          (ckk (mC (setA M1 q3 (Int32.toNatClampNeg x2) (vp_nar .boolean (1 : Int32))) a2 = 6) (deQ (mR (setA M1 q3 (Int32.toNatClampNeg x2) (vp_nar .boolean (1 : Int32))) a2 1)
            (ckk (mC (setA M1 q3 (Int32.toNatClampNeg x2) (vp_nar .boolean (1 : Int32))) a2 = 6) (deQ (mR (setA M1 q3 (Int32.toNatClampNeg x2) (vp_nar .boolean (1 : Int32))) a2 1)
              (none)
              (fun q6 => ckk (mC (setA M1 q3 (Int32.toNatClampNeg x2) (vp_nar .boolean (1 : Int32))) q6 = 7) (ckk (mC (setA M1 q3 (Int32.toNatClampNeg x2) (vp_nar .boolean (1 : Int32))) a3 = 1) (deR (mR (setA M1 q3 (Int32.toNatClampNeg x2) (vp_nar .boolean (1 : Int32))) a3 2) fun q7 => ckk (mC (setA M1 q3 (Int32.toNatClampNeg x2) (vp_nar .boolean (1 : Int32))) q7 = 100) (ckb x2 (mN (setA M1 q3 (Int32.toNatClampNeg x2) (vp_nar .boolean (1 : Int32))) q7) (none)))))))
            (fun q5 => ckk (mC (setA M1 q3 (Int32.toNatClampNeg x2) (vp_nar .boolean (1 : Int32))) a2 = 6) (deQ (mR (setA M1 q3 (Int32.toNatClampNeg x2) (vp_nar .boolean (1 : Int32))) a2 1)
              (none)
              (fun q8 => ckk (mC (setA M1 q3 (Int32.toNatClampNeg x2) (vp_nar .boolean (1 : Int32))) q8 = 7) (ckk (mC (setA M1 q3 (Int32.toNatClampNeg x2) (vp_nar .boolean (1 : Int32))) a3 = 1) (deR (mR (setA M1 q3 (Int32.toNatClampNeg x2) (vp_nar .boolean (1 : Int32))) a3 2) fun q9 => ckk (mC (setA M1 q3 (Int32.toNatClampNeg x2) (vp_nar .boolean (1 : Int32))) q9 = 100) (ckb x2 (mN (setA M1 q3 (Int32.toNatClampNeg x2) (vp_nar .boolean (1 : Int32))) q9) (ckk (mC (setA M1 q3 (Int32.toNatClampNeg x2) (vp_nar .boolean (1 : Int32))) q5 = 7) (bkI (cl jm_Writ_isTrue [.ref q5, .int (mI (setA M1 q3 (Int32.toNatClampNeg x2) (vp_nar .boolean (1 : Int32))) q8 5), .int (aI (setA M1 q3 (Int32.toNatClampNeg x2) (vp_nar .boolean (1 : Int32))) q9 (Int32.toNatClampNeg x2))] (setA M1 q3 (Int32.toNatClampNeg x2) (vp_nar .boolean (1 : Int32)))) fun x11 M10 =>
              (if x11 = (0 : Int32) then
                (ckk (mC M10 a0 = 5) (bkV (cl jm_Scal_weighMoves [.ref a0, .ref a1, .ref a2, .ref a3, .int x2, .int l4] M10) fun M12 =>
                ckk (mC M12 a3 = 1) ((if (mI M12 a3 7) = (4 : Int32) then
                  (some (some (.int (-3 : Int32)), M12)) else
                  (rn jm_Scal_lightest cl 50 [some (.ref a0), some (.ref a1), some (.ref a2), some (.ref a3), some (.int l4), some (.int l5), some (.int (l6 + (1 : Int32))), some (.int x2)] [] M12))))) else
                (ckk (mC M10 a0 = 5) (deR (mR M10 a0 0) fun q13 => ckk (mC M10 q13 = 100) (ckb x2 (mN M10 q13) (ckk (mC M10 a0 = 5) (bkV (cl jm_Scal_weighMoves [.ref a0, .ref a1, .ref a2, .ref a3, .int x2, .int l4] M10) fun M14 =>
                ckk (mC M14 a3 = 1) ((if (mI M14 a3 7) = (4 : Int32) then
                  (some (some (.int (-3 : Int32)), M14)) else
                  (rn jm_Scal_lightest cl 50 [some (.ref a0), some (.ref a1), some (.ref a2), some (.ref a3), some (.int l4), some (.int (aI M10 q13 (Int32.toNatClampNeg x2))), some (.int (l6 + (1 : Int32))), some (.int x2)] [] M14))))))))))))))))))) else
          (ckk (mC (setA M1 q3 (Int32.toNatClampNeg x2) (vp_nar .boolean (1 : Int32))) a0 = 5) (bkV (cl jm_Scal_weighMoves [.ref a0, .ref a1, .ref a2, .ref a3, .int x2, .int l4] (setA M1 q3 (Int32.toNatClampNeg x2) (vp_nar .boolean (1 : Int32)))) fun M4 =>
          ckk (mC M4 a3 = 1) ((if (mI M4 a3 7) = (4 : Int32) then
            (some (some (.int (-3 : Int32)), M4)) else
            (rn jm_Scal_lightest cl 50 [some (.ref a0), some (.ref a1), some (.ref a2), some (.ref a3), some (.int l4), some (.int l5), some (.int (l6 + (1 : Int32))), some (.int x2)] [] M4))))))))))))))) :=
  tr_eq [50] 49 rfl
theorem ca_Scal_lightest (d : Nat) (a0 : Nat) (a1 : Nat) (a2 : Nat) (a3 : Nat) (l4 : Int32) (M : ej_Mem) : cal (d + 1) jm_Scal_lightest [.ref a0, .ref a1, .ref a2, .ref a3, .int l4] M = rn jm_Scal_lightest (cal d) 0 [some (.ref a0), some (.ref a1), some (.ref a2), some (.ref a3), some (.int l4), none, none, none] [] M := call_eq (show 5 ≤ 8 by decide)
set_option maxRecDepth 100000 in
theorem eq_Scal_lightestOpen_0 (cl : Nat → List Value → ej_Mem → Option ej_R) (a0 : Nat) (l1 : Int32) (M : ej_Mem) : rn jm_Scal_lightestOpen cl 0 [some (.ref a0), some (.int l1), none, none] [] M =
    rn jm_Scal_lightestOpen cl 4 [some (.ref a0), some (.int l1), some (.int (-1 : Int32)), some (.int (0 : Int32))] [] M :=
  tr_eq [4] 5 rfl
set_option maxRecDepth 100000 in
theorem eq_Scal_lightestOpen_4 (cl : Nat → List Value → ej_Mem → Option ej_R) (a0 : Nat) (l1 : Int32) (l2 : Int32) (l3 : Int32) (M : ej_Mem) : rn jm_Scal_lightestOpen cl 4 [some (.ref a0), some (.int l1), some (.int l2), some (.int l3)] [] M =
    (if l1 ≤ l3 then
      (some (some (.int l2), M)) else
      ((if (500 : Int32) ≤ l3 then
        (some (some (.int l2), M)) else
        (ckk (mC M a0 = 5) (deR (mR M a0 1) fun q1 => ckk (mC M q1 = 102) (ckb l3 (mN M q1) ((if (aI M q1 (Int32.toNatClampNeg l3)) = (0 : Int32) then
          ((if l2 = (-1 : Int32) then
            (rn jm_Scal_lightestOpen cl 4 [some (.ref a0), some (.int l1), some (.int l3), some (.int (l3 + (1 : Int32)))] [] M) else
            (ckk (mC M a0 = 5) (deR (mR M a0 0) fun q2 => ckk (mC M q2 = 100) (ckb l3 (mN M q2) (ckk (mC M a0 = 5) (deR (mR M a0 0) fun q3 => ckk (mC M q3 = 100) (ckb l2 (mN M q3) ((if (aI M q3 (Int32.toNatClampNeg l2)) ≤ (aI M q2 (Int32.toNatClampNeg l3)) then
              (rn jm_Scal_lightestOpen cl 4 [some (.ref a0), some (.int l1), some (.int l2), some (.int (l3 + (1 : Int32)))] [] M) else
              (rn jm_Scal_lightestOpen cl 4 [some (.ref a0), some (.int l1), some (.int l3), some (.int (l3 + (1 : Int32)))] [] M))))))))))) else
          (rn jm_Scal_lightestOpen cl 4 [some (.ref a0), some (.int l1), some (.int l2), some (.int (l3 + (1 : Int32)))] [] M))))))))) :=
  tr_eq [4] 28 rfl
theorem ca_Scal_lightestOpen (d : Nat) (a0 : Nat) (l1 : Int32) (M : ej_Mem) : cal (d + 1) jm_Scal_lightestOpen [.ref a0, .int l1] M = rn jm_Scal_lightestOpen (cal d) 0 [some (.ref a0), some (.int l1), none, none] [] M := call_eq (show 2 ≤ 4 by decide)
set_option maxRecDepth 100000 in
theorem eq_Scal_weighMoves_0 (cl : Nat → List Value → ej_Mem → Option ej_R) (a0 : Nat) (a1 : Nat) (a2 : Nat) (a3 : Nat) (l4 : Int32) (l5 : Int32) (M : ej_Mem) : rn jm_Scal_weighMoves cl 0 [some (.ref a0), some (.ref a1), some (.ref a2), some (.ref a3), some (.int l4), some (.int l5), none, none, none, none, none, none] [] M =
    ckk (mC M a3 = 1) (deR (mR M a3 2) fun q1 => ckk (mC M q1 = 100) (ckb l4 (mN M q1) (rn jm_Scal_weighMoves cl 12 [some (.ref a0), some (.ref a1), some (.ref a2), some (.ref a3), some (.int l4), some (.int l5), some (.int (aI M q1 (Int32.toNatClampNeg l4))), some (.int (0 : Int32)), none, none, none, none] [] M))) :=
  tr_eq [12, 73, 110, 150, 175, 181] 8 rfl
set_option maxRecDepth 100000 in
theorem eq_Scal_weighMoves_12 (cl : Nat → List Value → ej_Mem → Option ej_R) (a0 : Nat) (a1 : Nat) (a2 : Nat) (a3 : Nat) (l4 : Int32) (l5 : Int32) (l6 : Int32) (l7 : Int32) (o8 : Option Value) (o9 : Option Value) (o10 : Option Value) (o11 : Option Value) (M : ej_Mem) : rn jm_Scal_weighMoves cl 12 [some (.ref a0), some (.ref a1), some (.ref a2), some (.ref a3), some (.int l4), some (.int l5), some (.int l6), some (.int l7), o8, o9, o10, o11] [] M =
    ckk (mC M a1 = 3) (deR (mR M a1 1) fun q1 => ckk (mC M q1 = 100) (ckb (0 : Int32) (mN M q1) ((if (aI M q1 (Int32.toNatClampNeg (0 : Int32))) ≤ l7 then
      (rn jm_Scal_weighMoves cl 181 [some (.ref a0), some (.ref a1), some (.ref a2), some (.ref a3), some (.int l4), some (.int l5), some (.int l6), some (.int l7), o8, o9, o10, o11] [] M) else
      (ckk (mC M a3 = 1) ((if (mI M a3 7) = (4 : Int32) then
        (rn jm_Scal_weighMoves cl 181 [some (.ref a0), some (.ref a1), some (.ref a2), some (.ref a3), some (.int l4), some (.int l5), some (.int l6), some (.int l7), o8, o9, o10, o11] [] M) else
        (ckk (mC M a1 = 3) (bkQ (cl jm_Land_writ [.ref a1, .int (0 : Int32), .int l7] M)
          (fun M2 => rn jm_Scal_weighMoves cl 175 [some (.ref a0), some (.ref a1), some (.ref a2), some (.ref a3), some (.int l4), some (.int l5), some (.int l6), some (.int l7), some (.null), o9, o10, o11] [] M2)
          (fun q3 M4 => ckk (mC M4 a0 = 5) (deR (mR M4 a0 0) fun q5 => ckk (mC M4 q5 = 100) (ckb l4 (mN M4 q5) ((if l5 = (0 : Int32) then
            (ckk (mC M4 q3 = 7) (rn jm_Scal_weighMoves cl 73 [some (.ref a0), some (.ref a1), some (.ref a2), some (.ref a3), some (.int l4), some (.int l5), some (.int l6), some (.int l7), some (.ref q3), o9, o10, o11] [.int (mI M4 q3 3), .int (aI M4 q5 (Int32.toNatClampNeg l4))] M4)) else
            (ckk (mC M4 q3 = 7) (rn jm_Scal_weighMoves cl 73 [some (.ref a0), some (.ref a1), some (.ref a2), some (.ref a3), some (.int l4), some (.int l5), some (.int l6), some (.int l7), some (.ref q3), o9, o10, o11] [.int (mI M4 q3 2), .int (aI M4 q5 (Int32.toNatClampNeg l4))] M4)))))))))))))))) :=
  tr_eq [12, 73, 110, 150, 175, 181] 27 rfl
set_option maxRecDepth 100000 in
theorem eq_Scal_weighMoves_73 (cl : Nat → List Value → ej_Mem → Option ej_R) (a0 : Nat) (a1 : Nat) (a2 : Nat) (a3 : Nat) (l4 : Int32) (l5 : Int32) (l6 : Int32) (l7 : Int32) (a8 : Nat) (o9 : Option Value) (o10 : Option Value) (o11 : Option Value) (s0 : Int32) (s1 : Int32) (M : ej_Mem) : rn jm_Scal_weighMoves cl 73 [some (.ref a0), some (.ref a1), some (.ref a2), some (.ref a3), some (.int l4), some (.int l5), some (.int l6), some (.int l7), some (.ref a8), o9, o10, o11] [.int s1, .int s0] M =
    ckk (mC M a8 = 7) (bkI (cl jm_Writ_changed [.ref a8, .int l6] M) fun x2 M1 =>
    ckk (mC M1 a3 = 1) (bkI (cl jm_Hunt_placeOf [.ref a3, .int x2] M1) fun x4 M3 =>
    (if x4 = (-1 : Int32) then
      (rn jm_Scal_weighMoves cl 110 [some (.ref a0), some (.ref a1), some (.ref a2), some (.ref a3), some (.int l4), some (.int l5), some (.int l6), some (.int l7), some (.ref a8), some (.int (s0 + s1)), some (.int x4), o11] [] M3) else
      (ckk (mC M3 a0 = 5) (deR (mR M3 a0 0) fun q5 => ckk (mC M3 q5 = 100) (ckb x4 (mN M3 q5) ((if (s0 + s1) < (aI M3 q5 (Int32.toNatClampNeg x4)) then
        (rn jm_Scal_weighMoves cl 110 [some (.ref a0), some (.ref a1), some (.ref a2), some (.ref a3), some (.int l4), some (.int l5), some (.int l6), some (.int l7), some (.ref a8), some (.int (s0 + s1)), some (.int x4), o11] [] M3) else
        (rn jm_Scal_weighMoves cl 175 [some (.ref a0), some (.ref a1), some (.ref a2), some (.ref a3), some (.int l4), some (.int l5), some (.int l6), some (.int l7), some (.ref a8), some (.int (s0 + s1)), some (.int x4), o11] [] M3))))))))) :=
  tr_eq [12, 73, 110, 150, 175, 181] 19 rfl
set_option maxRecDepth 100000 in
theorem eq_Scal_weighMoves_110 (cl : Nat → List Value → ej_Mem → Option ej_R) (a0 : Nat) (a1 : Nat) (a2 : Nat) (a3 : Nat) (l4 : Int32) (l5 : Int32) (l6 : Int32) (l7 : Int32) (a8 : Nat) (l9 : Int32) (l10 : Int32) (o11 : Option Value) (M : ej_Mem) : rn jm_Scal_weighMoves cl 110 [some (.ref a0), some (.ref a1), some (.ref a2), some (.ref a3), some (.int l4), some (.int l5), some (.int l6), some (.int l7), some (.ref a8), some (.int l9), some (.int l10), o11] [] M =
    ckk (mC M a1 = 3) (bkI (cl jm_Land_ledTo [.ref a1, .int l7, .int l6, .ref a2] M) fun x2 M1 =>
    (if x2 = (-1 : Int32) then
      (rn jm_Scal_weighMoves cl 175 [some (.ref a0), some (.ref a1), some (.ref a2), some (.ref a3), some (.int l4), some (.int l5), some (.int l6), some (.int l7), some (.ref a8), some (.int l9), some (.int l10), some (.int x2)] [] M1) else
      ((if l10 = (-1 : Int32) then
        (ckk (mC M1 a3 = 1) (ckk (mC M1 a3 = 1) (bkV (cl jm_Hunt_meet [.ref a3, .int x2, .int (0 : Int32), .null] M1) fun M3 =>
        rn jm_Scal_weighMoves cl 150 [some (.ref a0), some (.ref a1), some (.ref a2), some (.ref a3), some (.int l4), some (.int l5), some (.int l6), some (.int l7), some (.ref a8), some (.int l9), some (.int (mI M1 a3 5)), some (.int x2)] [] M3))) else
        (rn jm_Scal_weighMoves cl 150 [some (.ref a0), some (.ref a1), some (.ref a2), some (.ref a3), some (.int l4), some (.int l5), some (.int l6), some (.int l7), some (.ref a8), some (.int l9), some (.int l10), some (.int x2)] [] M1))))) :=
  tr_eq [12, 73, 110, 150, 175, 181] 21 rfl
set_option maxRecDepth 100000 in
theorem eq_Scal_weighMoves_150 (cl : Nat → List Value → ej_Mem → Option ej_R) (a0 : Nat) (a1 : Nat) (a2 : Nat) (a3 : Nat) (l4 : Int32) (l5 : Int32) (l6 : Int32) (l7 : Int32) (a8 : Nat) (l9 : Int32) (l10 : Int32) (l11 : Int32) (M : ej_Mem) : rn jm_Scal_weighMoves cl 150 [some (.ref a0), some (.ref a1), some (.ref a2), some (.ref a3), some (.int l4), some (.int l5), some (.int l6), some (.int l7), some (.ref a8), some (.int l9), some (.int l10), some (.int l11)] [] M =
    (if (500 : Int32) ≤ l10 then
      (rn jm_Scal_weighMoves cl 175 [some (.ref a0), some (.ref a1), some (.ref a2), some (.ref a3), some (.int l4), some (.int l5), some (.int l6), some (.int l7), some (.ref a8), some (.int l9), some (.int l10), some (.int l11)] [] M) else
      (ckk (mC M a0 = 5) (deR (mR M a0 0) fun q1 => ckk (mC M q1 = 100) (ckb l10 (mN M q1) (ckk (mC (setA M q1 (Int32.toNatClampNeg l10) l9) a0 = 5) (deR (mR (setA M q1 (Int32.toNatClampNeg l10) l9) a0 1) fun q2 => ckk (mC (setA M q1 (Int32.toNatClampNeg l10) l9) q2 = 102) (ckb l10 (mN (setA M q1 (Int32.toNatClampNeg l10) l9) q2) (rn jm_Scal_weighMoves cl 175 [some (.ref a0), some (.ref a1), some (.ref a2), some (.ref a3), some (.int l4), some (.int l5), some (.int l6), some (.int l7), some (.ref a8), some (.int l9), some (.int l10), some (.int l11)] [] (setA (setA M q1 (Int32.toNatClampNeg l10) l9) q2 (Int32.toNatClampNeg l10) (vp_nar .boolean (0 : Int32))))))))))) :=
  tr_eq [12, 73, 110, 150, 175, 181] 14 rfl
set_option maxRecDepth 100000 in
theorem eq_Scal_weighMoves_175 (cl : Nat → List Value → ej_Mem → Option ej_R) (a0 : Nat) (a1 : Nat) (a2 : Nat) (a3 : Nat) (l4 : Int32) (l5 : Int32) (l6 : Int32) (l7 : Int32) (a8 : Nat) (o9 : Option Value) (o10 : Option Value) (o11 : Option Value) (M : ej_Mem) : rn jm_Scal_weighMoves cl 175 [some (.ref a0), some (.ref a1), some (.ref a2), some (.ref a3), some (.int l4), some (.int l5), some (.int l6), some (.int l7), some (.ref a8), o9, o10, o11] [] M =
    rn jm_Scal_weighMoves cl 12 [some (.ref a0), some (.ref a1), some (.ref a2), some (.ref a3), some (.int l4), some (.int l5), some (.int l6), some (.int (l7 + (1 : Int32))), some (.ref a8), o9, o10, o11] [] M :=
  tr_eq [12, 73, 110, 150, 175, 181] 3 rfl
set_option maxRecDepth 100000 in
theorem eq_Scal_weighMoves_181 (cl : Nat → List Value → ej_Mem → Option ej_R) (a0 : Nat) (a1 : Nat) (a2 : Nat) (a3 : Nat) (l4 : Int32) (l5 : Int32) (l6 : Int32) (l7 : Int32) (o8 : Option Value) (o9 : Option Value) (o10 : Option Value) (o11 : Option Value) (M : ej_Mem) : rn jm_Scal_weighMoves cl 181 [some (.ref a0), some (.ref a1), some (.ref a2), some (.ref a3), some (.int l4), some (.int l5), some (.int l6), some (.int l7), o8, o9, o10, o11] [] M =
    some (none, M) :=
  tr_eq [12, 73, 110, 150, 175, 181] 1 rfl
theorem ca_Scal_weighMoves (d : Nat) (a0 : Nat) (a1 : Nat) (a2 : Nat) (a3 : Nat) (l4 : Int32) (l5 : Int32) (M : ej_Mem) : cal (d + 1) jm_Scal_weighMoves [.ref a0, .ref a1, .ref a2, .ref a3, .int l4, .int l5] M = rn jm_Scal_weighMoves (cal d) 0 [some (.ref a0), some (.ref a1), some (.ref a2), some (.ref a3), some (.int l4), some (.int l5), none, none, none, none, none, none] [] M := call_eq (show 6 ≤ 12 by decide)
