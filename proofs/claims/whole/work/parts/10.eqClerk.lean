/-! equations of the methods: from the entry and each loop head a tree of tests; written by wip/gen/eqs.py -/
noncomputable abbrev cal (d : Nat) : Nat → List Value → ej_Mem → Option ej_R := ej_call ej_sw ej_code ej_mx d
theorem call_eq {d m : Nat} {args : List Value} {M : ej_Mem} (h : (ej_args args).length ≤ ej_mx m) : cal (d + 1) m args M = rn m (cal d) 0 (ej_ent (ej_mx m) args) [] M := if_pos h
set_option maxRecDepth 100000 in
theorem eq_Clerk_init_0 (cl : Nat → List Value → ej_Mem → Option ej_R) (a0 : Nat) (a1 : Nat) (M : ej_Mem) : rn jm_Clerk_init cl 0 [some (.ref a0), some (.ref a1)] [] M =
    ckk (mC M a0 = 0) (rn jm_Clerk_init cl 9 [some (.ref a0), some (.ref a1)] [] (setI M a0 1 (0 : Int32))) :=
  tr_eq [9, 14, 19, 24, 33, 38, 46, 51, 59, 64, 69, 74, 82, 90, 98, 103, 108] 6 rfl
set_option maxRecDepth 100000 in
theorem eq_Clerk_init_9 (cl : Nat → List Value → ej_Mem → Option ej_R) (a0 : Nat) (a1 : Nat) (M : ej_Mem) : rn jm_Clerk_init cl 9 [some (.ref a0), some (.ref a1)] [] M =
    ckk (mC M a0 = 0) (rn jm_Clerk_init cl 14 [some (.ref a0), some (.ref a1)] [] (setI M a0 2 (0 : Int32))) :=
  tr_eq [9, 14, 19, 24, 33, 38, 46, 51, 59, 64, 69, 74, 82, 90, 98, 103, 108] 4 rfl
set_option maxRecDepth 100000 in
theorem eq_Clerk_init_14 (cl : Nat → List Value → ej_Mem → Option ej_R) (a0 : Nat) (a1 : Nat) (M : ej_Mem) : rn jm_Clerk_init cl 14 [some (.ref a0), some (.ref a1)] [] M =
    ckk (mC M a0 = 0) (rn jm_Clerk_init cl 19 [some (.ref a0), some (.ref a1)] [] (setI M a0 3 (0 : Int32))) :=
  tr_eq [9, 14, 19, 24, 33, 38, 46, 51, 59, 64, 69, 74, 82, 90, 98, 103, 108] 4 rfl
set_option maxRecDepth 100000 in
theorem eq_Clerk_init_19 (cl : Nat → List Value → ej_Mem → Option ej_R) (a0 : Nat) (a1 : Nat) (M : ej_Mem) : rn jm_Clerk_init cl 19 [some (.ref a0), some (.ref a1)] [] M =
    ckk (mC M a0 = 0) (rn jm_Clerk_init cl 24 [some (.ref a0), some (.ref a1)] [] (setI M a0 4 (0 : Int32))) :=
  tr_eq [9, 14, 19, 24, 33, 38, 46, 51, 59, 64, 69, 74, 82, 90, 98, 103, 108] 4 rfl
set_option maxRecDepth 100000 in
theorem eq_Clerk_init_24 (cl : Nat → List Value → ej_Mem → Option ej_R) (a0 : Nat) (a1 : Nat) (M : ej_Mem) : rn jm_Clerk_init cl 24 [some (.ref a0), some (.ref a1)] [] M =
    ckk (¬ (300 : Int32) < 0 ∧ Int32.toNatClampNeg (300 : Int32) ≤ 67108864) (ckk (mC (newM M 100 (Int32.toNatClampNeg (300 : Int32)) (Int32.toNatClampNeg (300 : Int32))) a0 = 0) (rn jm_Clerk_init cl 33 [some (.ref a0), some (.ref a1)] [] (setR (newM M 100 (Int32.toNatClampNeg (300 : Int32)) (Int32.toNatClampNeg (300 : Int32))) a0 5 (some (mZ M))))) :=
  tr_eq [9, 14, 19, 24, 33, 38, 46, 51, 59, 64, 69, 74, 82, 90, 98, 103, 108] 5 rfl
set_option maxRecDepth 100000 in
theorem eq_Clerk_init_33 (cl : Nat → List Value → ej_Mem → Option ej_R) (a0 : Nat) (a1 : Nat) (M : ej_Mem) : rn jm_Clerk_init cl 33 [some (.ref a0), some (.ref a1)] [] M =
    ckk (mC M a0 = 0) (rn jm_Clerk_init cl 38 [some (.ref a0), some (.ref a1)] [] (setI M a0 6 (0 : Int32))) :=
  tr_eq [9, 14, 19, 24, 33, 38, 46, 51, 59, 64, 69, 74, 82, 90, 98, 103, 108] 4 rfl
set_option maxRecDepth 100000 in
theorem eq_Clerk_init_38 (cl : Nat → List Value → ej_Mem → Option ej_R) (a0 : Nat) (a1 : Nat) (M : ej_Mem) : rn jm_Clerk_init cl 38 [some (.ref a0), some (.ref a1)] [] M =
    ckk (¬ (24 : Int32) < 0 ∧ Int32.toNatClampNeg (24 : Int32) ≤ 67108864) (ckk (mC (newM M 100 (Int32.toNatClampNeg (24 : Int32)) (Int32.toNatClampNeg (24 : Int32))) a0 = 0) (rn jm_Clerk_init cl 46 [some (.ref a0), some (.ref a1)] [] (setR (newM M 100 (Int32.toNatClampNeg (24 : Int32)) (Int32.toNatClampNeg (24 : Int32))) a0 7 (some (mZ M))))) :=
  tr_eq [9, 14, 19, 24, 33, 38, 46, 51, 59, 64, 69, 74, 82, 90, 98, 103, 108] 5 rfl
set_option maxRecDepth 100000 in
theorem eq_Clerk_init_46 (cl : Nat → List Value → ej_Mem → Option ej_R) (a0 : Nat) (a1 : Nat) (M : ej_Mem) : rn jm_Clerk_init cl 46 [some (.ref a0), some (.ref a1)] [] M =
    ckk (mC M a0 = 0) (rn jm_Clerk_init cl 51 [some (.ref a0), some (.ref a1)] [] (setI M a0 8 (0 : Int32))) :=
  tr_eq [9, 14, 19, 24, 33, 38, 46, 51, 59, 64, 69, 74, 82, 90, 98, 103, 108] 4 rfl
set_option maxRecDepth 100000 in
theorem eq_Clerk_init_51 (cl : Nat → List Value → ej_Mem → Option ej_R) (a0 : Nat) (a1 : Nat) (M : ej_Mem) : rn jm_Clerk_init cl 51 [some (.ref a0), some (.ref a1)] [] M =
    ckk (¬ (40 : Int32) < 0 ∧ Int32.toNatClampNeg (40 : Int32) ≤ 67108864) (ckk (mC (newM M 100 (Int32.toNatClampNeg (40 : Int32)) (Int32.toNatClampNeg (40 : Int32))) a0 = 0) (rn jm_Clerk_init cl 59 [some (.ref a0), some (.ref a1)] [] (setR (newM M 100 (Int32.toNatClampNeg (40 : Int32)) (Int32.toNatClampNeg (40 : Int32))) a0 9 (some (mZ M))))) :=
  tr_eq [9, 14, 19, 24, 33, 38, 46, 51, 59, 64, 69, 74, 82, 90, 98, 103, 108] 5 rfl
set_option maxRecDepth 100000 in
theorem eq_Clerk_init_59 (cl : Nat → List Value → ej_Mem → Option ej_R) (a0 : Nat) (a1 : Nat) (M : ej_Mem) : rn jm_Clerk_init cl 59 [some (.ref a0), some (.ref a1)] [] M =
    ckk (mC M a0 = 0) (rn jm_Clerk_init cl 64 [some (.ref a0), some (.ref a1)] [] (setI M a0 10 (0 : Int32))) :=
  tr_eq [9, 14, 19, 24, 33, 38, 46, 51, 59, 64, 69, 74, 82, 90, 98, 103, 108] 4 rfl
set_option maxRecDepth 100000 in
theorem eq_Clerk_init_64 (cl : Nat → List Value → ej_Mem → Option ej_R) (a0 : Nat) (a1 : Nat) (M : ej_Mem) : rn jm_Clerk_init cl 64 [some (.ref a0), some (.ref a1)] [] M =
    ckk (mC M a0 = 0) (rn jm_Clerk_init cl 69 [some (.ref a0), some (.ref a1)] [] (setI M a0 11 (0 : Int32))) :=
  tr_eq [9, 14, 19, 24, 33, 38, 46, 51, 59, 64, 69, 74, 82, 90, 98, 103, 108] 4 rfl
set_option maxRecDepth 100000 in
theorem eq_Clerk_init_69 (cl : Nat → List Value → ej_Mem → Option ej_R) (a0 : Nat) (a1 : Nat) (M : ej_Mem) : rn jm_Clerk_init cl 69 [some (.ref a0), some (.ref a1)] [] M =
    ckk (mC M a0 = 0) (rn jm_Clerk_init cl 74 [some (.ref a0), some (.ref a1)] [] (setI M a0 12 (0 : Int32))) :=
  tr_eq [9, 14, 19, 24, 33, 38, 46, 51, 59, 64, 69, 74, 82, 90, 98, 103, 108] 4 rfl
set_option maxRecDepth 100000 in
theorem eq_Clerk_init_74 (cl : Nat → List Value → ej_Mem → Option ej_R) (a0 : Nat) (a1 : Nat) (M : ej_Mem) : rn jm_Clerk_init cl 74 [some (.ref a0), some (.ref a1)] [] M =
    ckk (¬ (40 : Int32) < 0 ∧ Int32.toNatClampNeg (40 : Int32) ≤ 67108864) (ckk (mC (newM M 100 (Int32.toNatClampNeg (40 : Int32)) (Int32.toNatClampNeg (40 : Int32))) a0 = 0) (rn jm_Clerk_init cl 82 [some (.ref a0), some (.ref a1)] [] (setR (newM M 100 (Int32.toNatClampNeg (40 : Int32)) (Int32.toNatClampNeg (40 : Int32))) a0 13 (some (mZ M))))) :=
  tr_eq [9, 14, 19, 24, 33, 38, 46, 51, 59, 64, 69, 74, 82, 90, 98, 103, 108] 5 rfl
set_option maxRecDepth 100000 in
theorem eq_Clerk_init_82 (cl : Nat → List Value → ej_Mem → Option ej_R) (a0 : Nat) (a1 : Nat) (M : ej_Mem) : rn jm_Clerk_init cl 82 [some (.ref a0), some (.ref a1)] [] M =
    ckk (¬ (40 : Int32) < 0 ∧ Int32.toNatClampNeg (40 : Int32) ≤ 67108864) (ckk (mC (newM M 100 (Int32.toNatClampNeg (40 : Int32)) (Int32.toNatClampNeg (40 : Int32))) a0 = 0) (rn jm_Clerk_init cl 90 [some (.ref a0), some (.ref a1)] [] (setR (newM M 100 (Int32.toNatClampNeg (40 : Int32)) (Int32.toNatClampNeg (40 : Int32))) a0 14 (some (mZ M))))) :=
  tr_eq [9, 14, 19, 24, 33, 38, 46, 51, 59, 64, 69, 74, 82, 90, 98, 103, 108] 5 rfl
set_option maxRecDepth 100000 in
theorem eq_Clerk_init_90 (cl : Nat → List Value → ej_Mem → Option ej_R) (a0 : Nat) (a1 : Nat) (M : ej_Mem) : rn jm_Clerk_init cl 90 [some (.ref a0), some (.ref a1)] [] M =
    ckk (¬ (40 : Int32) < 0 ∧ Int32.toNatClampNeg (40 : Int32) ≤ 67108864) (ckk (mC (newM M 100 (Int32.toNatClampNeg (40 : Int32)) (Int32.toNatClampNeg (40 : Int32))) a0 = 0) (rn jm_Clerk_init cl 98 [some (.ref a0), some (.ref a1)] [] (setR (newM M 100 (Int32.toNatClampNeg (40 : Int32)) (Int32.toNatClampNeg (40 : Int32))) a0 15 (some (mZ M))))) :=
  tr_eq [9, 14, 19, 24, 33, 38, 46, 51, 59, 64, 69, 74, 82, 90, 98, 103, 108] 5 rfl
set_option maxRecDepth 100000 in
theorem eq_Clerk_init_98 (cl : Nat → List Value → ej_Mem → Option ej_R) (a0 : Nat) (a1 : Nat) (M : ej_Mem) : rn jm_Clerk_init cl 98 [some (.ref a0), some (.ref a1)] [] M =
    ckk (mC M a0 = 0) (rn jm_Clerk_init cl 103 [some (.ref a0), some (.ref a1)] [] (setI M a0 16 (0 : Int32))) :=
  tr_eq [9, 14, 19, 24, 33, 38, 46, 51, 59, 64, 69, 74, 82, 90, 98, 103, 108] 4 rfl
set_option maxRecDepth 100000 in
theorem eq_Clerk_init_103 (cl : Nat → List Value → ej_Mem → Option ej_R) (a0 : Nat) (a1 : Nat) (M : ej_Mem) : rn jm_Clerk_init cl 103 [some (.ref a0), some (.ref a1)] [] M =
    ckk (mC M a0 = 0) (rn jm_Clerk_init cl 108 [some (.ref a0), some (.ref a1)] [] (setR M a0 0 (some a1))) :=
  tr_eq [9, 14, 19, 24, 33, 38, 46, 51, 59, 64, 69, 74, 82, 90, 98, 103, 108] 4 rfl
set_option maxRecDepth 100000 in
theorem eq_Clerk_init_108 (cl : Nat → List Value → ej_Mem → Option ej_R) (a0 : Nat) (a1 : Nat) (M : ej_Mem) : rn jm_Clerk_init cl 108 [some (.ref a0), some (.ref a1)] [] M =
    some (none, M) :=
  tr_eq [9, 14, 19, 24, 33, 38, 46, 51, 59, 64, 69, 74, 82, 90, 98, 103, 108] 1 rfl
theorem ca_Clerk_init (d : Nat) (a0 : Nat) (a1 : Nat) (M : ej_Mem) : cal (d + 1) jm_Clerk_init [.ref a0, .ref a1] M = rn jm_Clerk_init (cal d) 0 [some (.ref a0), some (.ref a1)] [] M := call_eq (show 2 ≤ 2 by decide)
set_option maxRecDepth 100000 in
theorem eq_Clerk_read_0 (cl : Nat → List Value → ej_Mem → Option ej_R) (a0 : Nat) (l1 : Int32) (l2 : Int32) (M : ej_Mem) : rn jm_Clerk_read cl 0 [some (.ref a0), some (.int l1), some (.int l2), none, none, none] [] M =
    ckk (mC M a0 = 0) (deR (mR M a0 0) fun q1 => ckk (100 ≤ mC M q1 ∧ mC M q1 ≤ 104) (ckk (ej_cats [.ref a0] ≤ 8) (ckk (mC M a0 = 0) (rn jm_Clerk_read cl 13 [some (.ref a0), some (.int l1), some (.int l2), none, none, none] [] (setI M a0 1 (if (Int32.ofNat (mN M q1)) < l1 then Int32.ofNat (mN M q1) else l1)))))) :=
  tr_eq [13, 18, 23, 28, 33, 38, 69, 75, 141, 161, 205, 220] 8 rfl
set_option maxRecDepth 100000 in
theorem eq_Clerk_read_13 (cl : Nat → List Value → ej_Mem → Option ej_R) (a0 : Nat) (l1 : Int32) (l2 : Int32) (o3 : Option Value) (o4 : Option Value) (o5 : Option Value) (M : ej_Mem) : rn jm_Clerk_read cl 13 [some (.ref a0), some (.int l1), some (.int l2), o3, o4, o5] [] M =
    ckk (mC M a0 = 0) (rn jm_Clerk_read cl 18 [some (.ref a0), some (.int l1), some (.int l2), o3, o4, o5] [] (setI M a0 2 (0 : Int32))) :=
  tr_eq [13, 18, 23, 28, 33, 38, 69, 75, 141, 161, 205, 220] 4 rfl
set_option maxRecDepth 100000 in
theorem eq_Clerk_read_18 (cl : Nat → List Value → ej_Mem → Option ej_R) (a0 : Nat) (l1 : Int32) (l2 : Int32) (o3 : Option Value) (o4 : Option Value) (o5 : Option Value) (M : ej_Mem) : rn jm_Clerk_read cl 18 [some (.ref a0), some (.int l1), some (.int l2), o3, o4, o5] [] M =
    ckk (mC M a0 = 0) (rn jm_Clerk_read cl 23 [some (.ref a0), some (.int l1), some (.int l2), o3, o4, o5] [] (setI M a0 3 (0 : Int32))) :=
  tr_eq [13, 18, 23, 28, 33, 38, 69, 75, 141, 161, 205, 220] 4 rfl
set_option maxRecDepth 100000 in
theorem eq_Clerk_read_23 (cl : Nat → List Value → ej_Mem → Option ej_R) (a0 : Nat) (l1 : Int32) (l2 : Int32) (o3 : Option Value) (o4 : Option Value) (o5 : Option Value) (M : ej_Mem) : rn jm_Clerk_read cl 23 [some (.ref a0), some (.int l1), some (.int l2), o3, o4, o5] [] M =
    ckk (mC M a0 = 0) (rn jm_Clerk_read cl 28 [some (.ref a0), some (.int l1), some (.int l2), o3, o4, o5] [] (setI M a0 4 (0 : Int32))) :=
  tr_eq [13, 18, 23, 28, 33, 38, 69, 75, 141, 161, 205, 220] 4 rfl
set_option maxRecDepth 100000 in
theorem eq_Clerk_read_28 (cl : Nat → List Value → ej_Mem → Option ej_R) (a0 : Nat) (l1 : Int32) (l2 : Int32) (o3 : Option Value) (o4 : Option Value) (o5 : Option Value) (M : ej_Mem) : rn jm_Clerk_read cl 28 [some (.ref a0), some (.int l1), some (.int l2), o3, o4, o5] [] M =
    ckk (mC M a0 = 0) (rn jm_Clerk_read cl 33 [some (.ref a0), some (.int l1), some (.int l2), o3, o4, o5] [] (setI M a0 6 (0 : Int32))) :=
  tr_eq [13, 18, 23, 28, 33, 38, 69, 75, 141, 161, 205, 220] 4 rfl
set_option maxRecDepth 100000 in
theorem eq_Clerk_read_33 (cl : Nat → List Value → ej_Mem → Option ej_R) (a0 : Nat) (l1 : Int32) (l2 : Int32) (o3 : Option Value) (o4 : Option Value) (o5 : Option Value) (M : ej_Mem) : rn jm_Clerk_read cl 33 [some (.ref a0), some (.int l1), some (.int l2), o3, o4, o5] [] M =
    ckk (mC M a0 = 0) (rn jm_Clerk_read cl 38 [some (.ref a0), some (.int l1), some (.int l2), o3, o4, o5] [] (setI M a0 8 (0 : Int32))) :=
  tr_eq [13, 18, 23, 28, 33, 38, 69, 75, 141, 161, 205, 220] 4 rfl
set_option maxRecDepth 100000 in
theorem eq_Clerk_read_38 (cl : Nat → List Value → ej_Mem → Option ej_R) (a0 : Nat) (l1 : Int32) (l2 : Int32) (o3 : Option Value) (o4 : Option Value) (o5 : Option Value) (M : ej_Mem) : rn jm_Clerk_read cl 38 [some (.ref a0), some (.int l1), some (.int l2), o3, o4, o5] [] M =
    bkV (cl jm_Writ_init [.ref (mZ M)] (newM M 7 0 8)) fun M1 =>
    (if l2 = (0 : Int32) then
      ((if l2 = (0 : Int32) then
        (ckk (mC M1 (mZ M) = 7) (rn jm_Clerk_read cl 69 [some (.ref a0), some (.int l1), some (.int l2), some (.ref (mZ M)), o4, o5] [] (setI M1 (mZ M) 5 (-1 : Int32)))) else
        (ckk (mC M1 (mZ M) = 7) (rn jm_Clerk_read cl 69 [some (.ref a0), some (.int l1), some (.int l2), some (.ref (mZ M)), o4, o5] [] (setI M1 (mZ M) 5 (-2 : Int32)))))) else
      ((if l2 = (1 : Int32) then
        ((if l2 = (0 : Int32) then
          (ckk (mC M1 (mZ M) = 7) (rn jm_Clerk_read cl 69 [some (.ref a0), some (.int l1), some (.int l2), some (.ref (mZ M)), o4, o5] [] (setI M1 (mZ M) 5 (-1 : Int32)))) else
          (ckk (mC M1 (mZ M) = 7) (rn jm_Clerk_read cl 69 [some (.ref a0), some (.int l1), some (.int l2), some (.ref (mZ M)), o4, o5] [] (setI M1 (mZ M) 5 (-2 : Int32)))))) else
        (ckk (mC M1 a0 = 0) (bkI (cl jm_Clerk_readTest [.ref a0, .int (-1 : Int32), .int (-2 : Int32)] M1) fun x3 M2 =>
        ckk (mC M2 (mZ M) = 7) (rn jm_Clerk_read cl 161 [some (.ref a0), some (.int l1), some (.int l2), some (.ref (mZ M)), o4, o5] [] (setI M2 (mZ M) 5 x3))))))) :=
  tr_eq [13, 18, 23, 28, 33, 38, 69, 75, 141, 161, 205, 220] 16 rfl
set_option maxRecDepth 100000 in
theorem eq_Clerk_read_69 (cl : Nat → List Value → ej_Mem → Option ej_R) (a0 : Nat) (l1 : Int32) (l2 : Int32) (a3 : Nat) (o4 : Option Value) (o5 : Option Value) (M : ej_Mem) : rn jm_Clerk_read cl 69 [some (.ref a0), some (.int l1), some (.int l2), some (.ref a3), o4, o5] [] M =
    rn jm_Clerk_read cl 75 [some (.ref a0), some (.int l1), some (.int l2), some (.ref a3), some (.int (1 : Int32)), some (.int (0 : Int32))] [] M :=
  tr_eq [13, 18, 23, 28, 33, 38, 69, 75, 141, 161, 205, 220] 5 rfl
set_option maxRecDepth 100000 in
theorem eq_Clerk_read_75 (cl : Nat → List Value → ej_Mem → Option ej_R) (a0 : Nat) (l1 : Int32) (l2 : Int32) (a3 : Nat) (l4 : Int32) (l5 : Int32) (M : ej_Mem) : rn jm_Clerk_read cl 75 [some (.ref a0), some (.int l1), some (.int l2), some (.ref a3), some (.int l4), some (.int l5)] [] M =
    (if (12 : Int32) < l5 then
      (rn jm_Clerk_read cl 161 [some (.ref a0), some (.int l1), some (.int l2), some (.ref a3), some (.int l4), some (.int l5)] [] M) else
      ((if l4 = (0 : Int32) then
        (rn jm_Clerk_read cl 161 [some (.ref a0), some (.int l1), some (.int l2), some (.ref a3), some (.int l4), some (.int l5)] [] M) else
        (ckk (mC M a0 = 0) (bkI (cl jm_Clerk_clauseWord [.ref a0, .int l2, .int l5] M) fun x2 M1 =>
        ckk (mC M1 a0 = 0) (bkV (cl jm_Clerk_readClause [.ref a0, .ref a3, .int x2] M1) fun M3 =>
        ckk (mC M3 a0 = 0) ((if (mI M3 a0 3) = (0 : Int32) then
          (ckk (mC M3 a0 = 0) (bkI (cl jm_Clerk_look [.ref a0] M3) fun x5 M4 =>
          (if x5 = (59 : Int32) then
            (ckk (mC M4 a0 = 0) ((if (1 : Int32) = (0 : Int32) then
              (ckk (mC M4 a0 = 0) (rn jm_Clerk_read cl 141 [some (.ref a0), some (.int l1), some (.int l2), some (.ref a3), some (.int (1 : Int32)), some (.int l5)] [] (setI M4 a0 2 ((mI M4 a0 2) + (0 : Int32))))) else
              (ckk (mC M4 a0 = 0) (rn jm_Clerk_read cl 141 [some (.ref a0), some (.int l1), some (.int l2), some (.ref a3), some (.int (1 : Int32)), some (.int l5)] [] (setI M4 a0 2 ((mI M4 a0 2) + (1 : Int32)))))))) else
            (ckk (mC M4 a0 = 0) ((if (0 : Int32) = (0 : Int32) then
              (ckk (mC M4 a0 = 0) (rn jm_Clerk_read cl 141 [some (.ref a0), some (.int l1), some (.int l2), some (.ref a3), some (.int (0 : Int32)), some (.int l5)] [] (setI M4 a0 2 ((mI M4 a0 2) + (0 : Int32))))) else
              (ckk (mC M4 a0 = 0) (rn jm_Clerk_read cl 141 [some (.ref a0), some (.int l1), some (.int l2), some (.ref a3), some (.int (0 : Int32)), some (.int l5)] [] (setI M4 a0 2 ((mI M4 a0 2) + (1 : Int32))))))))))) else
          (ckk (mC M3 a0 = 0) ((if (0 : Int32) = (0 : Int32) then
            (ckk (mC M3 a0 = 0) (rn jm_Clerk_read cl 141 [some (.ref a0), some (.int l1), some (.int l2), some (.ref a3), some (.int (0 : Int32)), some (.int l5)] [] (setI M3 a0 2 ((mI M3 a0 2) + (0 : Int32))))) else
            (ckk (mC M3 a0 = 0) (rn jm_Clerk_read cl 141 [some (.ref a0), some (.int l1), some (.int l2), some (.ref a3), some (.int (0 : Int32)), some (.int l5)] [] (setI M3 a0 2 ((mI M3 a0 2) + (1 : Int32)))))))))))))))) :=
  tr_eq [13, 18, 23, 28, 33, 38, 69, 75, 141, 161, 205, 220] 32 rfl
set_option maxRecDepth 100000 in
theorem eq_Clerk_read_141 (cl : Nat → List Value → ej_Mem → Option ej_R) (a0 : Nat) (l1 : Int32) (l2 : Int32) (a3 : Nat) (l4 : Int32) (l5 : Int32) (M : ej_Mem) : rn jm_Clerk_read cl 141 [some (.ref a0), some (.int l1), some (.int l2), some (.ref a3), some (.int l4), some (.int l5)] [] M =
    rn jm_Clerk_read cl 75 [some (.ref a0), some (.int l1), some (.int l2), some (.ref a3), some (.int l4), some (.int (l5 + (1 : Int32)))] [] M :=
  tr_eq [13, 18, 23, 28, 33, 38, 69, 75, 141, 161, 205, 220] 3 rfl
set_option maxRecDepth 100000 in
theorem eq_Clerk_read_161 (cl : Nat → List Value → ej_Mem → Option ej_R) (a0 : Nat) (l1 : Int32) (l2 : Int32) (a3 : Nat) (o4 : Option Value) (o5 : Option Value) (M : ej_Mem) : rn jm_Clerk_read cl 161 [some (.ref a0), some (.int l1), some (.int l2), some (.ref a3), o4, o5] [] M =
    ckk (mC M a0 = 0) ((if (mI M a0 3) = (0 : Int32) then
      (ckk (mC M a0 = 0) (bkI (cl jm_Clerk_look [.ref a0] M) fun x6 M5 =>
      (if x6 = (-1 : Int32) then
        (ckk (mC M5 a0 = 0) ((if (mI M5 a0 3) = (0 : Int32) then
          (ckk (mC M5 a0 = 0) (deR (mR M5 a0 5) fun q7 => ckk (mC M5 a0 = 0) (bkQ (cl jm_Arrs_copyOf_59c91 [.ref q7, .int (mI M5 a0 6)] M5)
            (fun M8 => ckk (mC M8 a3 = 7) (rn jm_Clerk_read cl 205 [some (.ref a0), some (.int l1), some (.int l2), some (.ref a3), o4, o5] [] (setR M8 a3 6 none)))
            (fun q9 M10 => ckk (mC M10 a3 = 7) (rn jm_Clerk_read cl 205 [some (.ref a0), some (.int l1), some (.int l2), some (.ref a3), o4, o5] [] (setR M10 a3 6 (some q9))))))) else
          (some (some (.null), M5))))) else
        (ckk (mC M5 a0 = 0) (bkV (cl jm_Clerk_fail [.ref a0, .int (0 : Int32)] M5) fun M11 =>
        ckk (mC M11 a0 = 0) ((if (mI M11 a0 3) = (0 : Int32) then
          (ckk (mC M11 a0 = 0) (deR (mR M11 a0 5) fun q12 => ckk (mC M11 a0 = 0) (bkQ (cl jm_Arrs_copyOf_59c91 [.ref q12, .int (mI M11 a0 6)] M11)
            (fun M13 => ckk (mC M13 a3 = 7) (rn jm_Clerk_read cl 205 [some (.ref a0), some (.int l1), some (.int l2), some (.ref a3), o4, o5] [] (setR M13 a3 6 none)))
            (fun q14 M15 => ckk (mC M15 a3 = 7) (rn jm_Clerk_read cl 205 [some (.ref a0), some (.int l1), some (.int l2), some (.ref a3), o4, o5] [] (setR M15 a3 6 (some q14))))))) else
          (some (some (.null), M11))))))))) else
      (ckk (mC M a0 = 0) ((if (mI M a0 3) = (0 : Int32) then
        (ckk (mC M a0 = 0) (deR (mR M a0 5) fun q1 => ckk (mC M a0 = 0) (bkQ (cl jm_Arrs_copyOf_59c91 [.ref q1, .int (mI M a0 6)] M)
          (fun M2 => ckk (mC M2 a3 = 7) (rn jm_Clerk_read cl 205 [some (.ref a0), some (.int l1), some (.int l2), some (.ref a3), o4, o5] [] (setR M2 a3 6 none)))
          (fun q3 M4 => ckk (mC M4 a3 = 7) (rn jm_Clerk_read cl 205 [some (.ref a0), some (.int l1), some (.int l2), some (.ref a3), o4, o5] [] (setR M4 a3 6 (some q3))))))) else
        (some (some (.null), M))))))) :=
  tr_eq [13, 18, 23, 28, 33, 38, 69, 75, 141, 161, 205, 220] 21 rfl
set_option maxRecDepth 100000 in
theorem eq_Clerk_read_205 (cl : Nat → List Value → ej_Mem → Option ej_R) (a0 : Nat) (l1 : Int32) (l2 : Int32) (a3 : Nat) (o4 : Option Value) (o5 : Option Value) (M : ej_Mem) : rn jm_Clerk_read cl 205 [some (.ref a0), some (.int l1), some (.int l2), some (.ref a3), o4, o5] [] M =
    ckk (mC M a0 = 0) (deR (mR M a0 7) fun q1 => ckk (mC M a0 = 0) (bkQ (cl jm_Arrs_copyOf_59c91 [.ref q1, .int (mI M a0 8)] M)
      (fun M2 => ckk (mC M2 a3 = 7) (rn jm_Clerk_read cl 220 [some (.ref a0), some (.int l1), some (.int l2), some (.ref a3), o4, o5] [] (setR M2 a3 7 none)))
      (fun q3 M4 => ckk (mC M4 a3 = 7) (rn jm_Clerk_read cl 220 [some (.ref a0), some (.int l1), some (.int l2), some (.ref a3), o4, o5] [] (setR M4 a3 7 (some q3)))))) :=
  tr_eq [13, 18, 23, 28, 33, 38, 69, 75, 141, 161, 205, 220] 8 rfl
set_option maxRecDepth 100000 in
theorem eq_Clerk_read_220 (cl : Nat → List Value → ej_Mem → Option ej_R) (a0 : Nat) (l1 : Int32) (l2 : Int32) (a3 : Nat) (o4 : Option Value) (o5 : Option Value) (M : ej_Mem) : rn jm_Clerk_read cl 220 [some (.ref a0), some (.int l1), some (.int l2), some (.ref a3), o4, o5] [] M =
    some (some (.ref a3), M) :=
  tr_eq [13, 18, 23, 28, 33, 38, 69, 75, 141, 161, 205, 220] 2 rfl
theorem ca_Clerk_read (d : Nat) (a0 : Nat) (l1 : Int32) (l2 : Int32) (M : ej_Mem) : cal (d + 1) jm_Clerk_read [.ref a0, .int l1, .int l2] M = rn jm_Clerk_read (cal d) 0 [some (.ref a0), some (.int l1), some (.int l2), none, none, none] [] M := call_eq (show 3 ≤ 6 by decide)
set_option maxRecDepth 100000 in
theorem eq_Clerk_clauseWord_0 (cl : Nat → List Value → ej_Mem → Option ej_R) (a0 : Nat) (l1 : Int32) (l2 : Int32) (M : ej_Mem) : rn jm_Clerk_clauseWord cl 0 [some (.ref a0), some (.int l1), some (.int l2), none, none] [] M =
    ckk (mC M a0 = 0) (bkI (cl jm_Clerk_look [.ref a0] M) fun x2 M1 =>
    (if l1 = (0 : Int32) then
      (ckk (mC M1 a0 = 0) (bkI (cl jm_Clerk_moveWord [.ref a0] M1) fun x6 M5 =>
      rn jm_Clerk_clauseWord cl 20 [some (.ref a0), some (.int l1), some (.int l2), none, none] [.int x6] M5)) else
      (ckk (mC M1 a0 = 0) (bkI (cl jm_Clerk_giftWord [.ref a0] M1) fun x4 M3 =>
      rn jm_Clerk_clauseWord cl 20 [some (.ref a0), some (.int l1), some (.int l2), none, none] [.int x4] M3)))) :=
  tr_eq [20, 31, 46, 47, 72, 79] 9 rfl
set_option maxRecDepth 100000 in
theorem eq_Clerk_clauseWord_20 (cl : Nat → List Value → ej_Mem → Option ej_R) (a0 : Nat) (l1 : Int32) (l2 : Int32) (o3 : Option Value) (o4 : Option Value) (s0 : Int32) (M : ej_Mem) : rn jm_Clerk_clauseWord cl 20 [some (.ref a0), some (.int l1), some (.int l2), o3, o4] [.int s0] M =
    (if s0 = (4 : Int32) then
      (rn jm_Clerk_clauseWord cl 31 [some (.ref a0), some (.int l1), some (.int l2), some (.int s0), o4] [] M) else
      ((if s0 = (5 : Int32) then
        (rn jm_Clerk_clauseWord cl 31 [some (.ref a0), some (.int l1), some (.int l2), some (.int s0), o4] [] M) else
        (rn jm_Clerk_clauseWord cl 46 [some (.ref a0), some (.int l1), some (.int l2), some (.int s0), o4] [] M)))) :=
  tr_eq [20, 31, 46, 47, 72, 79] 8 rfl
set_option maxRecDepth 100000 in
theorem eq_Clerk_clauseWord_31 (cl : Nat → List Value → ej_Mem → Option ej_R) (a0 : Nat) (l1 : Int32) (l2 : Int32) (l3 : Int32) (o4 : Option Value) (M : ej_Mem) : rn jm_Clerk_clauseWord cl 31 [some (.ref a0), some (.int l1), some (.int l2), some (.int l3), o4] [] M =
    ckk (mC M a0 = 0) ((if (((mI M a0 4) >>> (l3 &&& 31)) &&& (1 : Int32)) = (0 : Int32) then
      (rn jm_Clerk_clauseWord cl 46 [some (.ref a0), some (.int l1), some (.int l2), some (.int l3), o4] [] M) else
      (rn jm_Clerk_clauseWord cl 47 [some (.ref a0), some (.int l1), some (.int l2), some (.int l3), o4] [.int (1 : Int32)] M))) :=
  tr_eq [20, 31, 46, 47, 72, 79] 10 rfl
set_option maxRecDepth 100000 in
theorem eq_Clerk_clauseWord_46 (cl : Nat → List Value → ej_Mem → Option ej_R) (a0 : Nat) (l1 : Int32) (l2 : Int32) (l3 : Int32) (o4 : Option Value) (M : ej_Mem) : rn jm_Clerk_clauseWord cl 46 [some (.ref a0), some (.int l1), some (.int l2), some (.int l3), o4] [] M =
    rn jm_Clerk_clauseWord cl 47 [some (.ref a0), some (.int l1), some (.int l2), some (.int l3), o4] [.int (0 : Int32)] M :=
  tr_eq [20, 31, 46, 47, 72, 79] 2 rfl
set_option maxRecDepth 100000 in
theorem eq_Clerk_clauseWord_47 (cl : Nat → List Value → ej_Mem → Option ej_R) (a0 : Nat) (l1 : Int32) (l2 : Int32) (l3 : Int32) (o4 : Option Value) (s0 : Int32) (M : ej_Mem) : rn jm_Clerk_clauseWord cl 47 [some (.ref a0), some (.int l1), some (.int l2), some (.int l3), o4] [.int s0] M =
    (if l3 = (0 : Int32) then
      (ckk (mC M a0 = 0) (bkV (cl jm_Clerk_fail [.ref a0, .int (0 : Int32)] M) fun M1 =>
      rn jm_Clerk_clauseWord cl 79 [some (.ref a0), some (.int l1), some (.int l2), some (.int l3), some (.int s0)] [] M1)) else
      ((if (12 : Int32) ≤ l2 then
        (rn jm_Clerk_clauseWord cl 72 [some (.ref a0), some (.int l1), some (.int l2), some (.int l3), some (.int s0)] [] M) else
        ((if s0 = (0 : Int32) then
          (rn jm_Clerk_clauseWord cl 79 [some (.ref a0), some (.int l1), some (.int l2), some (.int l3), some (.int s0)] [] M) else
          (rn jm_Clerk_clauseWord cl 72 [some (.ref a0), some (.int l1), some (.int l2), some (.int l3), some (.int s0)] [] M)))))) :=
  tr_eq [20, 31, 46, 47, 72, 79] 9 rfl
set_option maxRecDepth 100000 in
theorem eq_Clerk_clauseWord_72 (cl : Nat → List Value → ej_Mem → Option ej_R) (a0 : Nat) (l1 : Int32) (l2 : Int32) (l3 : Int32) (l4 : Int32) (M : ej_Mem) : rn jm_Clerk_clauseWord cl 72 [some (.ref a0), some (.int l1), some (.int l2), some (.int l3), some (.int l4)] [] M =
    ckk (mC M a0 = 0) (bkV (cl jm_Clerk_fail [.ref a0, .int (4 : Int32)] M) fun M1 =>
    some (some (.int (0 : Int32)), M1)) :=
  tr_eq [20, 31, 46, 47, 72, 79] 5 rfl
set_option maxRecDepth 100000 in
theorem eq_Clerk_clauseWord_79 (cl : Nat → List Value → ej_Mem → Option ej_R) (a0 : Nat) (l1 : Int32) (l2 : Int32) (l3 : Int32) (l4 : Int32) (M : ej_Mem) : rn jm_Clerk_clauseWord cl 79 [some (.ref a0), some (.int l1), some (.int l2), some (.int l3), some (.int l4)] [] M =
    ckk (mC M a0 = 0) (ckk (mC M a0 = 0) (ckk (mC (setI M a0 4 ((mI M a0 4) ||| ((1 : Int32) <<< (l3 &&& 31)))) a0 = 0) (bkV (cl jm_Clerk_skipWord [.ref a0] (setI M a0 4 ((mI M a0 4) ||| ((1 : Int32) <<< (l3 &&& 31))))) fun M1 =>
    some (some (.int l3), M1)))) :=
  tr_eq [20, 31, 46, 47, 72, 79] 12 rfl
theorem ca_Clerk_clauseWord (d : Nat) (a0 : Nat) (l1 : Int32) (l2 : Int32) (M : ej_Mem) : cal (d + 1) jm_Clerk_clauseWord [.ref a0, .int l1, .int l2] M = rn jm_Clerk_clauseWord (cal d) 0 [some (.ref a0), some (.int l1), some (.int l2), none, none] [] M := call_eq (show 3 ≤ 5 by decide)
set_option maxRecDepth 100000 in
theorem eq_Clerk_moveWord_0 (cl : Nat → List Value → ej_Mem → Option ej_R) (a0 : Nat) (M : ej_Mem) : rn jm_Clerk_moveWord cl 0 [some (.ref a0)] [] M =
    ckk (mC M a0 = 0) (bkI (cl jm_Clerk_isWord [.ref a0, .ref 3] M) fun x2 M1 =>
    (if x2 = (0 : Int32) then
      (ckk (mC M1 a0 = 0) (bkI (cl jm_Clerk_isWord [.ref a0, .ref 4] M1) fun x4 M3 =>
      (if x4 = (0 : Int32) then
        (ckk (mC M3 a0 = 0) (bkI (cl jm_Clerk_isWord [.ref a0, .ref 5] M3) fun x6 M5 =>
        (if x6 = (0 : Int32) then
          (ckk (mC M5 a0 = 0) (bkI (cl jm_Clerk_isWord [.ref a0, .ref 6] M5) fun x8 M7 =>
          (if x8 = (0 : Int32) then
            (ckk (mC M7 a0 = 0) (bkI (cl jm_Clerk_isWord [.ref a0, .ref 7] M7) fun x10 M9 =>
            (if x10 = (0 : Int32) then
              (ckk (mC M9 a0 = 0) (bkI (cl jm_Clerk_isWord [.ref a0, .ref 8] M9) fun x12 M11 =>
              (if x12 = (0 : Int32) then
                (ckk (mC M11 a0 = 0) (bkI (cl jm_Clerk_isWord [.ref a0, .ref 9] M11) fun x14 M13 =>
                (if x14 = (0 : Int32) then
                  (some (some (.int (0 : Int32)), M13)) else
                  (some (some (.int (7 : Int32)), M13))))) else
                (some (some (.int (6 : Int32)), M11))))) else
              (some (some (.int (5 : Int32)), M9))))) else
            (some (some (.int (4 : Int32)), M7))))) else
          (some (some (.int (3 : Int32)), M5))))) else
        (some (some (.int (2 : Int32)), M3))))) else
      (some (some (.int (1 : Int32)), M1)))) :=
  tr_eq [] 31 rfl
theorem ca_Clerk_moveWord (d : Nat) (a0 : Nat) (M : ej_Mem) : cal (d + 1) jm_Clerk_moveWord [.ref a0] M = rn jm_Clerk_moveWord (cal d) 0 [some (.ref a0)] [] M := call_eq (show 1 ≤ 1 by decide)
set_option maxRecDepth 100000 in
theorem eq_Clerk_giftWord_0 (cl : Nat → List Value → ej_Mem → Option ej_R) (a0 : Nat) (M : ej_Mem) : rn jm_Clerk_giftWord cl 0 [some (.ref a0)] [] M =
    ckk (mC M a0 = 0) (bkI (cl jm_Clerk_isWord [.ref a0, .ref 10] M) fun x2 M1 =>
    (if x2 = (0 : Int32) then
      (ckk (mC M1 a0 = 0) (bkI (cl jm_Clerk_isWord [.ref a0, .ref 11] M1) fun x4 M3 =>
      (if x4 = (0 : Int32) then
        (some (some (.int (0 : Int32)), M3)) else
        (some (some (.int (9 : Int32)), M3))))) else
      (some (some (.int (8 : Int32)), M1)))) :=
  tr_eq [] 11 rfl
theorem ca_Clerk_giftWord (d : Nat) (a0 : Nat) (M : ej_Mem) : cal (d + 1) jm_Clerk_giftWord [.ref a0] M = rn jm_Clerk_giftWord (cal d) 0 [some (.ref a0)] [] M := call_eq (show 1 ≤ 1 by decide)
set_option maxRecDepth 100000 in
theorem eq_Clerk_readClause_0 (cl : Nat → List Value → ej_Mem → Option ej_R) (a0 : Nat) (a1 : Nat) (l2 : Int32) (M : ej_Mem) : rn jm_Clerk_readClause cl 0 [some (.ref a0), some (.ref a1), some (.int l2), none] [] M =
    (if l2 = (1 : Int32) then
      (ckk (mC M a1 = 7) (ckk (mC M a0 = 0) (bkI (cl jm_Clerk_readTest [.ref a0, .int (mI M a1 5), .int (-2 : Int32)] M) fun x2 M1 =>
      ckk (mC M1 a1 = 7) (some (none, (setI M1 a1 5 x2)))))) else if l2 = (2 : Int32) then
      (ckk (mC M a1 = 7) (ckk (mC M a0 = 0) (bkI (cl jm_Clerk_readRights [.ref a0] M) fun x4 M3 =>
      ckk (mC M3 a1 = 7) (some (none, (setI M3 a1 0 ((mI M a1 0) ||| x4))))))) else if l2 = (3 : Int32) then
      (ckk (mC M a1 = 7) (ckk (mC M a0 = 0) (bkI (cl jm_Clerk_readRights [.ref a0] M) fun x6 M5 =>
      ckk (mC M5 a1 = 7) (some (none, (setI M5 a1 1 ((mI M a1 1) ||| x6))))))) else if l2 = (4 : Int32) then
      (ckk (mC M a0 = 0) (bkI (cl jm_Clerk_readNumber [.ref a0, .int (999 : Int32)] M) fun x8 M7 =>
      ckk (mC M7 a1 = 7) (some (none, (setI M7 a1 2 x8))))) else if l2 = (5 : Int32) then
      (ckk (mC M a0 = 0) (bkI (cl jm_Clerk_readNumber [.ref a0, .int (9999 : Int32)] M) fun x10 M9 =>
      ckk (mC M9 a1 = 7) (some (none, (setI M9 a1 3 x10))))) else if l2 = (6 : Int32) then
      (ckk (mC M a1 = 7) (ckk (mC M a0 = 0) (bkI (cl jm_Clerk_readNumber [.ref a0, .int (15 : Int32)] M) fun x12 M11 =>
      ckk (mC M11 a1 = 7) (some (none, (setI M11 a1 4 ((mI M a1 4) ||| ((1 : Int32) <<< (x12 &&& 31))))))))) else if l2 = (7 : Int32) then
      (ckk (mC M a0 = 0) (bkI (cl jm_Clerk_readNumber [.ref a0, .int (15 : Int32)] M) fun x14 M13 =>
      ckk (mC M13 a0 = 0) (bkI (cl jm_Clerk_skipIf [.ref a0] M13) fun x16 M15 =>
      (if x16 = (0 : Int32) then
        (ckk (mC M15 a0 = 0) (bkV (cl jm_Clerk_addTurn [.ref a0, .int x14, .int (-1 : Int32)] M15) fun M17 =>
        some (none, M17))) else
        (ckk (mC M15 a0 = 0) (bkI (cl jm_Clerk_readTest [.ref a0, .int (-1 : Int32), .int (-2 : Int32)] M15) fun x19 M18 =>
        ckk (mC M18 a0 = 0) (bkV (cl jm_Clerk_addTurn [.ref a0, .int x14, .int x19] M18) fun M20 =>
        some (none, M20)))))))) else if l2 = (8 : Int32) then
      (ckk (mC M a1 = 7) (ckk (mC M a0 = 0) (bkI (cl jm_Clerk_readRights [.ref a0] M) fun x22 M21 =>
      ckk (mC M21 a1 = 7) (some (none, (setI M21 a1 0 ((mI M a1 0) ||| x22))))))) else if l2 = (9 : Int32) then
      (ckk (mC M a1 = 7) (ckk (mC M a0 = 0) (bkI (cl jm_Clerk_readTest [.ref a0, .int (-1 : Int32), .int (mI M a1 5)] M) fun x24 M23 =>
      ckk (mC M23 a1 = 7) (some (none, (setI M23 a1 5 x24)))))) else (some (none, M))) :=
  tr_eq [] 19 rfl
theorem ca_Clerk_readClause (d : Nat) (a0 : Nat) (a1 : Nat) (l2 : Int32) (M : ej_Mem) : cal (d + 1) jm_Clerk_readClause [.ref a0, .ref a1, .int l2] M = rn jm_Clerk_readClause (cal d) 0 [some (.ref a0), some (.ref a1), some (.int l2), none] [] M := call_eq (show 3 ≤ 4 by decide)
set_option maxRecDepth 100000 in
theorem eq_Clerk_skipIf_0 (cl : Nat → List Value → ej_Mem → Option ej_R) (a0 : Nat) (M : ej_Mem) : rn jm_Clerk_skipIf cl 0 [some (.ref a0)] [] M =
    ckk (mC M a0 = 0) (bkI (cl jm_Clerk_look [.ref a0] M) fun x2 M1 =>
    ckk (mC M1 a0 = 0) ((if (mI M1 a0 3) = (0 : Int32) then
      (ckk (mC M1 a0 = 0) (bkI (cl jm_Clerk_isWord [.ref a0, .ref 16] M1) fun x4 M3 =>
      (if x4 = (0 : Int32) then
        (ckk ((0 : Int32) = 0 ∨ (0 : Int32) = 1) (some (some (.int (0 : Int32)), M3))) else
        (ckk (mC M3 a0 = 0) (bkV (cl jm_Clerk_skipWord [.ref a0] M3) fun M5 =>
        ckk ((1 : Int32) = 0 ∨ (1 : Int32) = 1) (some (some (.int (1 : Int32)), M5))))))) else
      (ckk ((0 : Int32) = 0 ∨ (0 : Int32) = 1) (some (some (.int (0 : Int32)), M1)))))) :=
  tr_eq [] 14 rfl
theorem ca_Clerk_skipIf (d : Nat) (a0 : Nat) (M : ej_Mem) : cal (d + 1) jm_Clerk_skipIf [.ref a0] M = rn jm_Clerk_skipIf (cal d) 0 [some (.ref a0)] [] M := call_eq (show 1 ≤ 1 by decide)
set_option maxRecDepth 100000 in
theorem eq_Clerk_addTurn_0 (cl : Nat → List Value → ej_Mem → Option ej_R) (a0 : Nat) (l1 : Int32) (l2 : Int32) (M : ej_Mem) : rn jm_Clerk_addTurn cl 0 [some (.ref a0), some (.int l1), some (.int l2)] [] M =
    ckk (mC M a0 = 0) (ckk (mC M a0 = 0) (deR (mR M a0 7) fun q1 => ckk (100 ≤ mC M q1 ∧ mC M q1 ≤ 104) ((if (Int32.ofNat (mN M q1)) < ((mI M a0 8) + (2 : Int32)) then
      (some (none, M)) else
      (ckk (mC M a0 = 0) (deR (mR M a0 7) fun q2 => ckk (mC M a0 = 0) (ckk (mC M q2 = 100) (ckb (mI M a0 8) (mN M q2) (ckk (mC (setA M q2 (Int32.toNatClampNeg (mI M a0 8)) l1) a0 = 0) (deR (mR (setA M q2 (Int32.toNatClampNeg (mI M a0 8)) l1) a0 7) fun q3 => ckk (mC (setA M q2 (Int32.toNatClampNeg (mI M a0 8)) l1) a0 = 0) (ckk (mC (setA M q2 (Int32.toNatClampNeg (mI M a0 8)) l1) q3 = 100) (ckb ((mI (setA M q2 (Int32.toNatClampNeg (mI M a0 8)) l1) a0 8) + (1 : Int32)) (mN (setA M q2 (Int32.toNatClampNeg (mI M a0 8)) l1) q3) (ckk (mC (setA (setA M q2 (Int32.toNatClampNeg (mI M a0 8)) l1) q3 (Int32.toNatClampNeg ((mI (setA M q2 (Int32.toNatClampNeg (mI M a0 8)) l1) a0 8) + (1 : Int32))) l2) a0 = 0) (ckk (mC (setA (setA M q2 (Int32.toNatClampNeg (mI M a0 8)) l1) q3 (Int32.toNatClampNeg ((mI (setA M q2 (Int32.toNatClampNeg (mI M a0 8)) l1) a0 8) + (1 : Int32))) l2) a0 = 0) (some (none, (setI (setA (setA M q2 (Int32.toNatClampNeg (mI M a0 8)) l1) q3 (Int32.toNatClampNeg ((mI (setA M q2 (Int32.toNatClampNeg (mI M a0 8)) l1) a0 8) + (1 : Int32))) l2) a0 8 ((mI (setA (setA M q2 (Int32.toNatClampNeg (mI M a0 8)) l1) q3 (Int32.toNatClampNeg ((mI (setA M q2 (Int32.toNatClampNeg (mI M a0 8)) l1) a0 8) + (1 : Int32))) l2) a0 8) + (2 : Int32))))))))))))))))))) :=
  tr_eq [] 29 rfl
theorem ca_Clerk_addTurn (d : Nat) (a0 : Nat) (l1 : Int32) (l2 : Int32) (M : ej_Mem) : cal (d + 1) jm_Clerk_addTurn [.ref a0, .int l1, .int l2] M = rn jm_Clerk_addTurn (cal d) 0 [some (.ref a0), some (.int l1), some (.int l2)] [] M := call_eq (show 3 ≤ 3 by decide)
set_option maxRecDepth 100000 in
theorem eq_Clerk_readTest_0 (cl : Nat → List Value → ej_Mem → Option ej_R) (a0 : Nat) (l1 : Int32) (l2 : Int32) (M : ej_Mem) : rn jm_Clerk_readTest cl 0 [some (.ref a0), some (.int l1), some (.int l2), none, none, none, none] [] M =
    ckk (mC M a0 = 0) (ckk (mC (setI M a0 10 (0 : Int32)) a0 = 0) (ckk (mC (setI (setI M a0 10 (0 : Int32)) a0 11 (0 : Int32)) a0 = 0) (ckk (mC (setI (setI (setI M a0 10 (0 : Int32)) a0 11 (0 : Int32)) a0 12 (0 : Int32)) a0 = 0) (rn jm_Clerk_readTest cl 28 [some (.ref a0), some (.int l1), some (.int l2), some (.int (1 : Int32)), some (.int (1 : Int32)), some (.int (0 : Int32)), none] [] (setI (setI (setI (setI M a0 10 (0 : Int32)) a0 11 (0 : Int32)) a0 12 (0 : Int32)) a0 16 (0 : Int32)))))) :=
  tr_eq [28] 19 rfl
set_option maxRecDepth 100000 in
theorem eq_Clerk_readTest_28 (cl : Nat → List Value → ej_Mem → Option ej_R) (a0 : Nat) (l1 : Int32) (l2 : Int32) (l3 : Int32) (l4 : Int32) (l5 : Int32) (o6 : Option Value) (M : ej_Mem) : rn jm_Clerk_readTest cl 28 [some (.ref a0), some (.int l1), some (.int l2), some (.int l3), some (.int l4), some (.int l5), o6] [] M =
    (if (400 : Int32) < l5 then
      (ckk (mC M a0 = 0) ((if (mI M a0 12) ≤ (0 : Int32) then
        (ckk (mC M a0 = 0) ((if (mI M a0 3) = (0 : Int32) then
          (ckk (mC M a0 = 0) (bkV (cl jm_Clerk_joinDownTo [.ref a0, .int (1 : Int32)] M) fun M1 =>
          ckk (mC M1 a0 = 0) (deR (mR M1 a0 14) fun q2 => ckk (mC M1 q2 = 100) (ckb (0 : Int32) (mN M1 q2) (ckk (mC M1 a0 = 0) (bkV (cl jm_Clerk_fillHoles [.ref a0, .int (aI M1 q2 (Int32.toNatClampNeg (0 : Int32))), .int l1] M1) fun M3 =>
          ckk (mC M3 a0 = 0) (deR (mR M3 a0 15) fun q4 => ckk (mC M3 q4 = 100) (ckb (0 : Int32) (mN M3 q4) (ckk (mC M3 a0 = 0) (bkV (cl jm_Clerk_fillHoles [.ref a0, .int (aI M3 q4 (Int32.toNatClampNeg (0 : Int32))), .int l2] M3) fun M5 =>
          ckk (mC M5 a0 = 0) (deR (mR M5 a0 13) fun q6 => ckk (mC M5 q6 = 100) (ckb (0 : Int32) (mN M5 q6) (some (some (.int (aI M5 q6 (Int32.toNatClampNeg (0 : Int32)))), M5)))))))))))))) else
          (some (some (.int (-2 : Int32)), M))))) else
        (ckk (mC M a0 = 0) (bkV (cl jm_Clerk_fail [.ref a0, .int (0 : Int32)] M) fun M7 =>
        ckk (mC M7 a0 = 0) ((if (mI M7 a0 3) = (0 : Int32) then
          (ckk (mC M7 a0 = 0) (bkV (cl jm_Clerk_joinDownTo [.ref a0, .int (1 : Int32)] M7) fun M8 =>
          ckk (mC M8 a0 = 0) (deR (mR M8 a0 14) fun q9 => ckk (mC M8 q9 = 100) (ckb (0 : Int32) (mN M8 q9) (ckk (mC M8 a0 = 0) (bkV (cl jm_Clerk_fillHoles [.ref a0, .int (aI M8 q9 (Int32.toNatClampNeg (0 : Int32))), .int l1] M8) fun M10 =>
          ckk (mC M10 a0 = 0) (deR (mR M10 a0 15) fun q11 => ckk (mC M10 q11 = 100) (ckb (0 : Int32) (mN M10 q11) (ckk (mC M10 a0 = 0) (bkV (cl jm_Clerk_fillHoles [.ref a0, .int (aI M10 q11 (Int32.toNatClampNeg (0 : Int32))), .int l2] M10) fun M12 =>
          ckk (mC M12 a0 = 0) (deR (mR M12 a0 13) fun q13 => ckk (mC M12 q13 = 100) (ckb (0 : Int32) (mN M12 q13) (some (some (.int (aI M12 q13 (Int32.toNatClampNeg (0 : Int32)))), M12)))))))))))))) else
          (some (some (.int (-2 : Int32)), M7))))))))) else
      ((if l4 = (0 : Int32) then
        (ckk (mC M a0 = 0) ((if (mI M a0 12) ≤ (0 : Int32) then
          (ckk (mC M a0 = 0) ((if (mI M a0 3) = (0 : Int32) then
            (ckk (mC M a0 = 0) (bkV (cl jm_Clerk_joinDownTo [.ref a0, .int (1 : Int32)] M) fun M14 =>
            ckk (mC M14 a0 = 0) (deR (mR M14 a0 14) fun q15 => ckk (mC M14 q15 = 100) (ckb (0 : Int32) (mN M14 q15) (ckk (mC M14 a0 = 0) (bkV (cl jm_Clerk_fillHoles [.ref a0, .int (aI M14 q15 (Int32.toNatClampNeg (0 : Int32))), .int l1] M14) fun M16 =>
            ckk (mC M16 a0 = 0) (deR (mR M16 a0 15) fun q17 => ckk (mC M16 q17 = 100) (ckb (0 : Int32) (mN M16 q17) (ckk (mC M16 a0 = 0) (bkV (cl jm_Clerk_fillHoles [.ref a0, .int (aI M16 q17 (Int32.toNatClampNeg (0 : Int32))), .int l2] M16) fun M18 =>
            ckk (mC M18 a0 = 0) (deR (mR M18 a0 13) fun q19 => ckk (mC M18 q19 = 100) (ckb (0 : Int32) (mN M18 q19) (some (some (.int (aI M18 q19 (Int32.toNatClampNeg (0 : Int32)))), M18)))))))))))))) else
            (some (some (.int (-2 : Int32)), M))))) else
          (ckk (mC M a0 = 0) (bkV (cl jm_Clerk_fail [.ref a0, .int (0 : Int32)] M) fun M20 =>
          ckk (mC M20 a0 = 0) ((if (mI M20 a0 3) = (0 : Int32) then
            (ckk (mC M20 a0 = 0) (bkV (cl jm_Clerk_joinDownTo [.ref a0, .int (1 : Int32)] M20) fun M21 =>
            ckk (mC M21 a0 = 0) (deR (mR M21 a0 14) fun q22 => ckk (mC M21 q22 = 100) (ckb (0 : Int32) (mN M21 q22) (ckk (mC M21 a0 = 0) (bkV (cl jm_Clerk_fillHoles [.ref a0, .int (aI M21 q22 (Int32.toNatClampNeg (0 : Int32))), .int l1] M21) fun M23 =>
            ckk (mC M23 a0 = 0) (deR (mR M23 a0 15) fun q24 => ckk (mC M23 q24 = 100) (ckb (0 : Int32) (mN M23 q24) (ckk (mC M23 a0 = 0) (bkV (cl jm_Clerk_fillHoles [.ref a0, .int (aI M23 q24 (Int32.toNatClampNeg (0 : Int32))), .int l2] M23) fun M25 =>
            ckk (mC M25 a0 = 0) (deR (mR M25 a0 13) fun q26 => ckk (mC M25 q26 = 100) (ckb (0 : Int32) (mN M25 q26) (some (some (.int (aI M25 q26 (Int32.toNatClampNeg (0 : Int32)))), M25)))))))))))))) else
            (some (some (.int (-2 : Int32)), M20))))))))) else
        (ckk (mC M a0 = 0) ((if (mI M a0 3) = (0 : Int32) then
          (ckk (mC M a0 = 0) (bkI (cl jm_Clerk_look [.ref a0] M) fun x41 M40 =>
          (if l3 = (0 : Int32) then
            (ckk (mC M40 a0 = 0) (bkI (cl jm_Clerk_isWord [.ref a0, .ref 14] M40) fun x43 M42 =>
            (if x43 = (0 : Int32) then
              (ckk (mC M42 a0 = 0) (bkI (cl jm_Clerk_isWord [.ref a0, .ref 15] M42) fun x47 M46 =>
              (if x47 = (0 : Int32) then
                ((if x41 = (93 : Int32) then
                  (ckk (mC M46 a0 = 0) ((if (mI M46 a0 12) ≤ (0 : Int32) then
                    (rn jm_Clerk_readTest cl 28 [some (.ref a0), some (.int l1), some (.int l2), some (.int l3), some (.int (0 : Int32)), some (.int (l5 + (1 : Int32))), some (.int x41)] [] M46) else
                    (ckk (mC M46 a0 = 0) (bkV (cl jm_Clerk_closeBracket [.ref a0] M46) fun M48 =>
                    rn jm_Clerk_readTest cl 28 [some (.ref a0), some (.int l1), some (.int l2), some (.int l3), some (.int l4), some (.int (l5 + (1 : Int32))), some (.int x41)] [] M48))))) else
                  (rn jm_Clerk_readTest cl 28 [some (.ref a0), some (.int l1), some (.int l2), some (.int l3), some (.int (0 : Int32)), some (.int (l5 + (1 : Int32))), some (.int x41)] [] M46))) else
                ((if x41 = (97 : Int32) then
                  (ckk (mC M46 a0 = 0) (bkV (cl jm_Clerk_readJoin [.ref a0, .int (2 : Int32)] M46) fun M50 =>
                  rn jm_Clerk_readTest cl 28 [some (.ref a0), some (.int l1), some (.int l2), some (.int (1 : Int32)), some (.int l4), some (.int (l5 + (1 : Int32))), some (.int x41)] [] M50)) else
                  (ckk (mC M46 a0 = 0) (bkV (cl jm_Clerk_readJoin [.ref a0, .int (1 : Int32)] M46) fun M49 =>
                  rn jm_Clerk_readTest cl 28 [some (.ref a0), some (.int l1), some (.int l2), some (.int (1 : Int32)), some (.int l4), some (.int (l5 + (1 : Int32))), some (.int x41)] [] M49))))))) else
              ((if x41 = (97 : Int32) then
                (ckk (mC M42 a0 = 0) (bkV (cl jm_Clerk_readJoin [.ref a0, .int (2 : Int32)] M42) fun M45 =>
                rn jm_Clerk_readTest cl 28 [some (.ref a0), some (.int l1), some (.int l2), some (.int (1 : Int32)), some (.int l4), some (.int (l5 + (1 : Int32))), some (.int x41)] [] M45)) else
                (ckk (mC M42 a0 = 0) (bkV (cl jm_Clerk_readJoin [.ref a0, .int (1 : Int32)] M42) fun M44 =>
                rn jm_Clerk_readTest cl 28 [some (.ref a0), some (.int l1), some (.int l2), some (.int (1 : Int32)), some (.int l4), some (.int (l5 + (1 : Int32))), some (.int x41)] [] M44))))))) else
            ((if x41 = (91 : Int32) then
              (ckk (mC M40 a0 = 0) (bkV (cl jm_Clerk_readFact [.ref a0, .int x41] M40) fun M51 =>
              rn jm_Clerk_readTest cl 28 [some (.ref a0), some (.int l1), some (.int l2), some (.int (1 : Int32)), some (.int l4), some (.int (l5 + (1 : Int32))), some (.int x41)] [] M51)) else
              (ckk (mC M40 a0 = 0) (bkI (cl jm_Clerk_isWord [.ref a0, .ref 12] M40) fun x53 M52 =>
              (if x53 = (0 : Int32) then
                (ckk (mC M52 a0 = 0) (bkV (cl jm_Clerk_readFact [.ref a0, .int x41] M52) fun M54 =>
                rn jm_Clerk_readTest cl 28 [some (.ref a0), some (.int l1), some (.int l2), some (.int (0 : Int32)), some (.int l4), some (.int (l5 + (1 : Int32))), some (.int x41)] [] M54)) else
                (ckk (mC M52 a0 = 0) (bkV (cl jm_Clerk_readFact [.ref a0, .int x41] M52) fun M55 =>
                rn jm_Clerk_readTest cl 28 [some (.ref a0), some (.int l1), some (.int l2), some (.int (1 : Int32)), some (.int l4), some (.int (l5 + (1 : Int32))), some (.int x41)] [] M55)))))))))) else
          (ckk (mC M a0 = 0) ((if (mI M a0 12) ≤ (0 : Int32) then
            (ckk (mC M a0 = 0) ((if (mI M a0 3) = (0 : Int32) then
              (ckk (mC M a0 = 0) (bkV (cl jm_Clerk_joinDownTo [.ref a0, .int (1 : Int32)] M) fun M27 =>
              ckk (mC M27 a0 = 0) (deR (mR M27 a0 14) fun q28 => ckk (mC M27 q28 = 100) (ckb (0 : Int32) (mN M27 q28) (ckk (mC M27 a0 = 0) (bkV (cl jm_Clerk_fillHoles [.ref a0, .int (aI M27 q28 (Int32.toNatClampNeg (0 : Int32))), .int l1] M27) fun M29 =>
              ckk (mC M29 a0 = 0) (deR (mR M29 a0 15) fun q30 => ckk (mC M29 q30 = 100) (ckb (0 : Int32) (mN M29 q30) (ckk (mC M29 a0 = 0) (bkV (cl jm_Clerk_fillHoles [.ref a0, .int (aI M29 q30 (Int32.toNatClampNeg (0 : Int32))), .int l2] M29) fun M31 =>
              ckk (mC M31 a0 = 0) (deR (mR M31 a0 13) fun q32 => ckk (mC M31 q32 = 100) (ckb (0 : Int32) (mN M31 q32) (some (some (.int (aI M31 q32 (Int32.toNatClampNeg (0 : Int32)))), M31)))))))))))))) else
              (some (some (.int (-2 : Int32)), M))))) else
            (ckk (mC M a0 = 0) (bkV (cl jm_Clerk_fail [.ref a0, .int (0 : Int32)] M) fun M33 =>
            ckk (mC M33 a0 = 0) ((if (mI M33 a0 3) = (0 : Int32) then
              (ckk (mC M33 a0 = 0) (bkV (cl jm_Clerk_joinDownTo [.ref a0, .int (1 : Int32)] M33) fun M34 =>
              ckk (mC M34 a0 = 0) (deR (mR M34 a0 14) fun q35 => ckk (mC M34 q35 = 100) (ckb (0 : Int32) (mN M34 q35) (ckk (mC M34 a0 = 0) (bkV (cl jm_Clerk_fillHoles [.ref a0, .int (aI M34 q35 (Int32.toNatClampNeg (0 : Int32))), .int l1] M34) fun M36 =>
              ckk (mC M36 a0 = 0) (deR (mR M36 a0 15) fun q37 => ckk (mC M36 q37 = 100) (ckb (0 : Int32) (mN M36 q37) (ckk (mC M36 a0 = 0) (bkV (cl jm_Clerk_fillHoles [.ref a0, .int (aI M36 q37 (Int32.toNatClampNeg (0 : Int32))), .int l2] M36) fun M38 =>
              ckk (mC M38 a0 = 0) (deR (mR M38 a0 13) fun q39 => ckk (mC M38 q39 = 100) (ckb (0 : Int32) (mN M38 q39) (some (some (.int (aI M38 q39 (Int32.toNatClampNeg (0 : Int32)))), M38)))))))))))))) else
              (some (some (.int (-2 : Int32)), M33))))))))))))))) :=
  tr_eq [28] 39 rfl
theorem ca_Clerk_readTest (d : Nat) (a0 : Nat) (l1 : Int32) (l2 : Int32) (M : ej_Mem) : cal (d + 1) jm_Clerk_readTest [.ref a0, .int l1, .int l2] M = rn jm_Clerk_readTest (cal d) 0 [some (.ref a0), some (.int l1), some (.int l2), none, none, none, none] [] M := call_eq (show 3 ≤ 7 by decide)
set_option maxRecDepth 100000 in
theorem eq_Clerk_readFact_0 (cl : Nat → List Value → ej_Mem → Option ej_R) (a0 : Nat) (l1 : Int32) (M : ej_Mem) : rn jm_Clerk_readFact cl 0 [some (.ref a0), some (.int l1), none] [] M =
    (if l1 = (91 : Int32) then
      ((if l1 = (91 : Int32) then
        (ckk (mC M a0 = 0) (bkV (cl jm_Clerk_readOpening [.ref a0, .int (0 : Int32)] M) fun M2 =>
        some (none, M2))) else
        (ckk (mC M a0 = 0) (bkV (cl jm_Clerk_readOpening [.ref a0, .int (3 : Int32)] M) fun M1 =>
        some (none, M1))))) else
      (ckk (mC M a0 = 0) (bkI (cl jm_Clerk_isWord [.ref a0, .ref 12] M) fun x4 M3 =>
      (if x4 = (0 : Int32) then
        (ckk (mC M3 a0 = 0) (bkI (cl jm_Clerk_isWord [.ref a0, .ref 13] M3) fun x6 M5 =>
        (if x6 = (0 : Int32) then
          (bkI (cl jm_Clerk_isRight [.int l1] M5) fun x13 M12 =>
          (if x13 = (0 : Int32) then
            (ckk (mC M12 a0 = 0) (bkV (cl jm_Clerk_fail [.ref a0, .int (0 : Int32)] M12) fun M19 =>
            some (none, M19))) else
            (ckk (mC M12 a0 = 0) (ckk (mC M12 a0 = 0) (deR (mR M12 a0 5) fun q14 => ckk (100 ≤ mC M12 q14 ∧ mC M12 q14 ≤ 104) ((if (mI M12 a0 6) < (Int32.ofNat (mN M12 q14)) then
              ((if x6 = (0 : Int32) then
                (ckk (mC M12 a0 = 0) (ckk (mC M12 a0 = 0) (ckk (mC (setI M12 a0 2 ((mI M12 a0 2) + (1 : Int32))) a0 = 0) (bkV (cl jm_Clerk_addFact [.ref a0, .int ((1 : Int32) <<< ((l1 - (65 : Int32)) &&& 31)), .int (1 : Int32), .int (1 : Int32)] (setI M12 a0 2 ((mI M12 a0 2) + (1 : Int32)))) fun M15 =>
                some (none, M15))))) else
                (ckk (mC M12 a0 = 0) (bkV (cl jm_Clerk_skipWord [.ref a0] M12) fun M16 =>
                ckk (mC M16 a0 = 0) (bkV (cl jm_Clerk_readCounted [.ref a0] M16) fun M17 =>
                some (none, M17)))))) else
              (ckk (mC M12 a0 = 0) (bkV (cl jm_Clerk_fail [.ref a0, .int (3 : Int32)] M12) fun M18 =>
              some (none, M18)))))))))) else
          (ckk (mC M5 a0 = 0) (ckk (mC M5 a0 = 0) (deR (mR M5 a0 5) fun q7 => ckk (100 ≤ mC M5 q7 ∧ mC M5 q7 ≤ 104) ((if (mI M5 a0 6) < (Int32.ofNat (mN M5 q7)) then
            ((if x6 = (0 : Int32) then
              (ckk (mC M5 a0 = 0) (ckk (mC M5 a0 = 0) (ckk (mC (setI M5 a0 2 ((mI M5 a0 2) + (1 : Int32))) a0 = 0) (bkV (cl jm_Clerk_addFact [.ref a0, .int ((1 : Int32) <<< ((l1 - (65 : Int32)) &&& 31)), .int (1 : Int32), .int (1 : Int32)] (setI M5 a0 2 ((mI M5 a0 2) + (1 : Int32)))) fun M8 =>
              some (none, M8))))) else
              (ckk (mC M5 a0 = 0) (bkV (cl jm_Clerk_skipWord [.ref a0] M5) fun M9 =>
              ckk (mC M9 a0 = 0) (bkV (cl jm_Clerk_readCounted [.ref a0] M9) fun M10 =>
              some (none, M10)))))) else
            (ckk (mC M5 a0 = 0) (bkV (cl jm_Clerk_fail [.ref a0, .int (3 : Int32)] M5) fun M11 =>
            some (none, M11))))))))))) else
        ((if l1 = (91 : Int32) then
          (ckk (mC M3 a0 = 0) (bkV (cl jm_Clerk_readOpening [.ref a0, .int (0 : Int32)] M3) fun M21 =>
          some (none, M21))) else
          (ckk (mC M3 a0 = 0) (bkV (cl jm_Clerk_readOpening [.ref a0, .int (3 : Int32)] M3) fun M20 =>
          some (none, M20))))))))) :=
  tr_eq [] 40 rfl
theorem ca_Clerk_readFact (d : Nat) (a0 : Nat) (l1 : Int32) (M : ej_Mem) : cal (d + 1) jm_Clerk_readFact [.ref a0, .int l1] M = rn jm_Clerk_readFact (cal d) 0 [some (.ref a0), some (.int l1), none] [] M := call_eq (show 2 ≤ 3 by decide)
set_option maxRecDepth 100000 in
theorem eq_Clerk_readOpening_0 (cl : Nat → List Value → ej_Mem → Option ej_R) (a0 : Nat) (l1 : Int32) (M : ej_Mem) : rn jm_Clerk_readOpening cl 0 [some (.ref a0), some (.int l1)] [] M =
    ckk (mC M a0 = 0) ((if (mI M a0 11) < (10 : Int32) then
      (ckk (mC M a0 = 0) (ckk (mC M a0 = 0) ((if l1 = (0 : Int32) then
        (ckk (mC (setI M a0 11 ((mI M a0 11) + (1 : Int32))) a0 = 0) (ckk (mC (setI M a0 11 ((mI M a0 11) + (1 : Int32))) a0 = 0) (ckk (mC (setI (setI M a0 11 ((mI M a0 11) + (1 : Int32))) a0 12 ((mI (setI M a0 11 ((mI M a0 11) + (1 : Int32))) a0 12) + (1 : Int32))) a0 = 0) (ckk (mC (setI (setI M a0 11 ((mI M a0 11) + (1 : Int32))) a0 12 ((mI (setI M a0 11 ((mI M a0 11) + (1 : Int32))) a0 12) + (1 : Int32))) a0 = 0) (ckk (mC (setI (setI (setI M a0 11 ((mI M a0 11) + (1 : Int32))) a0 12 ((mI (setI M a0 11 ((mI M a0 11) + (1 : Int32))) a0 12) + (1 : Int32))) a0 2 ((mI (setI (setI M a0 11 ((mI M a0 11) + (1 : Int32))) a0 12 ((mI (setI M a0 11 ((mI M a0 11) + (1 : Int32))) a0 12) + (1 : Int32))) a0 2) + (1 : Int32))) a0 = 0) (bkV (cl jm_Clerk_addWaiting [.ref a0, .int l1] (setI (setI (setI M a0 11 ((mI M a0 11) + (1 : Int32))) a0 12 ((mI (setI M a0 11 ((mI M a0 11) + (1 : Int32))) a0 12) + (1 : Int32))) a0 2 ((mI (setI (setI M a0 11 ((mI M a0 11) + (1 : Int32))) a0 12 ((mI (setI M a0 11 ((mI M a0 11) + (1 : Int32))) a0 12) + (1 : Int32))) a0 2) + (1 : Int32)))) fun M3 =>
        some (none, M3))))))) else
        (ckk (mC (setI M a0 11 ((mI M a0 11) + (1 : Int32))) a0 = 0) (bkV (cl jm_Clerk_skipWord [.ref a0] (setI M a0 11 ((mI M a0 11) + (1 : Int32)))) fun M1 =>
        ckk (mC M1 a0 = 0) (bkV (cl jm_Clerk_addWaiting [.ref a0, .int l1] M1) fun M2 =>
        some (none, M2)))))))) else
      (ckk (mC M a0 = 0) (bkV (cl jm_Clerk_fail [.ref a0, .int (2 : Int32)] M) fun M4 =>
      some (none, M4))))) :=
  tr_eq [] 29 rfl
theorem ca_Clerk_readOpening (d : Nat) (a0 : Nat) (l1 : Int32) (M : ej_Mem) : cal (d + 1) jm_Clerk_readOpening [.ref a0, .int l1] M = rn jm_Clerk_readOpening (cal d) 0 [some (.ref a0), some (.int l1)] [] M := call_eq (show 2 ≤ 2 by decide)
set_option maxRecDepth 100000 in
theorem eq_Clerk_readCounted_0 (cl : Nat → List Value → ej_Mem → Option ej_R) (a0 : Nat) (M : ej_Mem) : rn jm_Clerk_readCounted cl 0 [some (.ref a0), none, none, none, none, none] [] M =
    ckk (mC M a0 = 0) (bkI (cl jm_Clerk_readRights [.ref a0] M) fun x2 M1 =>
    ckk (mC M1 a0 = 0) (bkI (cl jm_Clerk_look [.ref a0] M1) fun x4 M3 =>
    (if x4 = (60 : Int32) then
      (rn jm_Clerk_readCounted cl 34 [some (.ref a0), some (.int x2), some (.int x4), none, none, none] [] M3) else
      ((if x4 = (61 : Int32) then
        (rn jm_Clerk_readCounted cl 34 [some (.ref a0), some (.int x2), some (.int x4), none, none, none] [] M3) else
        ((if x4 = (62 : Int32) then
          (rn jm_Clerk_readCounted cl 34 [some (.ref a0), some (.int x2), some (.int x4), none, none, none] [] M3) else
          (ckk (mC M3 a0 = 0) (bkV (cl jm_Clerk_fail [.ref a0, .int (0 : Int32)] M3) fun M5 =>
          some (none, M5)))))))))) :=
  tr_eq [34, 55, 99, 116, 135, 151] 19 rfl
set_option maxRecDepth 100000 in
theorem eq_Clerk_readCounted_34 (cl : Nat → List Value → ej_Mem → Option ej_R) (a0 : Nat) (l1 : Int32) (l2 : Int32) (o3 : Option Value) (o4 : Option Value) (o5 : Option Value) (M : ej_Mem) : rn jm_Clerk_readCounted cl 34 [some (.ref a0), some (.int l1), some (.int l2), o3, o4, o5] [] M =
    ckk (mC M a0 = 0) (ckk (mC M a0 = 0) ((if l2 = (61 : Int32) then
      (rn jm_Clerk_readCounted cl 55 [some (.ref a0), some (.int l1), some (.int l2), o3, o4, o5] [.int (1 : Int32)] (setI M a0 2 ((mI M a0 2) + (1 : Int32)))) else
      (rn jm_Clerk_readCounted cl 55 [some (.ref a0), some (.int l1), some (.int l2), o3, o4, o5] [.int (0 : Int32)] (setI M a0 2 ((mI M a0 2) + (1 : Int32))))))) :=
  tr_eq [34, 55, 99, 116, 135, 151] 12 rfl
set_option maxRecDepth 100000 in
theorem eq_Clerk_readCounted_55 (cl : Nat → List Value → ej_Mem → Option ej_R) (a0 : Nat) (l1 : Int32) (l2 : Int32) (o3 : Option Value) (o4 : Option Value) (o5 : Option Value) (s0 : Int32) (M : ej_Mem) : rn jm_Clerk_readCounted cl 55 [some (.ref a0), some (.int l1), some (.int l2), o3, o4, o5] [.int s0] M =
    (if l2 = (61 : Int32) then
      (rn jm_Clerk_readCounted cl 99 [some (.ref a0), some (.int l1), some (.int l2), some (.int s0), o4, o5] [] M) else
      (ckk (mC M a0 = 0) (ckk (mC M a0 = 0) ((if (mI M a0 1) ≤ (mI M a0 2) then
        (rn jm_Clerk_readCounted cl 99 [some (.ref a0), some (.int l1), some (.int l2), some (.int s0), o4, o5] [] M) else
        (ckk (mC M a0 = 0) (deR (mR M a0 0) fun q1 => ckk (mC M a0 = 0) (ckk (mC M q1 = 100) (ckb (mI M a0 2) (mN M q1) ((if (aI M q1 (Int32.toNatClampNeg (mI M a0 2))) = (61 : Int32) then
          (ckk (mC M a0 = 0) (ckk (mC M a0 = 0) (rn jm_Clerk_readCounted cl 99 [some (.ref a0), some (.int l1), some (.int l2), some (.int (1 : Int32)), o4, o5] [] (setI M a0 2 ((mI M a0 2) + (1 : Int32)))))) else
          (rn jm_Clerk_readCounted cl 99 [some (.ref a0), some (.int l1), some (.int l2), some (.int s0), o4, o5] [] M)))))))))))) :=
  tr_eq [34, 55, 99, 116, 135, 151] 25 rfl
set_option maxRecDepth 100000 in
theorem eq_Clerk_readCounted_99 (cl : Nat → List Value → ej_Mem → Option ej_R) (a0 : Nat) (l1 : Int32) (l2 : Int32) (l3 : Int32) (o4 : Option Value) (o5 : Option Value) (M : ej_Mem) : rn jm_Clerk_readCounted cl 99 [some (.ref a0), some (.int l1), some (.int l2), some (.int l3), o4, o5] [] M =
    ckk (mC M a0 = 0) (bkI (cl jm_Clerk_readNumber [.ref a0, .int (24 : Int32)] M) fun x2 M1 =>
    (if l3 = (0 : Int32) then
      (rn jm_Clerk_readCounted cl 116 [some (.ref a0), some (.int l1), some (.int l2), some (.int l3), some (.int x2), o5] [.int (1 : Int32)] M1) else
      (rn jm_Clerk_readCounted cl 116 [some (.ref a0), some (.int l1), some (.int l2), some (.int l3), some (.int x2), o5] [.int (0 : Int32)] M1))) :=
  tr_eq [34, 55, 99, 116, 135, 151] 9 rfl
set_option maxRecDepth 100000 in
theorem eq_Clerk_readCounted_116 (cl : Nat → List Value → ej_Mem → Option ej_R) (a0 : Nat) (l1 : Int32) (l2 : Int32) (l3 : Int32) (l4 : Int32) (o5 : Option Value) (s0 : Int32) (M : ej_Mem) : rn jm_Clerk_readCounted cl 116 [some (.ref a0), some (.int l1), some (.int l2), some (.int l3), some (.int l4), o5] [.int s0] M =
    (if l2 = (60 : Int32) then
      (rn jm_Clerk_readCounted cl 135 [some (.ref a0), some (.int l1), some (.int l2), some (.int l3), some (.int l4), some (.int s0)] [.int (0 : Int32), .int l1, .ref a0] M) else
      (rn jm_Clerk_readCounted cl 135 [some (.ref a0), some (.int l1), some (.int l2), some (.int l3), some (.int l4), some (.int s0)] [.int (l4 + s0), .int l1, .ref a0] M)) :=
  tr_eq [34, 55, 99, 116, 135, 151] 10 rfl
set_option maxRecDepth 100000 in
theorem eq_Clerk_readCounted_135 (cl : Nat → List Value → ej_Mem → Option ej_R) (a0 : Nat) (l1 : Int32) (l2 : Int32) (l3 : Int32) (l4 : Int32) (l5 : Int32) (s0 : Nat) (s1 : Int32) (s2 : Int32) (M : ej_Mem) : rn jm_Clerk_readCounted cl 135 [some (.ref a0), some (.int l1), some (.int l2), some (.int l3), some (.int l4), some (.int l5)] [.int s2, .int s1, .ref s0] M =
    (if l2 = (62 : Int32) then
      (rn jm_Clerk_readCounted cl 151 [some (.ref a0), some (.int l1), some (.int l2), some (.int l3), some (.int l4), some (.int l5)] [.int (24 : Int32), .int s2, .int s1, .ref s0] M) else
      (rn jm_Clerk_readCounted cl 151 [some (.ref a0), some (.int l1), some (.int l2), some (.int l3), some (.int l4), some (.int l5)] [.int (l4 - l5), .int s2, .int s1, .ref s0] M)) :=
  tr_eq [34, 55, 99, 116, 135, 151] 7 rfl
set_option maxRecDepth 100000 in
theorem eq_Clerk_readCounted_151 (cl : Nat → List Value → ej_Mem → Option ej_R) (a0 : Nat) (l1 : Int32) (l2 : Int32) (l3 : Int32) (l4 : Int32) (l5 : Int32) (s0 : Nat) (s1 : Int32) (s2 : Int32) (s3 : Int32) (M : ej_Mem) : rn jm_Clerk_readCounted cl 151 [some (.ref a0), some (.int l1), some (.int l2), some (.int l3), some (.int l4), some (.int l5)] [.int s3, .int s2, .int s1, .ref s0] M =
    ckk (mC M s0 = 0) (bkV (cl jm_Clerk_addFact [.ref s0, .int s1, .int s2, .int s3] M) fun M1 =>
    some (none, M1)) :=
  tr_eq [34, 55, 99, 116, 135, 151] 2 rfl
theorem ca_Clerk_readCounted (d : Nat) (a0 : Nat) (M : ej_Mem) : cal (d + 1) jm_Clerk_readCounted [.ref a0] M = rn jm_Clerk_readCounted (cal d) 0 [some (.ref a0), none, none, none, none, none] [] M := call_eq (show 1 ≤ 6 by decide)
set_option maxRecDepth 100000 in
theorem eq_Clerk_readJoin_0 (cl : Nat → List Value → ej_Mem → Option ej_R) (a0 : Nat) (l1 : Int32) (M : ej_Mem) : rn jm_Clerk_readJoin cl 0 [some (.ref a0), some (.int l1)] [] M =
    ckk (mC M a0 = 0) (bkV (cl jm_Clerk_skipWord [.ref a0] M) fun M1 =>
    ckk (mC M1 a0 = 0) (bkV (cl jm_Clerk_joinDownTo [.ref a0, .int l1] M1) fun M2 =>
    ckk (mC M2 a0 = 0) (bkV (cl jm_Clerk_addWaiting [.ref a0, .int l1] M2) fun M3 =>
    some (none, M3)))) :=
  tr_eq [] 9 rfl
theorem ca_Clerk_readJoin (d : Nat) (a0 : Nat) (l1 : Int32) (M : ej_Mem) : cal (d + 1) jm_Clerk_readJoin [.ref a0, .int l1] M = rn jm_Clerk_readJoin (cal d) 0 [some (.ref a0), some (.int l1)] [] M := call_eq (show 2 ≤ 2 by decide)
set_option maxRecDepth 100000 in
theorem eq_Clerk_closeBracket_0 (cl : Nat → List Value → ej_Mem → Option ej_R) (a0 : Nat) (M : ej_Mem) : rn jm_Clerk_closeBracket cl 0 [some (.ref a0)] [] M =
    ckk (mC M a0 = 0) (ckk (mC M a0 = 0) (ckk (mC (setI M a0 2 ((mI M a0 2) + (1 : Int32))) a0 = 0) (bkV (cl jm_Clerk_joinDownTo [.ref a0, .int (1 : Int32)] (setI M a0 2 ((mI M a0 2) + (1 : Int32)))) fun M1 =>
    ckk (mC M1 a0 = 0) ((if (mI M1 a0 10) ≤ (0 : Int32) then
      (ckk (mC M1 a0 = 0) (ckk (mC M1 a0 = 0) (ckk (mC (setI M1 a0 12 ((mI M1 a0 12) - (1 : Int32))) a0 = 0) (ckk (mC (setI M1 a0 12 ((mI M1 a0 12) - (1 : Int32))) a0 = 0) (ckk (mC (setI (setI M1 a0 12 ((mI M1 a0 12) - (1 : Int32))) a0 11 ((mI (setI M1 a0 12 ((mI M1 a0 12) - (1 : Int32))) a0 11) - (1 : Int32))) a0 = 0) (bkV (cl jm_Clerk_turnByNots [.ref a0] (setI (setI M1 a0 12 ((mI M1 a0 12) - (1 : Int32))) a0 11 ((mI (setI M1 a0 12 ((mI M1 a0 12) - (1 : Int32))) a0 11) - (1 : Int32)))) fun M2 =>
      some (none, M2))))))) else
      (ckk (mC M1 a0 = 0) (ckk (mC M1 a0 = 0) (ckk (mC (setI M1 a0 10 ((mI M1 a0 10) - (1 : Int32))) a0 = 0) (ckk (mC (setI M1 a0 10 ((mI M1 a0 10) - (1 : Int32))) a0 = 0) (ckk (mC (setI (setI M1 a0 10 ((mI M1 a0 10) - (1 : Int32))) a0 12 ((mI (setI M1 a0 10 ((mI M1 a0 10) - (1 : Int32))) a0 12) - (1 : Int32))) a0 = 0) (ckk (mC (setI (setI M1 a0 10 ((mI M1 a0 10) - (1 : Int32))) a0 12 ((mI (setI M1 a0 10 ((mI M1 a0 10) - (1 : Int32))) a0 12) - (1 : Int32))) a0 = 0) (ckk (mC (setI (setI (setI M1 a0 10 ((mI M1 a0 10) - (1 : Int32))) a0 12 ((mI (setI M1 a0 10 ((mI M1 a0 10) - (1 : Int32))) a0 12) - (1 : Int32))) a0 11 ((mI (setI (setI M1 a0 10 ((mI M1 a0 10) - (1 : Int32))) a0 12 ((mI (setI M1 a0 10 ((mI M1 a0 10) - (1 : Int32))) a0 12) - (1 : Int32))) a0 11) - (1 : Int32))) a0 = 0) (bkV (cl jm_Clerk_turnByNots [.ref a0] (setI (setI (setI M1 a0 10 ((mI M1 a0 10) - (1 : Int32))) a0 12 ((mI (setI M1 a0 10 ((mI M1 a0 10) - (1 : Int32))) a0 12) - (1 : Int32))) a0 11 ((mI (setI (setI M1 a0 10 ((mI M1 a0 10) - (1 : Int32))) a0 12 ((mI (setI M1 a0 10 ((mI M1 a0 10) - (1 : Int32))) a0 12) - (1 : Int32))) a0 11) - (1 : Int32)))) fun M3 =>
      some (none, M3)))))))))))))) :=
  tr_eq [] 33 rfl
theorem ca_Clerk_closeBracket (d : Nat) (a0 : Nat) (M : ej_Mem) : cal (d + 1) jm_Clerk_closeBracket [.ref a0] M = rn jm_Clerk_closeBracket (cal d) 0 [some (.ref a0)] [] M := call_eq (show 1 ≤ 1 by decide)
set_option maxRecDepth 100000 in
theorem eq_Clerk_addWaiting_0 (cl : Nat → List Value → ej_Mem → Option ej_R) (a0 : Nat) (l1 : Int32) (M : ej_Mem) : rn jm_Clerk_addWaiting cl 0 [some (.ref a0), some (.int l1)] [] M =
    ckk (mC M a0 = 0) ((if (40 : Int32) ≤ (mI M a0 10) then
      (some (none, M)) else
      (ckk (mC M a0 = 0) (deR (mR M a0 9) fun q1 => ckk (mC M a0 = 0) (ckk (mC M q1 = 100) (ckb (mI M a0 10) (mN M q1) (ckk (mC (setA M q1 (Int32.toNatClampNeg (mI M a0 10)) l1) a0 = 0) (ckk (mC (setA M q1 (Int32.toNatClampNeg (mI M a0 10)) l1) a0 = 0) (some (none, (setI (setA M q1 (Int32.toNatClampNeg (mI M a0 10)) l1) a0 10 ((mI (setA M q1 (Int32.toNatClampNeg (mI M a0 10)) l1) a0 10) + (1 : Int32))))))))))))) :=
  tr_eq [] 17 rfl
theorem ca_Clerk_addWaiting (d : Nat) (a0 : Nat) (l1 : Int32) (M : ej_Mem) : cal (d + 1) jm_Clerk_addWaiting [.ref a0, .int l1] M = rn jm_Clerk_addWaiting (cal d) 0 [some (.ref a0), some (.int l1)] [] M := call_eq (show 2 ≤ 2 by decide)
set_option maxRecDepth 100000 in
theorem eq_Clerk_addFact_0 (cl : Nat → List Value → ej_Mem → Option ej_R) (a0 : Nat) (l1 : Int32) (l2 : Int32) (l3 : Int32) (M : ej_Mem) : rn jm_Clerk_addFact cl 0 [some (.ref a0), some (.int l1), some (.int l2), some (.int l3)] [] M =
    ckk (mC M a0 = 0) ((if (mI M a0 3) = (0 : Int32) then
      (ckk (mC M a0 = 0) (ckk (mC M a0 = 0) (deR (mR M a0 5) fun q1 => ckk (100 ≤ mC M q1 ∧ mC M q1 ≤ 104) ((if (Int32.ofNat (mN M q1)) < ((mI M a0 6) + (5 : Int32)) then
        (some (none, M)) else
        (ckk (mC M a0 = 0) ((if (mI M a0 16) < (40 : Int32) then
          (ckk (mC M a0 = 0) (deR (mR M a0 5) fun q2 => ckk (mC M a0 = 0) (ckk (mC M q2 = 100) (ckb (mI M a0 6) (mN M q2) (rn jm_Clerk_addFact cl 41 [some (.ref a0), some (.int l1), some (.int l2), some (.int l3)] [] (setA M q2 (Int32.toNatClampNeg (mI M a0 6)) l1)))))) else
          (some (none, M)))))))))) else
      (some (none, M)))) :=
  tr_eq [41, 53, 65, 77, 89, 102, 117, 132, 142, 152] 22 rfl
set_option maxRecDepth 100000 in
theorem eq_Clerk_addFact_41 (cl : Nat → List Value → ej_Mem → Option ej_R) (a0 : Nat) (l1 : Int32) (l2 : Int32) (l3 : Int32) (M : ej_Mem) : rn jm_Clerk_addFact cl 41 [some (.ref a0), some (.int l1), some (.int l2), some (.int l3)] [] M =
    ckk (mC M a0 = 0) (deR (mR M a0 5) fun q1 => ckk (mC M a0 = 0) (ckk (mC M q1 = 100) (ckb ((mI M a0 6) + (1 : Int32)) (mN M q1) (rn jm_Clerk_addFact cl 53 [some (.ref a0), some (.int l1), some (.int l2), some (.int l3)] [] (setA M q1 (Int32.toNatClampNeg ((mI M a0 6) + (1 : Int32))) l2))))) :=
  tr_eq [41, 53, 65, 77, 89, 102, 117, 132, 142, 152] 9 rfl
set_option maxRecDepth 100000 in
theorem eq_Clerk_addFact_53 (cl : Nat → List Value → ej_Mem → Option ej_R) (a0 : Nat) (l1 : Int32) (l2 : Int32) (l3 : Int32) (M : ej_Mem) : rn jm_Clerk_addFact cl 53 [some (.ref a0), some (.int l1), some (.int l2), some (.int l3)] [] M =
    ckk (mC M a0 = 0) (deR (mR M a0 5) fun q1 => ckk (mC M a0 = 0) (ckk (mC M q1 = 100) (ckb ((mI M a0 6) + (2 : Int32)) (mN M q1) (rn jm_Clerk_addFact cl 65 [some (.ref a0), some (.int l1), some (.int l2), some (.int l3)] [] (setA M q1 (Int32.toNatClampNeg ((mI M a0 6) + (2 : Int32))) l3))))) :=
  tr_eq [41, 53, 65, 77, 89, 102, 117, 132, 142, 152] 9 rfl
set_option maxRecDepth 100000 in
theorem eq_Clerk_addFact_65 (cl : Nat → List Value → ej_Mem → Option ej_R) (a0 : Nat) (l1 : Int32) (l2 : Int32) (l3 : Int32) (M : ej_Mem) : rn jm_Clerk_addFact cl 65 [some (.ref a0), some (.int l1), some (.int l2), some (.int l3)] [] M =
    ckk (mC M a0 = 0) (deR (mR M a0 5) fun q1 => ckk (mC M a0 = 0) (ckk (mC M q1 = 100) (ckb ((mI M a0 6) + (3 : Int32)) (mN M q1) (rn jm_Clerk_addFact cl 77 [some (.ref a0), some (.int l1), some (.int l2), some (.int l3)] [] (setA M q1 (Int32.toNatClampNeg ((mI M a0 6) + (3 : Int32))) (-1 : Int32)))))) :=
  tr_eq [41, 53, 65, 77, 89, 102, 117, 132, 142, 152] 9 rfl
set_option maxRecDepth 100000 in
theorem eq_Clerk_addFact_77 (cl : Nat → List Value → ej_Mem → Option ej_R) (a0 : Nat) (l1 : Int32) (l2 : Int32) (l3 : Int32) (M : ej_Mem) : rn jm_Clerk_addFact cl 77 [some (.ref a0), some (.int l1), some (.int l2), some (.int l3)] [] M =
    ckk (mC M a0 = 0) (deR (mR M a0 5) fun q1 => ckk (mC M a0 = 0) (ckk (mC M q1 = 100) (ckb ((mI M a0 6) + (4 : Int32)) (mN M q1) (rn jm_Clerk_addFact cl 89 [some (.ref a0), some (.int l1), some (.int l2), some (.int l3)] [] (setA M q1 (Int32.toNatClampNeg ((mI M a0 6) + (4 : Int32))) (-1 : Int32)))))) :=
  tr_eq [41, 53, 65, 77, 89, 102, 117, 132, 142, 152] 9 rfl
set_option maxRecDepth 100000 in
theorem eq_Clerk_addFact_89 (cl : Nat → List Value → ej_Mem → Option ej_R) (a0 : Nat) (l1 : Int32) (l2 : Int32) (l3 : Int32) (M : ej_Mem) : rn jm_Clerk_addFact cl 89 [some (.ref a0), some (.int l1), some (.int l2), some (.int l3)] [] M =
    ckk (mC M a0 = 0) (deR (mR M a0 13) fun q1 => ckk (mC M a0 = 0) (ckk (mC M a0 = 0) (ckk (mC M q1 = 100) (ckb (mI M a0 16) (mN M q1) (rn jm_Clerk_addFact cl 102 [some (.ref a0), some (.int l1), some (.int l2), some (.int l3)] [] (setA M q1 (Int32.toNatClampNeg (mI M a0 16)) (mI M a0 6))))))) :=
  tr_eq [41, 53, 65, 77, 89, 102, 117, 132, 142, 152] 8 rfl
set_option maxRecDepth 100000 in
theorem eq_Clerk_addFact_102 (cl : Nat → List Value → ej_Mem → Option ej_R) (a0 : Nat) (l1 : Int32) (l2 : Int32) (l3 : Int32) (M : ej_Mem) : rn jm_Clerk_addFact cl 102 [some (.ref a0), some (.int l1), some (.int l2), some (.int l3)] [] M =
    ckk (mC M a0 = 0) (deR (mR M a0 14) fun q1 => ckk (mC M a0 = 0) (ckk (mC M a0 = 0) (ckk (mC M q1 = 100) (ckb (mI M a0 16) (mN M q1) (rn jm_Clerk_addFact cl 117 [some (.ref a0), some (.int l1), some (.int l2), some (.int l3)] [] (setA M q1 (Int32.toNatClampNeg (mI M a0 16)) ((mI M a0 6) + (3 : Int32)))))))) :=
  tr_eq [41, 53, 65, 77, 89, 102, 117, 132, 142, 152] 10 rfl
set_option maxRecDepth 100000 in
theorem eq_Clerk_addFact_117 (cl : Nat → List Value → ej_Mem → Option ej_R) (a0 : Nat) (l1 : Int32) (l2 : Int32) (l3 : Int32) (M : ej_Mem) : rn jm_Clerk_addFact cl 117 [some (.ref a0), some (.int l1), some (.int l2), some (.int l3)] [] M =
    ckk (mC M a0 = 0) (deR (mR M a0 15) fun q1 => ckk (mC M a0 = 0) (ckk (mC M a0 = 0) (ckk (mC M q1 = 100) (ckb (mI M a0 16) (mN M q1) (rn jm_Clerk_addFact cl 132 [some (.ref a0), some (.int l1), some (.int l2), some (.int l3)] [] (setA M q1 (Int32.toNatClampNeg (mI M a0 16)) ((mI M a0 6) + (4 : Int32)))))))) :=
  tr_eq [41, 53, 65, 77, 89, 102, 117, 132, 142, 152] 10 rfl
set_option maxRecDepth 100000 in
theorem eq_Clerk_addFact_132 (cl : Nat → List Value → ej_Mem → Option ej_R) (a0 : Nat) (l1 : Int32) (l2 : Int32) (l3 : Int32) (M : ej_Mem) : rn jm_Clerk_addFact cl 132 [some (.ref a0), some (.int l1), some (.int l2), some (.int l3)] [] M =
    ckk (mC M a0 = 0) (ckk (mC M a0 = 0) (rn jm_Clerk_addFact cl 142 [some (.ref a0), some (.int l1), some (.int l2), some (.int l3)] [] (setI M a0 16 ((mI M a0 16) + (1 : Int32))))) :=
  tr_eq [41, 53, 65, 77, 89, 102, 117, 132, 142, 152] 7 rfl
set_option maxRecDepth 100000 in
theorem eq_Clerk_addFact_142 (cl : Nat → List Value → ej_Mem → Option ej_R) (a0 : Nat) (l1 : Int32) (l2 : Int32) (l3 : Int32) (M : ej_Mem) : rn jm_Clerk_addFact cl 142 [some (.ref a0), some (.int l1), some (.int l2), some (.int l3)] [] M =
    ckk (mC M a0 = 0) (ckk (mC M a0 = 0) (rn jm_Clerk_addFact cl 152 [some (.ref a0), some (.int l1), some (.int l2), some (.int l3)] [] (setI M a0 6 ((mI M a0 6) + (5 : Int32))))) :=
  tr_eq [41, 53, 65, 77, 89, 102, 117, 132, 142, 152] 7 rfl
set_option maxRecDepth 100000 in
theorem eq_Clerk_addFact_152 (cl : Nat → List Value → ej_Mem → Option ej_R) (a0 : Nat) (l1 : Int32) (l2 : Int32) (l3 : Int32) (M : ej_Mem) : rn jm_Clerk_addFact cl 152 [some (.ref a0), some (.int l1), some (.int l2), some (.int l3)] [] M =
    ckk (mC M a0 = 0) (bkV (cl jm_Clerk_turnByNots [.ref a0] M) fun M1 =>
    some (none, M1)) :=
  tr_eq [41, 53, 65, 77, 89, 102, 117, 132, 142, 152] 3 rfl
theorem ca_Clerk_addFact (d : Nat) (a0 : Nat) (l1 : Int32) (l2 : Int32) (l3 : Int32) (M : ej_Mem) : cal (d + 1) jm_Clerk_addFact [.ref a0, .int l1, .int l2, .int l3] M = rn jm_Clerk_addFact (cal d) 0 [some (.ref a0), some (.int l1), some (.int l2), some (.int l3)] [] M := call_eq (show 4 ≤ 4 by decide)
set_option maxRecDepth 100000 in
theorem eq_Clerk_turnByNots_0 (cl : Nat → List Value → ej_Mem → Option ej_R) (a0 : Nat) (M : ej_Mem) : rn jm_Clerk_turnByNots cl 0 [some (.ref a0), none] [] M =
    ckk (mC M a0 = 0) ((if (mI M a0 10) ≤ (0 : Int32) then
      (some (none, M)) else
      (ckk (mC M a0 = 0) ((if (mI M a0 16) ≤ (0 : Int32) then
        (some (none, M)) else
        (ckk (mC M a0 = 0) (deR (mR M a0 9) fun q1 => ckk (mC M a0 = 0) (ckk (mC M q1 = 100) (ckb ((mI M a0 10) - (1 : Int32)) (mN M q1) ((if (aI M q1 (Int32.toNatClampNeg ((mI M a0 10) - (1 : Int32)))) = (3 : Int32) then
          (ckk (mC M a0 = 0) (deR (mR M a0 14) fun q2 => ckk (mC M a0 = 0) (ckk (mC M q2 = 100) (ckb ((mI M a0 16) - (1 : Int32)) (mN M q2) (ckk (mC M a0 = 0) (deR (mR M a0 14) fun q3 => ckk (mC M a0 = 0) (ckk (mC M a0 = 0) (deR (mR M a0 15) fun q4 => ckk (mC M a0 = 0) (ckk (mC M q4 = 100) (ckb ((mI M a0 16) - (1 : Int32)) (mN M q4) (ckk (mC M q3 = 100) (ckb ((mI M a0 16) - (1 : Int32)) (mN M q3) (ckk (mC (setA M q3 (Int32.toNatClampNeg ((mI M a0 16) - (1 : Int32))) (aI M q4 (Int32.toNatClampNeg ((mI M a0 16) - (1 : Int32))))) a0 = 0) (deR (mR (setA M q3 (Int32.toNatClampNeg ((mI M a0 16) - (1 : Int32))) (aI M q4 (Int32.toNatClampNeg ((mI M a0 16) - (1 : Int32))))) a0 15) fun q5 => ckk (mC (setA M q3 (Int32.toNatClampNeg ((mI M a0 16) - (1 : Int32))) (aI M q4 (Int32.toNatClampNeg ((mI M a0 16) - (1 : Int32))))) a0 = 0) (ckk (mC (setA M q3 (Int32.toNatClampNeg ((mI M a0 16) - (1 : Int32))) (aI M q4 (Int32.toNatClampNeg ((mI M a0 16) - (1 : Int32))))) q5 = 100) (ckb ((mI (setA M q3 (Int32.toNatClampNeg ((mI M a0 16) - (1 : Int32))) (aI M q4 (Int32.toNatClampNeg ((mI M a0 16) - (1 : Int32))))) a0 16) - (1 : Int32)) (mN (setA M q3 (Int32.toNatClampNeg ((mI M a0 16) - (1 : Int32))) (aI M q4 (Int32.toNatClampNeg ((mI M a0 16) - (1 : Int32))))) q5) (ckk (mC (setA (setA M q3 (Int32.toNatClampNeg ((mI M a0 16) - (1 : Int32))) (aI M q4 (Int32.toNatClampNeg ((mI M a0 16) - (1 : Int32))))) q5 (Int32.toNatClampNeg ((mI (setA M q3 (Int32.toNatClampNeg ((mI M a0 16) - (1 : Int32))) (aI M q4 (Int32.toNatClampNeg ((mI M a0 16) - (1 : Int32))))) a0 16) - (1 : Int32))) (aI M q2 (Int32.toNatClampNeg ((mI M a0 16) - (1 : Int32))))) a0 = 0) (ckk (mC (setA (setA M q3 (Int32.toNatClampNeg ((mI M a0 16) - (1 : Int32))) (aI M q4 (Int32.toNatClampNeg ((mI M a0 16) - (1 : Int32))))) q5 (Int32.toNatClampNeg ((mI (setA M q3 (Int32.toNatClampNeg ((mI M a0 16) - (1 : Int32))) (aI M q4 (Int32.toNatClampNeg ((mI M a0 16) - (1 : Int32))))) a0 16) - (1 : Int32))) (aI M q2 (Int32.toNatClampNeg ((mI M a0 16) - (1 : Int32))))) a0 = 0) (ckk (mC (setI (setA (setA M q3 (Int32.toNatClampNeg ((mI M a0 16) - (1 : Int32))) (aI M q4 (Int32.toNatClampNeg ((mI M a0 16) - (1 : Int32))))) q5 (Int32.toNatClampNeg ((mI (setA M q3 (Int32.toNatClampNeg ((mI M a0 16) - (1 : Int32))) (aI M q4 (Int32.toNatClampNeg ((mI M a0 16) - (1 : Int32))))) a0 16) - (1 : Int32))) (aI M q2 (Int32.toNatClampNeg ((mI M a0 16) - (1 : Int32))))) a0 10 ((mI (setA (setA M q3 (Int32.toNatClampNeg ((mI M a0 16) - (1 : Int32))) (aI M q4 (Int32.toNatClampNeg ((mI M a0 16) - (1 : Int32))))) q5 (Int32.toNatClampNeg ((mI (setA M q3 (Int32.toNatClampNeg ((mI M a0 16) - (1 : Int32))) (aI M q4 (Int32.toNatClampNeg ((mI M a0 16) - (1 : Int32))))) a0 16) - (1 : Int32))) (aI M q2 (Int32.toNatClampNeg ((mI M a0 16) - (1 : Int32))))) a0 10) - (1 : Int32))) a0 = 0) (ckk (mC (setI (setA (setA M q3 (Int32.toNatClampNeg ((mI M a0 16) - (1 : Int32))) (aI M q4 (Int32.toNatClampNeg ((mI M a0 16) - (1 : Int32))))) q5 (Int32.toNatClampNeg ((mI (setA M q3 (Int32.toNatClampNeg ((mI M a0 16) - (1 : Int32))) (aI M q4 (Int32.toNatClampNeg ((mI M a0 16) - (1 : Int32))))) a0 16) - (1 : Int32))) (aI M q2 (Int32.toNatClampNeg ((mI M a0 16) - (1 : Int32))))) a0 10 ((mI (setA (setA M q3 (Int32.toNatClampNeg ((mI M a0 16) - (1 : Int32))) (aI M q4 (Int32.toNatClampNeg ((mI M a0 16) - (1 : Int32))))) q5 (Int32.toNatClampNeg ((mI (setA M q3 (Int32.toNatClampNeg ((mI M a0 16) - (1 : Int32))) (aI M q4 (Int32.toNatClampNeg ((mI M a0 16) - (1 : Int32))))) a0 16) - (1 : Int32))) (aI M q2 (Int32.toNatClampNeg ((mI M a0 16) - (1 : Int32))))) a0 10) - (1 : Int32))) a0 = 0) (rn jm_Clerk_turnByNots cl 0 [some (.ref a0), some (.int (aI M q2 (Int32.toNatClampNeg ((mI M a0 16) - (1 : Int32)))))] [] (setI (setI (setA (setA M q3 (Int32.toNatClampNeg ((mI M a0 16) - (1 : Int32))) (aI M q4 (Int32.toNatClampNeg ((mI M a0 16) - (1 : Int32))))) q5 (Int32.toNatClampNeg ((mI (setA M q3 (Int32.toNatClampNeg ((mI M a0 16) - (1 : Int32))) (aI M q4 (Int32.toNatClampNeg ((mI M a0 16) - (1 : Int32))))) a0 16) - (1 : Int32))) (aI M q2 (Int32.toNatClampNeg ((mI M a0 16) - (1 : Int32))))) a0 10 ((mI (setA (setA M q3 (Int32.toNatClampNeg ((mI M a0 16) - (1 : Int32))) (aI M q4 (Int32.toNatClampNeg ((mI M a0 16) - (1 : Int32))))) q5 (Int32.toNatClampNeg ((mI (setA M q3 (Int32.toNatClampNeg ((mI M a0 16) - (1 : Int32))) (aI M q4 (Int32.toNatClampNeg ((mI M a0 16) - (1 : Int32))))) a0 16) - (1 : Int32))) (aI M q2 (Int32.toNatClampNeg ((mI M a0 16) - (1 : Int32))))) a0 10) - (1 : Int32))) a0 11 ((mI (setI (setA (setA M q3 (Int32.toNatClampNeg ((mI M a0 16) - (1 : Int32))) (aI M q4 (Int32.toNatClampNeg ((mI M a0 16) - (1 : Int32))))) q5 (Int32.toNatClampNeg ((mI (setA M q3 (Int32.toNatClampNeg ((mI M a0 16) - (1 : Int32))) (aI M q4 (Int32.toNatClampNeg ((mI M a0 16) - (1 : Int32))))) a0 16) - (1 : Int32))) (aI M q2 (Int32.toNatClampNeg ((mI M a0 16) - (1 : Int32))))) a0 10 ((mI (setA (setA M q3 (Int32.toNatClampNeg ((mI M a0 16) - (1 : Int32))) (aI M q4 (Int32.toNatClampNeg ((mI M a0 16) - (1 : Int32))))) q5 (Int32.toNatClampNeg ((mI (setA M q3 (Int32.toNatClampNeg ((mI M a0 16) - (1 : Int32))) (aI M q4 (Int32.toNatClampNeg ((mI M a0 16) - (1 : Int32))))) a0 16) - (1 : Int32))) (aI M q2 (Int32.toNatClampNeg ((mI M a0 16) - (1 : Int32))))) a0 10) - (1 : Int32))) a0 11) - (1 : Int32)))))))))))))))))))))))) else
          (some (none, M))))))))))))) :=
  tr_eq [0] 59 rfl
theorem ca_Clerk_turnByNots (d : Nat) (a0 : Nat) (M : ej_Mem) : cal (d + 1) jm_Clerk_turnByNots [.ref a0] M = rn jm_Clerk_turnByNots (cal d) 0 [some (.ref a0), none] [] M := call_eq (show 1 ≤ 2 by decide)
set_option maxRecDepth 100000 in
theorem eq_Clerk_joinDownTo_0 (cl : Nat → List Value → ej_Mem → Option ej_R) (a0 : Nat) (l1 : Int32) (M : ej_Mem) : rn jm_Clerk_joinDownTo cl 0 [some (.ref a0), some (.int l1)] [] M =
    ckk (mC M a0 = 0) ((if (mI M a0 10) ≤ (0 : Int32) then
      (some (none, M)) else
      (ckk (mC M a0 = 0) ((if (mI M a0 16) ≤ (1 : Int32) then
        (some (none, M)) else
        (ckk (mC M a0 = 0) (deR (mR M a0 9) fun q1 => ckk (mC M a0 = 0) (ckk (mC M q1 = 100) (ckb ((mI M a0 10) - (1 : Int32)) (mN M q1) ((if (aI M q1 (Int32.toNatClampNeg ((mI M a0 10) - (1 : Int32)))) < l1 then
          (some (none, M)) else
          (ckk (mC M a0 = 0) (ckk (mC M a0 = 0) (rn jm_Clerk_joinDownTo cl 40 [some (.ref a0), some (.int l1)] [] (setI M a0 10 ((mI M a0 10) - (1 : Int32))))))))))))))))) :=
  tr_eq [0, 40, 50, 107, 142, 189, 224] 23 rfl
set_option maxRecDepth 100000 in
theorem eq_Clerk_joinDownTo_40 (cl : Nat → List Value → ej_Mem → Option ej_R) (a0 : Nat) (l1 : Int32) (M : ej_Mem) : rn jm_Clerk_joinDownTo cl 40 [some (.ref a0), some (.int l1)] [] M =
    ckk (mC M a0 = 0) (ckk (mC M a0 = 0) (rn jm_Clerk_joinDownTo cl 50 [some (.ref a0), some (.int l1)] [] (setI M a0 16 ((mI M a0 16) - (1 : Int32))))) :=
  tr_eq [0, 40, 50, 107, 142, 189, 224] 7 rfl
set_option maxRecDepth 100000 in
theorem eq_Clerk_joinDownTo_50 (cl : Nat → List Value → ej_Mem → Option ej_R) (a0 : Nat) (l1 : Int32) (M : ej_Mem) : rn jm_Clerk_joinDownTo cl 50 [some (.ref a0), some (.int l1)] [] M =
    ckk (mC M a0 = 0) (deR (mR M a0 9) fun q1 => ckk (mC M a0 = 0) (ckk (mC M q1 = 100) (ckb (mI M a0 10) (mN M q1) ((if (aI M q1 (Int32.toNatClampNeg (mI M a0 10))) = (2 : Int32) then
      (ckk (mC M a0 = 0) (deR (mR M a0 14) fun q7 => ckk (mC M a0 = 0) (ckk (mC M q7 = 100) (ckb ((mI M a0 16) - (1 : Int32)) (mN M q7) (ckk (mC M a0 = 0) (deR (mR M a0 13) fun q8 => ckk (mC M a0 = 0) (ckk (mC M q8 = 100) (ckb (mI M a0 16) (mN M q8) (ckk (mC M a0 = 0) (bkV (cl jm_Clerk_fillHoles [.ref a0, .int (aI M q7 (Int32.toNatClampNeg ((mI M a0 16) - (1 : Int32)))), .int (aI M q8 (Int32.toNatClampNeg (mI M a0 16)))] M) fun M9 =>
      ckk (mC M9 a0 = 0) (deR (mR M9 a0 14) fun q10 => ckk (mC M9 a0 = 0) (ckk (mC M9 a0 = 0) (deR (mR M9 a0 14) fun q11 => ckk (mC M9 a0 = 0) (ckk (mC M9 q11 = 100) (ckb (mI M9 a0 16) (mN M9 q11) (ckk (mC M9 q10 = 100) (ckb ((mI M9 a0 16) - (1 : Int32)) (mN M9 q10) (rn jm_Clerk_joinDownTo cl 107 [some (.ref a0), some (.int l1)] [] (setA M9 q10 (Int32.toNatClampNeg ((mI M9 a0 16) - (1 : Int32))) (aI M9 q11 (Int32.toNatClampNeg (mI M9 a0 16)))))))))))))))))))))) else
      (ckk (mC M a0 = 0) (deR (mR M a0 15) fun q2 => ckk (mC M a0 = 0) (ckk (mC M q2 = 100) (ckb ((mI M a0 16) - (1 : Int32)) (mN M q2) (ckk (mC M a0 = 0) (deR (mR M a0 13) fun q3 => ckk (mC M a0 = 0) (ckk (mC M q3 = 100) (ckb (mI M a0 16) (mN M q3) (ckk (mC M a0 = 0) (bkV (cl jm_Clerk_fillHoles [.ref a0, .int (aI M q2 (Int32.toNatClampNeg ((mI M a0 16) - (1 : Int32)))), .int (aI M q3 (Int32.toNatClampNeg (mI M a0 16)))] M) fun M4 =>
      ckk (mC M4 a0 = 0) (deR (mR M4 a0 15) fun q5 => ckk (mC M4 a0 = 0) (ckk (mC M4 a0 = 0) (deR (mR M4 a0 15) fun q6 => ckk (mC M4 a0 = 0) (ckk (mC M4 q6 = 100) (ckb (mI M4 a0 16) (mN M4 q6) (ckk (mC M4 q5 = 100) (ckb ((mI M4 a0 16) - (1 : Int32)) (mN M4 q5) (rn jm_Clerk_joinDownTo cl 189 [some (.ref a0), some (.int l1)] [] (setA M4 q5 (Int32.toNatClampNeg ((mI M4 a0 16) - (1 : Int32))) (aI M4 q6 (Int32.toNatClampNeg (mI M4 a0 16))))))))))))))))))))))))))) :=
  tr_eq [0, 40, 50, 107, 142, 189, 224] 34 rfl
set_option maxRecDepth 100000 in
theorem eq_Clerk_joinDownTo_107 (cl : Nat → List Value → ej_Mem → Option ej_R) (a0 : Nat) (l1 : Int32) (M : ej_Mem) : rn jm_Clerk_joinDownTo cl 107 [some (.ref a0), some (.int l1)] [] M =
    ckk (mC M a0 = 0) (deR (mR M a0 15) fun q1 => ckk (mC M a0 = 0) (ckk (mC M a0 = 0) (deR (mR M a0 15) fun q2 => ckk (mC M a0 = 0) (ckk (mC M q2 = 100) (ckb (mI M a0 16) (mN M q2) (ckk (mC M a0 = 0) (deR (mR M a0 15) fun q3 => ckk (mC M a0 = 0) (ckk (mC M q3 = 100) (ckb ((mI M a0 16) - (1 : Int32)) (mN M q3) (ckk (mC M a0 = 0) (bkI (cl jm_Clerk_chained [.ref a0, .int (aI M q2 (Int32.toNatClampNeg (mI M a0 16))), .int (aI M q3 (Int32.toNatClampNeg ((mI M a0 16) - (1 : Int32))))] M) fun x5 M4 =>
    ckk (mC M4 q1 = 100) (ckb ((mI M a0 16) - (1 : Int32)) (mN M4 q1) (rn jm_Clerk_joinDownTo cl 142 [some (.ref a0), some (.int l1)] [] (setA M4 q1 (Int32.toNatClampNeg ((mI M a0 16) - (1 : Int32))) x5)))))))))))))) :=
  tr_eq [0, 40, 50, 107, 142, 189, 224] 22 rfl
set_option maxRecDepth 100000 in
theorem eq_Clerk_joinDownTo_142 (cl : Nat → List Value → ej_Mem → Option ej_R) (a0 : Nat) (l1 : Int32) (M : ej_Mem) : rn jm_Clerk_joinDownTo cl 142 [some (.ref a0), some (.int l1)] [] M =
    rn jm_Clerk_joinDownTo cl 0 [some (.ref a0), some (.int l1)] [] M :=
  tr_eq [0, 40, 50, 107, 142, 189, 224] 2 rfl
set_option maxRecDepth 100000 in
theorem eq_Clerk_joinDownTo_189 (cl : Nat → List Value → ej_Mem → Option ej_R) (a0 : Nat) (l1 : Int32) (M : ej_Mem) : rn jm_Clerk_joinDownTo cl 189 [some (.ref a0), some (.int l1)] [] M =
    ckk (mC M a0 = 0) (deR (mR M a0 14) fun q1 => ckk (mC M a0 = 0) (ckk (mC M a0 = 0) (deR (mR M a0 14) fun q2 => ckk (mC M a0 = 0) (ckk (mC M q2 = 100) (ckb (mI M a0 16) (mN M q2) (ckk (mC M a0 = 0) (deR (mR M a0 14) fun q3 => ckk (mC M a0 = 0) (ckk (mC M q3 = 100) (ckb ((mI M a0 16) - (1 : Int32)) (mN M q3) (ckk (mC M a0 = 0) (bkI (cl jm_Clerk_chained [.ref a0, .int (aI M q2 (Int32.toNatClampNeg (mI M a0 16))), .int (aI M q3 (Int32.toNatClampNeg ((mI M a0 16) - (1 : Int32))))] M) fun x5 M4 =>
    ckk (mC M4 q1 = 100) (ckb ((mI M a0 16) - (1 : Int32)) (mN M4 q1) (rn jm_Clerk_joinDownTo cl 224 [some (.ref a0), some (.int l1)] [] (setA M4 q1 (Int32.toNatClampNeg ((mI M a0 16) - (1 : Int32))) x5)))))))))))))) :=
  tr_eq [0, 40, 50, 107, 142, 189, 224] 22 rfl
set_option maxRecDepth 100000 in
theorem eq_Clerk_joinDownTo_224 (cl : Nat → List Value → ej_Mem → Option ej_R) (a0 : Nat) (l1 : Int32) (M : ej_Mem) : rn jm_Clerk_joinDownTo cl 224 [some (.ref a0), some (.int l1)] [] M =
    rn jm_Clerk_joinDownTo cl 0 [some (.ref a0), some (.int l1)] [] M :=
  tr_eq [0, 40, 50, 107, 142, 189, 224] 2 rfl
theorem ca_Clerk_joinDownTo (d : Nat) (a0 : Nat) (l1 : Int32) (M : ej_Mem) : cal (d + 1) jm_Clerk_joinDownTo [.ref a0, .int l1] M = rn jm_Clerk_joinDownTo (cal d) 0 [some (.ref a0), some (.int l1)] [] M := call_eq (show 2 ≤ 2 by decide)
set_option maxRecDepth 100000 in
theorem eq_Clerk_fillHoles_0 (cl : Nat → List Value → ej_Mem → Option ej_R) (a0 : Nat) (l1 : Int32) (l2 : Int32) (M : ej_Mem) : rn jm_Clerk_fillHoles cl 0 [some (.ref a0), some (.int l1), some (.int l2), none, none, none] [] M =
    ckk (mC M a0 = 0) (rn jm_Clerk_fillHoles cl 8 [some (.ref a0), some (.int l1), some (.int l2), some (.int l1), some (.int (mI M a0 6)), none] [] M) :=
  tr_eq [8] 6 rfl
set_option maxRecDepth 100000 in
theorem eq_Clerk_fillHoles_8 (cl : Nat → List Value → ej_Mem → Option ej_R) (a0 : Nat) (l1 : Int32) (l2 : Int32) (l3 : Int32) (l4 : Int32) (o5 : Option Value) (M : ej_Mem) : rn jm_Clerk_fillHoles cl 8 [some (.ref a0), some (.int l1), some (.int l2), some (.int l3), some (.int l4), o5] [] M =
    (if l4 ≤ (0 : Int32) then
      (some (none, M)) else
      ((if l3 < (0 : Int32) then
        (some (none, M)) else
        (ckk (mC M a0 = 0) ((if (mI M a0 6) ≤ l3 then
          (some (none, M)) else
          (ckk (mC M a0 = 0) (deR (mR M a0 5) fun q1 => ckk (mC M q1 = 100) (ckb l3 (mN M q1) (ckk (mC M a0 = 0) (deR (mR M a0 5) fun q2 => ckk (mC M q2 = 100) (ckb l3 (mN M q2) (rn jm_Clerk_fillHoles cl 8 [some (.ref a0), some (.int l1), some (.int l2), some (.int (aI M q1 (Int32.toNatClampNeg l3))), some (.int (l4 + (-1 : Int32))), some (.int (aI M q1 (Int32.toNatClampNeg l3)))] [] (setA M q2 (Int32.toNatClampNeg l3) l2)))))))))))))) :=
  tr_eq [8] 23 rfl
theorem ca_Clerk_fillHoles (d : Nat) (a0 : Nat) (l1 : Int32) (l2 : Int32) (M : ej_Mem) : cal (d + 1) jm_Clerk_fillHoles [.ref a0, .int l1, .int l2] M = rn jm_Clerk_fillHoles (cal d) 0 [some (.ref a0), some (.int l1), some (.int l2), none, none, none] [] M := call_eq (show 3 ≤ 6 by decide)
set_option maxRecDepth 100000 in
theorem eq_Clerk_chained_0 (cl : Nat → List Value → ej_Mem → Option ej_R) (a0 : Nat) (l1 : Int32) (l2 : Int32) (M : ej_Mem) : rn jm_Clerk_chained cl 0 [some (.ref a0), some (.int l1), some (.int l2), none, none] [] M =
    ckk (mC M a0 = 0) (rn jm_Clerk_chained cl 8 [some (.ref a0), some (.int l1), some (.int l2), some (.int l1), some (.int (mI M a0 6))] [] M) :=
  tr_eq [8] 6 rfl
set_option maxRecDepth 100000 in
theorem eq_Clerk_chained_8 (cl : Nat → List Value → ej_Mem → Option ej_R) (a0 : Nat) (l1 : Int32) (l2 : Int32) (l3 : Int32) (l4 : Int32) (M : ej_Mem) : rn jm_Clerk_chained cl 8 [some (.ref a0), some (.int l1), some (.int l2), some (.int l3), some (.int l4)] [] M =
    (if l4 ≤ (0 : Int32) then
      (some (some (.int l2), M)) else
      ((if l3 < (0 : Int32) then
        (some (some (.int l2), M)) else
        (ckk (mC M a0 = 0) ((if (mI M a0 6) ≤ l3 then
          (some (some (.int l2), M)) else
          (ckk (mC M a0 = 0) (deR (mR M a0 5) fun q1 => ckk (mC M q1 = 100) (ckb l3 (mN M q1) ((if (aI M q1 (Int32.toNatClampNeg l3)) = (-1 : Int32) then
            (ckk (mC M a0 = 0) (deR (mR M a0 5) fun q3 => ckk (mC M q3 = 100) (ckb l3 (mN M q3) (some (some (.int l1), (setA M q3 (Int32.toNatClampNeg l3) l2)))))) else
            (ckk (mC M a0 = 0) (deR (mR M a0 5) fun q2 => ckk (mC M q2 = 100) (ckb l3 (mN M q2) (rn jm_Clerk_chained cl 8 [some (.ref a0), some (.int l1), some (.int l2), some (.int (aI M q2 (Int32.toNatClampNeg l3))), some (.int (l4 + (-1 : Int32)))] [] M))))))))))))))) :=
  tr_eq [8] 22 rfl
theorem ca_Clerk_chained (d : Nat) (a0 : Nat) (l1 : Int32) (l2 : Int32) (M : ej_Mem) : cal (d + 1) jm_Clerk_chained [.ref a0, .int l1, .int l2] M = rn jm_Clerk_chained (cal d) 0 [some (.ref a0), some (.int l1), some (.int l2), none, none] [] M := call_eq (show 3 ≤ 5 by decide)
set_option maxRecDepth 100000 in
theorem eq_Clerk_readRights_0 (cl : Nat → List Value → ej_Mem → Option ej_R) (a0 : Nat) (M : ej_Mem) : rn jm_Clerk_readRights cl 0 [some (.ref a0), none, none] [] M =
    ckk (mC M a0 = 0) (bkI (cl jm_Clerk_look [.ref a0] M) fun x2 M1 =>
    bkI (cl jm_Clerk_isRight [.int x2] M1) fun x4 M3 =>
    (if x4 = (0 : Int32) then
      (ckk (mC M3 a0 = 0) (bkV (cl jm_Clerk_fail [.ref a0, .int (0 : Int32)] M3) fun M7 =>
      ckk (mC M7 a0 = 0) (bkI (cl jm_Clerk_look [.ref a0] M7) fun x9 M8 =>
      rn jm_Clerk_readRights cl 22 [some (.ref a0), some (.int (0 : Int32)), some (.int x9)] [] M8))) else
      (ckk (mC M3 a0 = 0) (bkI (cl jm_Clerk_look [.ref a0] M3) fun x6 M5 =>
      rn jm_Clerk_readRights cl 22 [some (.ref a0), some (.int (0 : Int32)), some (.int x6)] [] M5)))) :=
  tr_eq [22] 13 rfl
set_option maxRecDepth 100000 in
theorem eq_Clerk_readRights_22 (cl : Nat → List Value → ej_Mem → Option ej_R) (a0 : Nat) (l1 : Int32) (l2 : Int32) (M : ej_Mem) : rn jm_Clerk_readRights cl 22 [some (.ref a0), some (.int l1), some (.int l2)] [] M =
    ckk (mC M a0 = 0) (ckk (mC M a0 = 0) ((if (mI M a0 1) ≤ (mI M a0 2) then
      (some (some (.int l1), M)) else
      (bkI (cl jm_Clerk_isRight [.int l2] M) fun x2 M1 =>
      (if x2 = (0 : Int32) then
        (some (some (.int l1), M1)) else
        (ckk (mC M1 a0 = 0) (ckk (mC M1 a0 = 0) (ckk (mC (setI M1 a0 2 ((mI M1 a0 2) + (1 : Int32))) a0 = 0) (bkI (cl jm_Clerk_look [.ref a0] (setI M1 a0 2 ((mI M1 a0 2) + (1 : Int32)))) fun x4 M3 =>
        rn jm_Clerk_readRights cl 22 [some (.ref a0), some (.int (l1 ||| ((1 : Int32) <<< ((l2 - (65 : Int32)) &&& 31)))), some (.int x4)] [] M3))))))))) :=
  tr_eq [22] 27 rfl
theorem ca_Clerk_readRights (d : Nat) (a0 : Nat) (M : ej_Mem) : cal (d + 1) jm_Clerk_readRights [.ref a0] M = rn jm_Clerk_readRights (cal d) 0 [some (.ref a0), none, none] [] M := call_eq (show 1 ≤ 3 by decide)
set_option maxRecDepth 100000 in
theorem eq_Clerk_readNumber_0 (cl : Nat → List Value → ej_Mem → Option ej_R) (a0 : Nat) (l1 : Int32) (M : ej_Mem) : rn jm_Clerk_readNumber cl 0 [some (.ref a0), some (.int l1), none, none] [] M =
    ckk (mC M a0 = 0) (bkI (cl jm_Clerk_look [.ref a0] M) fun x2 M1 =>
    bkI (cl jm_Clerk_isDigit [.int x2] M1) fun x4 M3 =>
    (if x4 = (0 : Int32) then
      (ckk (mC M3 a0 = 0) (bkV (cl jm_Clerk_fail [.ref a0, .int (0 : Int32)] M3) fun M5 =>
      rn jm_Clerk_readNumber cl 15 [some (.ref a0), some (.int l1), none, none] [] M5)) else
      (rn jm_Clerk_readNumber cl 15 [some (.ref a0), some (.int l1), none, none] [] M3))) :=
  tr_eq [15, 19, 74, 80, 90] 8 rfl
set_option maxRecDepth 100000 in
theorem eq_Clerk_readNumber_15 (cl : Nat → List Value → ej_Mem → Option ej_R) (a0 : Nat) (l1 : Int32) (o2 : Option Value) (o3 : Option Value) (M : ej_Mem) : rn jm_Clerk_readNumber cl 15 [some (.ref a0), some (.int l1), o2, o3] [] M =
    rn jm_Clerk_readNumber cl 19 [some (.ref a0), some (.int l1), some (.int (0 : Int32)), some (.int (0 : Int32))] [] M :=
  tr_eq [15, 19, 74, 80, 90] 5 rfl
set_option maxRecDepth 100000 in
theorem eq_Clerk_readNumber_19 (cl : Nat → List Value → ej_Mem → Option ej_R) (a0 : Nat) (l1 : Int32) (l2 : Int32) (l3 : Int32) (M : ej_Mem) : rn jm_Clerk_readNumber cl 19 [some (.ref a0), some (.int l1), some (.int l2), some (.int l3)] [] M =
    ckk (mC M a0 = 0) (ckk (mC M a0 = 0) ((if (mI M a0 1) ≤ ((mI M a0 2) + l3) then
      (rn jm_Clerk_readNumber cl 80 [some (.ref a0), some (.int l1), some (.int l2), some (.int l3)] [] M) else
      (ckk (mC M a0 = 0) (deR (mR M a0 0) fun q1 => ckk (mC M a0 = 0) (ckk (mC M q1 = 100) (ckb ((mI M a0 2) + l3) (mN M q1) (bkI (cl jm_Clerk_isDigit [.int (aI M q1 (Int32.toNatClampNeg ((mI M a0 2) + l3)))] M) fun x3 M2 =>
      (if x3 = (0 : Int32) then
        (rn jm_Clerk_readNumber cl 80 [some (.ref a0), some (.int l1), some (.int l2), some (.int l3)] [] M2) else
        ((if (5 : Int32) ≤ l3 then
          (rn jm_Clerk_readNumber cl 74 [some (.ref a0), some (.int l1), some (.int l2), some (.int l3)] [] M2) else
          (ckk (mC M2 a0 = 0) (deR (mR M2 a0 0) fun q4 => ckk (mC M2 a0 = 0) (ckk (mC M2 q4 = 100) (ckb ((mI M2 a0 2) + l3) (mN M2 q4) (rn jm_Clerk_readNumber cl 74 [some (.ref a0), some (.int l1), some (.int (((l2 * (10 : Int32)) + (aI M2 q4 (Int32.toNatClampNeg ((mI M2 a0 2) + l3)))) - (48 : Int32))), some (.int l3)] [] M2)))))))))))))))) :=
  tr_eq [15, 19, 74, 80, 90] 34 rfl
set_option maxRecDepth 100000 in
theorem eq_Clerk_readNumber_74 (cl : Nat → List Value → ej_Mem → Option ej_R) (a0 : Nat) (l1 : Int32) (l2 : Int32) (l3 : Int32) (M : ej_Mem) : rn jm_Clerk_readNumber cl 74 [some (.ref a0), some (.int l1), some (.int l2), some (.int l3)] [] M =
    rn jm_Clerk_readNumber cl 19 [some (.ref a0), some (.int l1), some (.int l2), some (.int (l3 + (1 : Int32)))] [] M :=
  tr_eq [15, 19, 74, 80, 90] 3 rfl
set_option maxRecDepth 100000 in
theorem eq_Clerk_readNumber_80 (cl : Nat → List Value → ej_Mem → Option ej_R) (a0 : Nat) (l1 : Int32) (l2 : Int32) (l3 : Int32) (M : ej_Mem) : rn jm_Clerk_readNumber cl 80 [some (.ref a0), some (.int l1), some (.int l2), some (.int l3)] [] M =
    (if (5 : Int32) < l3 then
      (rn jm_Clerk_readNumber cl 90 [some (.ref a0), some (.int l1), some (.int l2), some (.int l3)] [] M) else
      ((if l2 ≤ l1 then
        (ckk (mC M a0 = 0) (ckk (mC M a0 = 0) (some (some (.int l2), (setI M a0 2 ((mI M a0 2) + l3)))))) else
        (rn jm_Clerk_readNumber cl 90 [some (.ref a0), some (.int l1), some (.int l2), some (.int l3)] [] M)))) :=
  tr_eq [15, 19, 74, 80, 90] 14 rfl
set_option maxRecDepth 100000 in
theorem eq_Clerk_readNumber_90 (cl : Nat → List Value → ej_Mem → Option ej_R) (a0 : Nat) (l1 : Int32) (l2 : Int32) (l3 : Int32) (M : ej_Mem) : rn jm_Clerk_readNumber cl 90 [some (.ref a0), some (.int l1), some (.int l2), some (.int l3)] [] M =
    ckk (mC M a0 = 0) (bkV (cl jm_Clerk_fail [.ref a0, .int (1 : Int32)] M) fun M1 =>
    some (some (.int (0 : Int32)), M1)) :=
  tr_eq [15, 19, 74, 80, 90] 5 rfl
theorem ca_Clerk_readNumber (d : Nat) (a0 : Nat) (l1 : Int32) (M : ej_Mem) : cal (d + 1) jm_Clerk_readNumber [.ref a0, .int l1] M = rn jm_Clerk_readNumber (cal d) 0 [some (.ref a0), some (.int l1), none, none] [] M := call_eq (show 2 ≤ 4 by decide)
set_option maxRecDepth 100000 in
theorem eq_Clerk_look_0 (cl : Nat → List Value → ej_Mem → Option ej_R) (a0 : Nat) (M : ej_Mem) : rn jm_Clerk_look cl 0 [some (.ref a0)] [] M =
    ckk (mC M a0 = 0) (ckk (mC M a0 = 0) ((if (mI M a0 1) ≤ (mI M a0 2) then
      (ckk (mC M a0 = 0) (ckk (mC M a0 = 0) ((if (mI M a0 1) ≤ (mI M a0 2) then
        (some (some (.int (-1 : Int32)), M)) else
        (ckk (mC M a0 = 0) (deR (mR M a0 0) fun q1 => ckk (mC M a0 = 0) (ckk (mC M q1 = 100) (ckb (mI M a0 2) (mN M q1) (some (some (.int (aI M q1 (Int32.toNatClampNeg (mI M a0 2)))), M)))))))))) else
      (ckk (mC M a0 = 0) (deR (mR M a0 0) fun q2 => ckk (mC M a0 = 0) (ckk (mC M q2 = 100) (ckb (mI M a0 2) (mN M q2) ((if (aI M q2 (Int32.toNatClampNeg (mI M a0 2))) = (32 : Int32) then
        (ckk (mC M a0 = 0) (ckk (mC M a0 = 0) (rn jm_Clerk_look cl 0 [some (.ref a0)] [] (setI M a0 2 ((mI M a0 2) + (1 : Int32)))))) else
        (ckk (mC M a0 = 0) (ckk (mC M a0 = 0) ((if (mI M a0 1) ≤ (mI M a0 2) then
          (some (some (.int (-1 : Int32)), M)) else
          (ckk (mC M a0 = 0) (deR (mR M a0 0) fun q3 => ckk (mC M a0 = 0) (ckk (mC M q3 = 100) (ckb (mI M a0 2) (mN M q3) (some (some (.int (aI M q3 (Int32.toNatClampNeg (mI M a0 2)))), M))))))))))))))))))) :=
  tr_eq [0] 24 rfl
theorem ca_Clerk_look (d : Nat) (a0 : Nat) (M : ej_Mem) : cal (d + 1) jm_Clerk_look [.ref a0] M = rn jm_Clerk_look (cal d) 0 [some (.ref a0)] [] M := call_eq (show 1 ≤ 1 by decide)
set_option maxRecDepth 100000 in
theorem eq_Clerk_skipWord_0 (cl : Nat → List Value → ej_Mem → Option ej_R) (a0 : Nat) (M : ej_Mem) : rn jm_Clerk_skipWord cl 0 [some (.ref a0)] [] M =
    ckk (mC M a0 = 0) (ckk (mC M a0 = 0) ((if (mI M a0 1) ≤ (mI M a0 2) then
      (some (none, M)) else
      (ckk (mC M a0 = 0) (deR (mR M a0 0) fun q1 => ckk (mC M a0 = 0) (ckk (mC M q1 = 100) (ckb (mI M a0 2) (mN M q1) (bkI (cl jm_Clerk_isSmall [.int (aI M q1 (Int32.toNatClampNeg (mI M a0 2)))] M) fun x3 M2 =>
      (if x3 = (0 : Int32) then
        (some (none, M2)) else
        (ckk (mC M2 a0 = 0) (ckk (mC M2 a0 = 0) (rn jm_Clerk_skipWord cl 0 [some (.ref a0)] [] (setI M2 a0 2 ((mI M2 a0 2) + (1 : Int32))))))))))))))) :=
  tr_eq [0] 20 rfl
theorem ca_Clerk_skipWord (d : Nat) (a0 : Nat) (M : ej_Mem) : cal (d + 1) jm_Clerk_skipWord [.ref a0] M = rn jm_Clerk_skipWord (cal d) 0 [some (.ref a0)] [] M := call_eq (show 1 ≤ 1 by decide)
set_option maxRecDepth 100000 in
theorem eq_Clerk_isWord_0 (cl : Nat → List Value → ej_Mem → Option ej_R) (a0 : Nat) (a1 : Nat) (M : ej_Mem) : rn jm_Clerk_isWord cl 0 [some (.ref a0), some (.ref a1), none, none] [] M =
    ckk (mC M a1 = 10) (bkI (cl jm_Str_length_8abf5 [.ref a1] M) fun x2 M1 =>
    ckk (mC M1 a0 = 0) (ckk (mC M1 a0 = 0) ((if (mI M1 a0 1) < ((mI M1 a0 2) + x2) then
      (ckk ((0 : Int32) = 0 ∨ (0 : Int32) = 1) (some (some (.int (0 : Int32)), M1))) else
      (ckk (mC M1 a0 = 0) (ckk (mC M1 a0 = 0) ((if (mI M1 a0 1) ≤ ((mI M1 a0 2) + x2) then
        (rn jm_Clerk_isWord cl 52 [some (.ref a0), some (.ref a1), some (.int x2), some (.int (0 : Int32))] [] M1) else
        (ckk (mC M1 a0 = 0) (deR (mR M1 a0 0) fun q3 => ckk (mC M1 a0 = 0) (ckk (mC M1 q3 = 100) (ckb ((mI M1 a0 2) + x2) (mN M1 q3) (bkI (cl jm_Clerk_isSmall [.int (aI M1 q3 (Int32.toNatClampNeg ((mI M1 a0 2) + x2)))] M1) fun x5 M4 =>
        (if x5 = (0 : Int32) then
          (rn jm_Clerk_isWord cl 52 [some (.ref a0), some (.ref a1), some (.int x2), some (.int (0 : Int32))] [] M4) else
          (ckk ((0 : Int32) = 0 ∨ (0 : Int32) = 1) (some (some (.int (0 : Int32)), M4))))))))))))))))) :=
  tr_eq [52] 29 rfl
set_option maxRecDepth 100000 in
theorem eq_Clerk_isWord_52 (cl : Nat → List Value → ej_Mem → Option ej_R) (a0 : Nat) (a1 : Nat) (l2 : Int32) (l3 : Int32) (M : ej_Mem) : rn jm_Clerk_isWord cl 52 [some (.ref a0), some (.ref a1), some (.int l2), some (.int l3)] [] M =
    (if l2 ≤ l3 then
      (ckk ((1 : Int32) = 0 ∨ (1 : Int32) = 1) (some (some (.int (1 : Int32)), M))) else
      (ckk (mC M a0 = 0) (deR (mR M a0 0) fun q1 => ckk (mC M a0 = 0) (ckk (mC M q1 = 100) (ckb ((mI M a0 2) + l3) (mN M q1) (ckk (mC M a1 = 10) (bkI (cl jm_Str_charAt_5068e [.ref a1, .int l3] M) fun x3 M2 =>
      (if (aI M q1 (Int32.toNatClampNeg ((mI M a0 2) + l3))) = x3 then
        (rn jm_Clerk_isWord cl 52 [some (.ref a0), some (.ref a1), some (.int l2), some (.int (l3 + (1 : Int32)))] [] M2) else
        (ckk ((0 : Int32) = 0 ∨ (0 : Int32) = 1) (some (some (.int (0 : Int32)), M2))))))))))) :=
  tr_eq [52] 17 rfl
theorem ca_Clerk_isWord (d : Nat) (a0 : Nat) (a1 : Nat) (M : ej_Mem) : cal (d + 1) jm_Clerk_isWord [.ref a0, .ref a1] M = rn jm_Clerk_isWord (cal d) 0 [some (.ref a0), some (.ref a1), none, none] [] M := call_eq (show 2 ≤ 4 by decide)
set_option maxRecDepth 100000 in
theorem eq_Clerk_isSmall_0 (cl : Nat → List Value → ej_Mem → Option ej_R) (l0 : Int32) (M : ej_Mem) : rn jm_Clerk_isSmall cl 0 [some (.int l0)] [] M =
    (if l0 < (97 : Int32) then
      (ckk ((0 : Int32) = 0 ∨ (0 : Int32) = 1) (some (some (.int (0 : Int32)), M))) else
      ((if (122 : Int32) < l0 then
        (ckk ((0 : Int32) = 0 ∨ (0 : Int32) = 1) (some (some (.int (0 : Int32)), M))) else
        (ckk ((1 : Int32) = 0 ∨ (1 : Int32) = 1) (some (some (.int (1 : Int32)), M)))))) :=
  tr_eq [] 9 rfl
theorem ca_Clerk_isSmall (d : Nat) (l0 : Int32) (M : ej_Mem) : cal (d + 1) jm_Clerk_isSmall [.int l0] M = rn jm_Clerk_isSmall (cal d) 0 [some (.int l0)] [] M := call_eq (show 1 ≤ 1 by decide)
set_option maxRecDepth 100000 in
theorem eq_Clerk_isRight_0 (cl : Nat → List Value → ej_Mem → Option ej_R) (l0 : Int32) (M : ej_Mem) : rn jm_Clerk_isRight cl 0 [some (.int l0)] [] M =
    (if l0 < (65 : Int32) then
      (ckk ((0 : Int32) = 0 ∨ (0 : Int32) = 1) (some (some (.int (0 : Int32)), M))) else
      ((if (88 : Int32) < l0 then
        (ckk ((0 : Int32) = 0 ∨ (0 : Int32) = 1) (some (some (.int (0 : Int32)), M))) else
        (ckk ((1 : Int32) = 0 ∨ (1 : Int32) = 1) (some (some (.int (1 : Int32)), M)))))) :=
  tr_eq [] 9 rfl
theorem ca_Clerk_isRight (d : Nat) (l0 : Int32) (M : ej_Mem) : cal (d + 1) jm_Clerk_isRight [.int l0] M = rn jm_Clerk_isRight (cal d) 0 [some (.int l0)] [] M := call_eq (show 1 ≤ 1 by decide)
set_option maxRecDepth 100000 in
theorem eq_Clerk_isDigit_0 (cl : Nat → List Value → ej_Mem → Option ej_R) (l0 : Int32) (M : ej_Mem) : rn jm_Clerk_isDigit cl 0 [some (.int l0)] [] M =
    (if l0 < (48 : Int32) then
      (ckk ((0 : Int32) = 0 ∨ (0 : Int32) = 1) (some (some (.int (0 : Int32)), M))) else
      ((if (57 : Int32) < l0 then
        (ckk ((0 : Int32) = 0 ∨ (0 : Int32) = 1) (some (some (.int (0 : Int32)), M))) else
        (ckk ((1 : Int32) = 0 ∨ (1 : Int32) = 1) (some (some (.int (1 : Int32)), M)))))) :=
  tr_eq [] 9 rfl
theorem ca_Clerk_isDigit (d : Nat) (l0 : Int32) (M : ej_Mem) : cal (d + 1) jm_Clerk_isDigit [.int l0] M = rn jm_Clerk_isDigit (cal d) 0 [some (.int l0)] [] M := call_eq (show 1 ≤ 1 by decide)
set_option maxRecDepth 100000 in
theorem eq_Clerk_fail_0 (cl : Nat → List Value → ej_Mem → Option ej_R) (a0 : Nat) (l1 : Int32) (M : ej_Mem) : rn jm_Clerk_fail cl 0 [some (.ref a0), some (.int l1)] [] M =
    ckk (mC M a0 = 0) ((if (mI M a0 3) = (0 : Int32) then
      (ckk (mC M a0 = 0) (ckk (mC M a0 = 0) (some (none, (setI M a0 3 (((1 : Int32) + ((8 : Int32) * (mI M a0 2))) + l1)))))) else
      (some (none, M)))) :=
  tr_eq [] 14 rfl
theorem ca_Clerk_fail (d : Nat) (a0 : Nat) (l1 : Int32) (M : ej_Mem) : cal (d + 1) jm_Clerk_fail [.ref a0, .int l1] M = rn jm_Clerk_fail (cal d) 0 [some (.ref a0), some (.int l1)] [] M := call_eq (show 2 ≤ 2 by decide)
