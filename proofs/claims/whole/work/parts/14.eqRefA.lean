/-! equations of the methods: from the entry and each loop head a tree of tests; written by wip/gen/eqs.py -/
abbrev ej_gb (sw : Nat → List (Int32 × Nat)) (code : Nat → Option (ej_I × Nat)) (cl : Nat → List Value → ej_Mem → Option ej_R) (stop : List Nat) : Nat → ej_K → ej_K
  | 0, K => K
  | n + 1, K => fun pc ls st M => bif stop.contains pc then K pc ls st M else ej_sp sw code cl pc ls st M (ej_gb sw code cl stop n K)
theorem gb_eq (sw : Nat → List (Int32 × Nat)) (code : Nat → Option (ej_I × Nat)) (cl : Nat → List Value → ej_Mem → Option ej_R) (stop : List Nat) : ∀ n, ej_gb sw code cl stop n (ej_run sw code cl) = ej_run sw code cl
  | 0 => rfl
  | n + 1 => by
    funext pc ls st M
    show (bif stop.contains pc then ej_run sw code cl pc ls st M else ej_sp sw code cl pc ls st M (ej_gb sw code cl stop n (ej_run sw code cl))) = _
    rw [gb_eq sw code cl stop n]
    cases stop.contains pc
    · exact (run_eq sw code cl pc ls st M).symm
    · rfl
theorem tr_eb {m : Nat} {cl : Nat → List Value → ej_Mem → Option ej_R} {pc : Nat} {ls : ej_L} {st : List Value} {M : ej_Mem} {r : Option ej_R} (stop : List Nat) (n : Nat) (h : ej_sp ej_sw (ej_code m) cl pc ls st M (ej_gb ej_sw (ej_code m) cl stop n (rn m cl)) = r) : rn m cl pc ls st M = r := by
  rw [← h]
  show ej_run ej_sw (ej_code m) cl pc ls st M = ej_sp ej_sw (ej_code m) cl pc ls st M (ej_gb ej_sw (ej_code m) cl stop n (ej_run ej_sw (ej_code m) cl))
  rw [gb_eq, ← run_eq]
set_option maxRecDepth 100000 in
theorem eq_Ref_init_0 (cl : Nat → List Value → ej_Mem → Option ej_R) (a0 : Nat) (M : ej_Mem) : rn jm_Ref_init cl 0 [some (.ref a0), none] [] M =
    ckk (¬ (400 : Int32) < 0 ∧ Int32.toNatClampNeg (400 : Int32) ≤ 67108864) (ckk (mC (newM M 101 (Int32.toNatClampNeg (400 : Int32)) (Int32.toNatClampNeg (400 : Int32))) a0 = 9) (rn jm_Ref_init cl 13 [some (.ref a0), none] [] (setR (newM M 101 (Int32.toNatClampNeg (400 : Int32)) (Int32.toNatClampNeg (400 : Int32))) a0 10 (some (mZ M))))) :=
  tr_eb [13, 20, 29, 38, 46, 55, 64, 73, 82, 91, 99, 107, 115, 124, 133, 142, 151, 160, 169, 178, 187, 196, 201, 206, 211, 220, 229, 237, 245, 253, 262, 270, 278, 285, 287] 7 rfl
set_option maxRecDepth 100000 in
theorem eq_Ref_init_13 (cl : Nat → List Value → ej_Mem → Option ej_R) (a0 : Nat) (o1 : Option Value) (M : ej_Mem) : rn jm_Ref_init cl 13 [some (.ref a0), o1] [] M =
    ckk (¬ (4 : Int32) < 0 ∧ Int32.toNatClampNeg (4 : Int32) ≤ 67108864) (ckk (mC (newM M 100 (Int32.toNatClampNeg (4 : Int32)) (Int32.toNatClampNeg (4 : Int32))) a0 = 9) (rn jm_Ref_init cl 20 [some (.ref a0), o1] [] (setR (newM M 100 (Int32.toNatClampNeg (4 : Int32)) (Int32.toNatClampNeg (4 : Int32))) a0 11 (some (mZ M))))) :=
  tr_eb [13, 20, 29, 38, 46, 55, 64, 73, 82, 91, 99, 107, 115, 124, 133, 142, 151, 160, 169, 178, 187, 196, 201, 206, 211, 220, 229, 237, 245, 253, 262, 270, 278, 285, 287] 5 rfl
set_option maxRecDepth 100000 in
theorem eq_Ref_init_20 (cl : Nat → List Value → ej_Mem → Option ej_R) (a0 : Nat) (o1 : Option Value) (M : ej_Mem) : rn jm_Ref_init cl 20 [some (.ref a0), o1] [] M =
    ckk (¬ (14400 : Int32) < 0 ∧ Int32.toNatClampNeg (14400 : Int32) ≤ 67108864) (ckk (mC (newM M 100 (Int32.toNatClampNeg (14400 : Int32)) (Int32.toNatClampNeg (14400 : Int32))) a0 = 9) (rn jm_Ref_init cl 29 [some (.ref a0), o1] [] (setR (newM M 100 (Int32.toNatClampNeg (14400 : Int32)) (Int32.toNatClampNeg (14400 : Int32))) a0 12 (some (mZ M))))) :=
  tr_eb [13, 20, 29, 38, 46, 55, 64, 73, 82, 91, 99, 107, 115, 124, 133, 142, 151, 160, 169, 178, 187, 196, 201, 206, 211, 220, 229, 237, 245, 253, 262, 270, 278, 285, 287] 5 rfl
set_option maxRecDepth 100000 in
theorem eq_Ref_init_29 (cl : Nat → List Value → ej_Mem → Option ej_R) (a0 : Nat) (o1 : Option Value) (M : ej_Mem) : rn jm_Ref_init cl 29 [some (.ref a0), o1] [] M =
    ckk (¬ (14400 : Int32) < 0 ∧ Int32.toNatClampNeg (14400 : Int32) ≤ 67108864) (ckk (mC (newM M 100 (Int32.toNatClampNeg (14400 : Int32)) (Int32.toNatClampNeg (14400 : Int32))) a0 = 9) (rn jm_Ref_init cl 38 [some (.ref a0), o1] [] (setR (newM M 100 (Int32.toNatClampNeg (14400 : Int32)) (Int32.toNatClampNeg (14400 : Int32))) a0 13 (some (mZ M))))) :=
  tr_eb [13, 20, 29, 38, 46, 55, 64, 73, 82, 91, 99, 107, 115, 124, 133, 142, 151, 160, 169, 178, 187, 196, 201, 206, 211, 220, 229, 237, 245, 253, 262, 270, 278, 285, 287] 5 rfl
set_option maxRecDepth 100000 in
theorem eq_Ref_init_38 (cl : Nat → List Value → ej_Mem → Option ej_R) (a0 : Nat) (o1 : Option Value) (M : ej_Mem) : rn jm_Ref_init cl 38 [some (.ref a0), o1] [] M =
    ckk (¬ (72 : Int32) < 0 ∧ Int32.toNatClampNeg (72 : Int32) ≤ 67108864) (ckk (mC (newM M 100 (Int32.toNatClampNeg (72 : Int32)) (Int32.toNatClampNeg (72 : Int32))) a0 = 9) (rn jm_Ref_init cl 46 [some (.ref a0), o1] [] (setR (newM M 100 (Int32.toNatClampNeg (72 : Int32)) (Int32.toNatClampNeg (72 : Int32))) a0 14 (some (mZ M))))) :=
  tr_eb [13, 20, 29, 38, 46, 55, 64, 73, 82, 91, 99, 107, 115, 124, 133, 142, 151, 160, 169, 178, 187, 196, 201, 206, 211, 220, 229, 237, 245, 253, 262, 270, 278, 285, 287] 5 rfl
set_option maxRecDepth 100000 in
theorem eq_Ref_init_46 (cl : Nat → List Value → ej_Mem → Option ej_R) (a0 : Nat) (o1 : Option Value) (M : ej_Mem) : rn jm_Ref_init cl 46 [some (.ref a0), o1] [] M =
    ckk (¬ (864 : Int32) < 0 ∧ Int32.toNatClampNeg (864 : Int32) ≤ 67108864) (ckk (mC (newM M 100 (Int32.toNatClampNeg (864 : Int32)) (Int32.toNatClampNeg (864 : Int32))) a0 = 9) (rn jm_Ref_init cl 55 [some (.ref a0), o1] [] (setR (newM M 100 (Int32.toNatClampNeg (864 : Int32)) (Int32.toNatClampNeg (864 : Int32))) a0 15 (some (mZ M))))) :=
  tr_eb [13, 20, 29, 38, 46, 55, 64, 73, 82, 91, 99, 107, 115, 124, 133, 142, 151, 160, 169, 178, 187, 196, 201, 206, 211, 220, 229, 237, 245, 253, 262, 270, 278, 285, 287] 5 rfl
set_option maxRecDepth 100000 in
theorem eq_Ref_init_55 (cl : Nat → List Value → ej_Mem → Option ej_R) (a0 : Nat) (o1 : Option Value) (M : ej_Mem) : rn jm_Ref_init cl 55 [some (.ref a0), o1] [] M =
    ckk (¬ (864 : Int32) < 0 ∧ Int32.toNatClampNeg (864 : Int32) ≤ 67108864) (ckk (mC (newM M 100 (Int32.toNatClampNeg (864 : Int32)) (Int32.toNatClampNeg (864 : Int32))) a0 = 9) (rn jm_Ref_init cl 64 [some (.ref a0), o1] [] (setR (newM M 100 (Int32.toNatClampNeg (864 : Int32)) (Int32.toNatClampNeg (864 : Int32))) a0 16 (some (mZ M))))) :=
  tr_eb [13, 20, 29, 38, 46, 55, 64, 73, 82, 91, 99, 107, 115, 124, 133, 142, 151, 160, 169, 178, 187, 196, 201, 206, 211, 220, 229, 237, 245, 253, 262, 270, 278, 285, 287] 5 rfl
set_option maxRecDepth 100000 in
theorem eq_Ref_init_64 (cl : Nat → List Value → ej_Mem → Option ej_R) (a0 : Nat) (o1 : Option Value) (M : ej_Mem) : rn jm_Ref_init cl 64 [some (.ref a0), o1] [] M =
    ckk (¬ (864 : Int32) < 0 ∧ Int32.toNatClampNeg (864 : Int32) ≤ 67108864) (ckk (mC (newM M 100 (Int32.toNatClampNeg (864 : Int32)) (Int32.toNatClampNeg (864 : Int32))) a0 = 9) (rn jm_Ref_init cl 73 [some (.ref a0), o1] [] (setR (newM M 100 (Int32.toNatClampNeg (864 : Int32)) (Int32.toNatClampNeg (864 : Int32))) a0 17 (some (mZ M))))) :=
  tr_eb [13, 20, 29, 38, 46, 55, 64, 73, 82, 91, 99, 107, 115, 124, 133, 142, 151, 160, 169, 178, 187, 196, 201, 206, 211, 220, 229, 237, 245, 253, 262, 270, 278, 285, 287] 5 rfl
set_option maxRecDepth 100000 in
theorem eq_Ref_init_73 (cl : Nat → List Value → ej_Mem → Option ej_R) (a0 : Nat) (o1 : Option Value) (M : ej_Mem) : rn jm_Ref_init cl 73 [some (.ref a0), o1] [] M =
    ckk (¬ (864 : Int32) < 0 ∧ Int32.toNatClampNeg (864 : Int32) ≤ 67108864) (ckk (mC (newM M 100 (Int32.toNatClampNeg (864 : Int32)) (Int32.toNatClampNeg (864 : Int32))) a0 = 9) (rn jm_Ref_init cl 82 [some (.ref a0), o1] [] (setR (newM M 100 (Int32.toNatClampNeg (864 : Int32)) (Int32.toNatClampNeg (864 : Int32))) a0 18 (some (mZ M))))) :=
  tr_eb [13, 20, 29, 38, 46, 55, 64, 73, 82, 91, 99, 107, 115, 124, 133, 142, 151, 160, 169, 178, 187, 196, 201, 206, 211, 220, 229, 237, 245, 253, 262, 270, 278, 285, 287] 5 rfl
set_option maxRecDepth 100000 in
theorem eq_Ref_init_82 (cl : Nat → List Value → ej_Mem → Option ej_R) (a0 : Nat) (o1 : Option Value) (M : ej_Mem) : rn jm_Ref_init cl 82 [some (.ref a0), o1] [] M =
    ckk (¬ (402 : Int32) < 0 ∧ Int32.toNatClampNeg (402 : Int32) ≤ 67108864) (ckk (mC (newM M 100 (Int32.toNatClampNeg (402 : Int32)) (Int32.toNatClampNeg (402 : Int32))) a0 = 9) (rn jm_Ref_init cl 91 [some (.ref a0), o1] [] (setR (newM M 100 (Int32.toNatClampNeg (402 : Int32)) (Int32.toNatClampNeg (402 : Int32))) a0 19 (some (mZ M))))) :=
  tr_eb [13, 20, 29, 38, 46, 55, 64, 73, 82, 91, 99, 107, 115, 124, 133, 142, 151, 160, 169, 178, 187, 196, 201, 206, 211, 220, 229, 237, 245, 253, 262, 270, 278, 285, 287] 5 rfl
set_option maxRecDepth 100000 in
theorem eq_Ref_init_91 (cl : Nat → List Value → ej_Mem → Option ej_R) (a0 : Nat) (o1 : Option Value) (M : ej_Mem) : rn jm_Ref_init cl 91 [some (.ref a0), o1] [] M =
    ckk (¬ (40 : Int32) < 0 ∧ Int32.toNatClampNeg (40 : Int32) ≤ 67108864) (ckk (mC (newM M 100 (Int32.toNatClampNeg (40 : Int32)) (Int32.toNatClampNeg (40 : Int32))) a0 = 9) (rn jm_Ref_init cl 99 [some (.ref a0), o1] [] (setR (newM M 100 (Int32.toNatClampNeg (40 : Int32)) (Int32.toNatClampNeg (40 : Int32))) a0 20 (some (mZ M))))) :=
  tr_eb [13, 20, 29, 38, 46, 55, 64, 73, 82, 91, 99, 107, 115, 124, 133, 142, 151, 160, 169, 178, 187, 196, 201, 206, 211, 220, 229, 237, 245, 253, 262, 270, 278, 285, 287] 5 rfl
set_option maxRecDepth 100000 in
theorem eq_Ref_init_99 (cl : Nat → List Value → ej_Mem → Option ej_R) (a0 : Nat) (o1 : Option Value) (M : ej_Mem) : rn jm_Ref_init cl 99 [some (.ref a0), o1] [] M =
    ckk (¬ (40 : Int32) < 0 ∧ Int32.toNatClampNeg (40 : Int32) ≤ 67108864) (ckk (mC (newM M 100 (Int32.toNatClampNeg (40 : Int32)) (Int32.toNatClampNeg (40 : Int32))) a0 = 9) (rn jm_Ref_init cl 107 [some (.ref a0), o1] [] (setR (newM M 100 (Int32.toNatClampNeg (40 : Int32)) (Int32.toNatClampNeg (40 : Int32))) a0 21 (some (mZ M))))) :=
  tr_eb [13, 20, 29, 38, 46, 55, 64, 73, 82, 91, 99, 107, 115, 124, 133, 142, 151, 160, 169, 178, 187, 196, 201, 206, 211, 220, 229, 237, 245, 253, 262, 270, 278, 285, 287] 5 rfl
set_option maxRecDepth 100000 in
theorem eq_Ref_init_107 (cl : Nat → List Value → ej_Mem → Option ej_R) (a0 : Nat) (o1 : Option Value) (M : ej_Mem) : rn jm_Ref_init cl 107 [some (.ref a0), o1] [] M =
    ckk (¬ (24 : Int32) < 0 ∧ Int32.toNatClampNeg (24 : Int32) ≤ 67108864) (ckk (mC (newM M 100 (Int32.toNatClampNeg (24 : Int32)) (Int32.toNatClampNeg (24 : Int32))) a0 = 9) (rn jm_Ref_init cl 115 [some (.ref a0), o1] [] (setR (newM M 100 (Int32.toNatClampNeg (24 : Int32)) (Int32.toNatClampNeg (24 : Int32))) a0 22 (some (mZ M))))) :=
  tr_eb [13, 20, 29, 38, 46, 55, 64, 73, 82, 91, 99, 107, 115, 124, 133, 142, 151, 160, 169, 178, 187, 196, 201, 206, 211, 220, 229, 237, 245, 253, 262, 270, 278, 285, 287] 5 rfl
set_option maxRecDepth 100000 in
theorem eq_Ref_init_115 (cl : Nat → List Value → ej_Mem → Option ej_R) (a0 : Nat) (o1 : Option Value) (M : ej_Mem) : rn jm_Ref_init cl 115 [some (.ref a0), o1] [] M =
    ckk (¬ (200 : Int32) < 0 ∧ Int32.toNatClampNeg (200 : Int32) ≤ 67108864) (ckk (mC (newM M 102 (Int32.toNatClampNeg (200 : Int32)) (Int32.toNatClampNeg (200 : Int32))) a0 = 9) (rn jm_Ref_init cl 124 [some (.ref a0), o1] [] (setR (newM M 102 (Int32.toNatClampNeg (200 : Int32)) (Int32.toNatClampNeg (200 : Int32))) a0 23 (some (mZ M))))) :=
  tr_eb [13, 20, 29, 38, 46, 55, 64, 73, 82, 91, 99, 107, 115, 124, 133, 142, 151, 160, 169, 178, 187, 196, 201, 206, 211, 220, 229, 237, 245, 253, 262, 270, 278, 285, 287] 5 rfl
set_option maxRecDepth 100000 in
theorem eq_Ref_init_124 (cl : Nat → List Value → ej_Mem → Option ej_R) (a0 : Nat) (o1 : Option Value) (M : ej_Mem) : rn jm_Ref_init cl 124 [some (.ref a0), o1] [] M =
    ckk (¬ (16384 : Int32) < 0 ∧ Int32.toNatClampNeg (16384 : Int32) ≤ 67108864) (ckk (mC (newM M 100 (Int32.toNatClampNeg (16384 : Int32)) (Int32.toNatClampNeg (16384 : Int32))) a0 = 9) (rn jm_Ref_init cl 133 [some (.ref a0), o1] [] (setR (newM M 100 (Int32.toNatClampNeg (16384 : Int32)) (Int32.toNatClampNeg (16384 : Int32))) a0 24 (some (mZ M))))) :=
  tr_eb [13, 20, 29, 38, 46, 55, 64, 73, 82, 91, 99, 107, 115, 124, 133, 142, 151, 160, 169, 178, 187, 196, 201, 206, 211, 220, 229, 237, 245, 253, 262, 270, 278, 285, 287] 5 rfl
set_option maxRecDepth 100000 in
theorem eq_Ref_init_133 (cl : Nat → List Value → ej_Mem → Option ej_R) (a0 : Nat) (o1 : Option Value) (M : ej_Mem) : rn jm_Ref_init cl 133 [some (.ref a0), o1] [] M =
    ckk (¬ (16384 : Int32) < 0 ∧ Int32.toNatClampNeg (16384 : Int32) ≤ 67108864) (ckk (mC (newM M 100 (Int32.toNatClampNeg (16384 : Int32)) (Int32.toNatClampNeg (16384 : Int32))) a0 = 9) (rn jm_Ref_init cl 142 [some (.ref a0), o1] [] (setR (newM M 100 (Int32.toNatClampNeg (16384 : Int32)) (Int32.toNatClampNeg (16384 : Int32))) a0 25 (some (mZ M))))) :=
  tr_eb [13, 20, 29, 38, 46, 55, 64, 73, 82, 91, 99, 107, 115, 124, 133, 142, 151, 160, 169, 178, 187, 196, 201, 206, 211, 220, 229, 237, 245, 253, 262, 270, 278, 285, 287] 5 rfl
set_option maxRecDepth 100000 in
theorem eq_Ref_init_142 (cl : Nat → List Value → ej_Mem → Option ej_R) (a0 : Nat) (o1 : Option Value) (M : ej_Mem) : rn jm_Ref_init cl 142 [some (.ref a0), o1] [] M =
    ckk (¬ (16384 : Int32) < 0 ∧ Int32.toNatClampNeg (16384 : Int32) ≤ 67108864) (ckk (mC (newM M 100 (Int32.toNatClampNeg (16384 : Int32)) (Int32.toNatClampNeg (16384 : Int32))) a0 = 9) (rn jm_Ref_init cl 151 [some (.ref a0), o1] [] (setR (newM M 100 (Int32.toNatClampNeg (16384 : Int32)) (Int32.toNatClampNeg (16384 : Int32))) a0 26 (some (mZ M))))) :=
  tr_eb [13, 20, 29, 38, 46, 55, 64, 73, 82, 91, 99, 107, 115, 124, 133, 142, 151, 160, 169, 178, 187, 196, 201, 206, 211, 220, 229, 237, 245, 253, 262, 270, 278, 285, 287] 5 rfl
set_option maxRecDepth 100000 in
theorem eq_Ref_init_151 (cl : Nat → List Value → ej_Mem → Option ej_R) (a0 : Nat) (o1 : Option Value) (M : ej_Mem) : rn jm_Ref_init cl 151 [some (.ref a0), o1] [] M =
    ckk (¬ (4000 : Int32) < 0 ∧ Int32.toNatClampNeg (4000 : Int32) ≤ 67108864) (ckk (mC (newM M 100 (Int32.toNatClampNeg (4000 : Int32)) (Int32.toNatClampNeg (4000 : Int32))) a0 = 9) (rn jm_Ref_init cl 160 [some (.ref a0), o1] [] (setR (newM M 100 (Int32.toNatClampNeg (4000 : Int32)) (Int32.toNatClampNeg (4000 : Int32))) a0 28 (some (mZ M))))) :=
  tr_eb [13, 20, 29, 38, 46, 55, 64, 73, 82, 91, 99, 107, 115, 124, 133, 142, 151, 160, 169, 178, 187, 196, 201, 206, 211, 220, 229, 237, 245, 253, 262, 270, 278, 285, 287] 5 rfl
set_option maxRecDepth 100000 in
theorem eq_Ref_init_160 (cl : Nat → List Value → ej_Mem → Option ej_R) (a0 : Nat) (o1 : Option Value) (M : ej_Mem) : rn jm_Ref_init cl 160 [some (.ref a0), o1] [] M =
    ckk (¬ (4000 : Int32) < 0 ∧ Int32.toNatClampNeg (4000 : Int32) ≤ 67108864) (ckk (mC (newM M 100 (Int32.toNatClampNeg (4000 : Int32)) (Int32.toNatClampNeg (4000 : Int32))) a0 = 9) (rn jm_Ref_init cl 169 [some (.ref a0), o1] [] (setR (newM M 100 (Int32.toNatClampNeg (4000 : Int32)) (Int32.toNatClampNeg (4000 : Int32))) a0 29 (some (mZ M))))) :=
  tr_eb [13, 20, 29, 38, 46, 55, 64, 73, 82, 91, 99, 107, 115, 124, 133, 142, 151, 160, 169, 178, 187, 196, 201, 206, 211, 220, 229, 237, 245, 253, 262, 270, 278, 285, 287] 5 rfl
set_option maxRecDepth 100000 in
theorem eq_Ref_init_169 (cl : Nat → List Value → ej_Mem → Option ej_R) (a0 : Nat) (o1 : Option Value) (M : ej_Mem) : rn jm_Ref_init cl 169 [some (.ref a0), o1] [] M =
    ckk (¬ (4000 : Int32) < 0 ∧ Int32.toNatClampNeg (4000 : Int32) ≤ 67108864) (ckk (mC (newM M 100 (Int32.toNatClampNeg (4000 : Int32)) (Int32.toNatClampNeg (4000 : Int32))) a0 = 9) (rn jm_Ref_init cl 178 [some (.ref a0), o1] [] (setR (newM M 100 (Int32.toNatClampNeg (4000 : Int32)) (Int32.toNatClampNeg (4000 : Int32))) a0 30 (some (mZ M))))) :=
  tr_eb [13, 20, 29, 38, 46, 55, 64, 73, 82, 91, 99, 107, 115, 124, 133, 142, 151, 160, 169, 178, 187, 196, 201, 206, 211, 220, 229, 237, 245, 253, 262, 270, 278, 285, 287] 5 rfl
set_option maxRecDepth 100000 in
theorem eq_Ref_init_178 (cl : Nat → List Value → ej_Mem → Option ej_R) (a0 : Nat) (o1 : Option Value) (M : ej_Mem) : rn jm_Ref_init cl 178 [some (.ref a0), o1] [] M =
    ckk (¬ (500 : Int32) < 0 ∧ Int32.toNatClampNeg (500 : Int32) ≤ 67108864) (ckk (mC (newM M 100 (Int32.toNatClampNeg (500 : Int32)) (Int32.toNatClampNeg (500 : Int32))) a0 = 9) (rn jm_Ref_init cl 187 [some (.ref a0), o1] [] (setR (newM M 100 (Int32.toNatClampNeg (500 : Int32)) (Int32.toNatClampNeg (500 : Int32))) a0 38 (some (mZ M))))) :=
  tr_eb [13, 20, 29, 38, 46, 55, 64, 73, 82, 91, 99, 107, 115, 124, 133, 142, 151, 160, 169, 178, 187, 196, 201, 206, 211, 220, 229, 237, 245, 253, 262, 270, 278, 285, 287] 5 rfl
set_option maxRecDepth 100000 in
theorem eq_Ref_init_187 (cl : Nat → List Value → ej_Mem → Option ej_R) (a0 : Nat) (o1 : Option Value) (M : ej_Mem) : rn jm_Ref_init cl 187 [some (.ref a0), o1] [] M =
    ckk (¬ (500 : Int32) < 0 ∧ Int32.toNatClampNeg (500 : Int32) ≤ 67108864) (ckk (mC (newM M 100 (Int32.toNatClampNeg (500 : Int32)) (Int32.toNatClampNeg (500 : Int32))) a0 = 9) (rn jm_Ref_init cl 196 [some (.ref a0), o1] [] (setR (newM M 100 (Int32.toNatClampNeg (500 : Int32)) (Int32.toNatClampNeg (500 : Int32))) a0 39 (some (mZ M))))) :=
  tr_eb [13, 20, 29, 38, 46, 55, 64, 73, 82, 91, 99, 107, 115, 124, 133, 142, 151, 160, 169, 178, 187, 196, 201, 206, 211, 220, 229, 237, 245, 253, 262, 270, 278, 285, 287] 5 rfl
set_option maxRecDepth 100000 in
theorem eq_Ref_init_196 (cl : Nat → List Value → ej_Mem → Option ej_R) (a0 : Nat) (o1 : Option Value) (M : ej_Mem) : rn jm_Ref_init cl 196 [some (.ref a0), o1] [] M =
    ckk (mC M a0 = 9) (rn jm_Ref_init cl 201 [some (.ref a0), o1] [] (setI M a0 40 (-1 : Int32))) :=
  tr_eb [13, 20, 29, 38, 46, 55, 64, 73, 82, 91, 99, 107, 115, 124, 133, 142, 151, 160, 169, 178, 187, 196, 201, 206, 211, 220, 229, 237, 245, 253, 262, 270, 278, 285, 287] 4 rfl
set_option maxRecDepth 100000 in
theorem eq_Ref_init_201 (cl : Nat → List Value → ej_Mem → Option ej_R) (a0 : Nat) (o1 : Option Value) (M : ej_Mem) : rn jm_Ref_init cl 201 [some (.ref a0), o1] [] M =
    ckk (mC M a0 = 9) (rn jm_Ref_init cl 206 [some (.ref a0), o1] [] (setI M a0 41 (-1 : Int32))) :=
  tr_eb [13, 20, 29, 38, 46, 55, 64, 73, 82, 91, 99, 107, 115, 124, 133, 142, 151, 160, 169, 178, 187, 196, 201, 206, 211, 220, 229, 237, 245, 253, 262, 270, 278, 285, 287] 4 rfl
set_option maxRecDepth 100000 in
theorem eq_Ref_init_206 (cl : Nat → List Value → ej_Mem → Option ej_R) (a0 : Nat) (o1 : Option Value) (M : ej_Mem) : rn jm_Ref_init cl 206 [some (.ref a0), o1] [] M =
    ckk (mC M a0 = 9) (rn jm_Ref_init cl 211 [some (.ref a0), o1] [] (setI M a0 42 (-1 : Int32))) :=
  tr_eb [13, 20, 29, 38, 46, 55, 64, 73, 82, 91, 99, 107, 115, 124, 133, 142, 151, 160, 169, 178, 187, 196, 201, 206, 211, 220, 229, 237, 245, 253, 262, 270, 278, 285, 287] 4 rfl
set_option maxRecDepth 100000 in
theorem eq_Ref_init_211 (cl : Nat → List Value → ej_Mem → Option ej_R) (a0 : Nat) (o1 : Option Value) (M : ej_Mem) : rn jm_Ref_init cl 211 [some (.ref a0), o1] [] M =
    ckk (¬ (500 : Int32) < 0 ∧ Int32.toNatClampNeg (500 : Int32) ≤ 67108864) (ckk (mC (newM M 100 (Int32.toNatClampNeg (500 : Int32)) (Int32.toNatClampNeg (500 : Int32))) a0 = 9) (rn jm_Ref_init cl 220 [some (.ref a0), o1] [] (setR (newM M 100 (Int32.toNatClampNeg (500 : Int32)) (Int32.toNatClampNeg (500 : Int32))) a0 45 (some (mZ M))))) :=
  tr_eb [13, 20, 29, 38, 46, 55, 64, 73, 82, 91, 99, 107, 115, 124, 133, 142, 151, 160, 169, 178, 187, 196, 201, 206, 211, 220, 229, 237, 245, 253, 262, 270, 278, 285, 287] 5 rfl
set_option maxRecDepth 100000 in
theorem eq_Ref_init_220 (cl : Nat → List Value → ej_Mem → Option ej_R) (a0 : Nat) (o1 : Option Value) (M : ej_Mem) : rn jm_Ref_init cl 220 [some (.ref a0), o1] [] M =
    ckk (¬ (500 : Int32) < 0 ∧ Int32.toNatClampNeg (500 : Int32) ≤ 67108864) (ckk (mC (newM M 102 (Int32.toNatClampNeg (500 : Int32)) (Int32.toNatClampNeg (500 : Int32))) a0 = 9) (rn jm_Ref_init cl 229 [some (.ref a0), o1] [] (setR (newM M 102 (Int32.toNatClampNeg (500 : Int32)) (Int32.toNatClampNeg (500 : Int32))) a0 46 (some (mZ M))))) :=
  tr_eb [13, 20, 29, 38, 46, 55, 64, 73, 82, 91, 99, 107, 115, 124, 133, 142, 151, 160, 169, 178, 187, 196, 201, 206, 211, 220, 229, 237, 245, 253, 262, 270, 278, 285, 287] 5 rfl
set_option maxRecDepth 100000 in
theorem eq_Ref_init_229 (cl : Nat → List Value → ej_Mem → Option ej_R) (a0 : Nat) (o1 : Option Value) (M : ej_Mem) : rn jm_Ref_init cl 229 [some (.ref a0), o1] [] M =
    ckk (¬ (30 : Int32) < 0 ∧ Int32.toNatClampNeg (30 : Int32) ≤ 67108864) (ckk (mC (newM M 100 (Int32.toNatClampNeg (30 : Int32)) (Int32.toNatClampNeg (30 : Int32))) a0 = 9) (rn jm_Ref_init cl 237 [some (.ref a0), o1] [] (setR (newM M 100 (Int32.toNatClampNeg (30 : Int32)) (Int32.toNatClampNeg (30 : Int32))) a0 48 (some (mZ M))))) :=
  tr_eb [13, 20, 29, 38, 46, 55, 64, 73, 82, 91, 99, 107, 115, 124, 133, 142, 151, 160, 169, 178, 187, 196, 201, 206, 211, 220, 229, 237, 245, 253, 262, 270, 278, 285, 287] 5 rfl
set_option maxRecDepth 100000 in
theorem eq_Ref_init_237 (cl : Nat → List Value → ej_Mem → Option ej_R) (a0 : Nat) (o1 : Option Value) (M : ej_Mem) : rn jm_Ref_init cl 237 [some (.ref a0), o1] [] M =
    ckk (¬ (30 : Int32) < 0 ∧ Int32.toNatClampNeg (30 : Int32) ≤ 67108864) (ckk (mC (newM M 100 (Int32.toNatClampNeg (30 : Int32)) (Int32.toNatClampNeg (30 : Int32))) a0 = 9) (rn jm_Ref_init cl 245 [some (.ref a0), o1] [] (setR (newM M 100 (Int32.toNatClampNeg (30 : Int32)) (Int32.toNatClampNeg (30 : Int32))) a0 49 (some (mZ M))))) :=
  tr_eb [13, 20, 29, 38, 46, 55, 64, 73, 82, 91, 99, 107, 115, 124, 133, 142, 151, 160, 169, 178, 187, 196, 201, 206, 211, 220, 229, 237, 245, 253, 262, 270, 278, 285, 287] 5 rfl
set_option maxRecDepth 100000 in
theorem eq_Ref_init_245 (cl : Nat → List Value → ej_Mem → Option ej_R) (a0 : Nat) (o1 : Option Value) (M : ej_Mem) : rn jm_Ref_init cl 245 [some (.ref a0), o1] [] M =
    ckk (¬ (30 : Int32) < 0 ∧ Int32.toNatClampNeg (30 : Int32) ≤ 67108864) (ckk (mC (newM M 100 (Int32.toNatClampNeg (30 : Int32)) (Int32.toNatClampNeg (30 : Int32))) a0 = 9) (rn jm_Ref_init cl 253 [some (.ref a0), o1] [] (setR (newM M 100 (Int32.toNatClampNeg (30 : Int32)) (Int32.toNatClampNeg (30 : Int32))) a0 50 (some (mZ M))))) :=
  tr_eb [13, 20, 29, 38, 46, 55, 64, 73, 82, 91, 99, 107, 115, 124, 133, 142, 151, 160, 169, 178, 187, 196, 201, 206, 211, 220, 229, 237, 245, 253, 262, 270, 278, 285, 287] 5 rfl
set_option maxRecDepth 100000 in
theorem eq_Ref_init_253 (cl : Nat → List Value → ej_Mem → Option ej_R) (a0 : Nat) (o1 : Option Value) (M : ej_Mem) : rn jm_Ref_init cl 253 [some (.ref a0), o1] [] M =
    ckk (¬ (720 : Int32) < 0 ∧ Int32.toNatClampNeg (720 : Int32) ≤ 67108864) (ckk (mC (newM M 100 (Int32.toNatClampNeg (720 : Int32)) (Int32.toNatClampNeg (720 : Int32))) a0 = 9) (rn jm_Ref_init cl 262 [some (.ref a0), o1] [] (setR (newM M 100 (Int32.toNatClampNeg (720 : Int32)) (Int32.toNatClampNeg (720 : Int32))) a0 51 (some (mZ M))))) :=
  tr_eb [13, 20, 29, 38, 46, 55, 64, 73, 82, 91, 99, 107, 115, 124, 133, 142, 151, 160, 169, 178, 187, 196, 201, 206, 211, 220, 229, 237, 245, 253, 262, 270, 278, 285, 287] 5 rfl
set_option maxRecDepth 100000 in
theorem eq_Ref_init_262 (cl : Nat → List Value → ej_Mem → Option ej_R) (a0 : Nat) (o1 : Option Value) (M : ej_Mem) : rn jm_Ref_init cl 262 [some (.ref a0), o1] [] M =
    ckk (¬ (184000 : Int32) < 0 ∧ Int32.toNatClampNeg (184000 : Int32) ≤ 67108864) (ckk (mC (newM M 100 (Int32.toNatClampNeg (184000 : Int32)) (Int32.toNatClampNeg (184000 : Int32))) a0 = 9) (rn jm_Ref_init cl 270 [some (.ref a0), o1] [] (setR (newM M 100 (Int32.toNatClampNeg (184000 : Int32)) (Int32.toNatClampNeg (184000 : Int32))) a0 54 (some (mZ M))))) :=
  tr_eb [13, 20, 29, 38, 46, 55, 64, 73, 82, 91, 99, 107, 115, 124, 133, 142, 151, 160, 169, 178, 187, 196, 201, 206, 211, 220, 229, 237, 245, 253, 262, 270, 278, 285, 287] 5 rfl
set_option maxRecDepth 100000 in
theorem eq_Ref_init_270 (cl : Nat → List Value → ej_Mem → Option ej_R) (a0 : Nat) (o1 : Option Value) (M : ej_Mem) : rn jm_Ref_init cl 270 [some (.ref a0), o1] [] M =
    ckk (¬ (10 : Int32) < 0 ∧ Int32.toNatClampNeg (10 : Int32) ≤ 67108864) (ckk (mC (newM M 100 (Int32.toNatClampNeg (10 : Int32)) (Int32.toNatClampNeg (10 : Int32))) a0 = 9) (rn jm_Ref_init cl 278 [some (.ref a0), o1] [] (setR (newM M 100 (Int32.toNatClampNeg (10 : Int32)) (Int32.toNatClampNeg (10 : Int32))) a0 55 (some (mZ M))))) :=
  tr_eb [13, 20, 29, 38, 46, 55, 64, 73, 82, 91, 99, 107, 115, 124, 133, 142, 151, 160, 169, 178, 187, 196, 201, 206, 211, 220, 229, 237, 245, 253, 262, 270, 278, 285, 287] 5 rfl
set_option maxRecDepth 100000 in
theorem eq_Ref_init_278 (cl : Nat → List Value → ej_Mem → Option ej_R) (a0 : Nat) (o1 : Option Value) (M : ej_Mem) : rn jm_Ref_init cl 278 [some (.ref a0), o1] [] M =
    ckk (¬ (4 : Int32) < 0 ∧ Int32.toNatClampNeg (4 : Int32) ≤ 67108864) (ckk (mC (newM M 102 (Int32.toNatClampNeg (4 : Int32)) (Int32.toNatClampNeg (4 : Int32))) a0 = 9) (rn jm_Ref_init cl 285 [some (.ref a0), o1] [] (setR (newM M 102 (Int32.toNatClampNeg (4 : Int32)) (Int32.toNatClampNeg (4 : Int32))) a0 56 (some (mZ M))))) :=
  tr_eb [13, 20, 29, 38, 46, 55, 64, 73, 82, 91, 99, 107, 115, 124, 133, 142, 151, 160, 169, 178, 187, 196, 201, 206, 211, 220, 229, 237, 245, 253, 262, 270, 278, 285, 287] 5 rfl
set_option maxRecDepth 100000 in
theorem eq_Ref_init_285 (cl : Nat → List Value → ej_Mem → Option ej_R) (a0 : Nat) (o1 : Option Value) (M : ej_Mem) : rn jm_Ref_init cl 285 [some (.ref a0), o1] [] M =
    rn jm_Ref_init cl 287 [some (.ref a0), some (.int (0 : Int32))] [] M :=
  tr_eb [13, 20, 29, 38, 46, 55, 64, 73, 82, 91, 99, 107, 115, 124, 133, 142, 151, 160, 169, 178, 187, 196, 201, 206, 211, 220, 229, 237, 245, 253, 262, 270, 278, 285, 287] 3 rfl
set_option maxRecDepth 100000 in
theorem eq_Ref_init_287 (cl : Nat → List Value → ej_Mem → Option ej_R) (a0 : Nat) (l1 : Int32) (M : ej_Mem) : rn jm_Ref_init cl 287 [some (.ref a0), some (.int l1)] [] M =
    (if (24 : Int32) ≤ l1 then
      (some (none, M)) else
      (ckk (mC M a0 = 9) (deR (mR M a0 22) fun q1 => ckk (mC M q1 = 100) (ckb l1 (mN M q1) (rn jm_Ref_init cl 287 [some (.ref a0), some (.int (l1 + (1 : Int32)))] [] (setA M q1 (Int32.toNatClampNeg l1) (-1 : Int32))))))) :=
  tr_eb [13, 20, 29, 38, 46, 55, 64, 73, 82, 91, 99, 107, 115, 124, 133, 142, 151, 160, 169, 178, 187, 196, 201, 206, 211, 220, 229, 237, 245, 253, 262, 270, 278, 285, 287] 11 rfl
theorem ca_Ref_init (d : Nat) (a0 : Nat) (M : ej_Mem) : cal (d + 1) jm_Ref_init [.ref a0] M = rn jm_Ref_init (cal d) 0 [some (.ref a0), none] [] M := call_eq (show 1 ≤ 2 by decide)
set_option maxRecDepth 100000 in
theorem eq_Ref_in_0 (cl : Nat → List Value → ej_Mem → Option ej_R) (l0 : Int64) (l2 : Int64) (l4 : Int64) (M : ej_Mem) : rn jm_Ref_in cl 0 [some (.long l0), none, some (.long l2), none, some (.long l4), none] [] M =
    (if (lg_cmp l0 l2) < (0 : Int32) then
      (ckk ((0 : Int32) = 0 ∨ (0 : Int32) = 1) (some (some (.int (0 : Int32)), M))) else
      ((if (0 : Int32) < (lg_cmp l0 l4) then
        (ckk ((0 : Int32) = 0 ∨ (0 : Int32) = 1) (some (some (.int (0 : Int32)), M))) else
        (ckk ((1 : Int32) = 0 ∨ (1 : Int32) = 1) (some (some (.int (1 : Int32)), M)))))) :=
  tr_eb [] 11 rfl
theorem ca_Ref_in (d : Nat) (l0 : Int64) (l2 : Int64) (l4 : Int64) (M : ej_Mem) : cal (d + 1) jm_Ref_in [.long l0, .long l2, .long l4] M = rn jm_Ref_in (cal d) 0 [some (.long l0), none, some (.long l2), none, some (.long l4), none] [] M := call_eq (show 6 ≤ 6 by decide)
set_option maxRecDepth 100000 in
theorem eq_Ref_isYear_0 (cl : Nat → List Value → ej_Mem → Option ej_R) (l0 : Int32) (M : ej_Mem) : rn jm_Ref_isYear cl 0 [some (.int l0)] [] M =
    bkI (cl jm_Ref_in [.long (Int32.toInt64 l0), .long (0 : Int64), .long (2999 : Int64)] M) fun x2 M1 =>
    ckk (x2 = 0 ∨ x2 = 1) (some (some (.int x2), M1)) :=
  tr_eb [] 6 rfl
theorem ca_Ref_isYear (d : Nat) (l0 : Int32) (M : ej_Mem) : cal (d + 1) jm_Ref_isYear [.int l0] M = rn jm_Ref_isYear (cal d) 0 [some (.int l0)] [] M := call_eq (show 1 ≤ 1 by decide)
set_option maxRecDepth 100000 in
theorem eq_Ref_isState_0 (cl : Nat → List Value → ej_Mem → Option ej_R) (l0 : Int32) (M : ej_Mem) : rn jm_Ref_isState cl 0 [some (.int l0)] [] M =
    bkI (cl jm_Ref_in [.long (Int32.toInt64 l0), .long (0 : Int64), .long (16777215 : Int64)] M) fun x2 M1 =>
    ckk (x2 = 0 ∨ x2 = 1) (some (some (.int x2), M1)) :=
  tr_eb [] 6 rfl
theorem ca_Ref_isState (d : Nat) (l0 : Int32) (M : ej_Mem) : cal (d + 1) jm_Ref_isState [.int l0] M = rn jm_Ref_isState (cal d) 0 [some (.int l0)] [] M := call_eq (show 1 ≤ 1 by decide)
set_option maxRecDepth 100000 in
theorem eq_Ref_bits_0 (cl : Nat → List Value → ej_Mem → Option ej_R) (l0 : Int32) (M : ej_Mem) : rn jm_Ref_bits cl 0 [some (.int l0), none, none] [] M =
    rn jm_Ref_bits cl 4 [some (.int l0), some (.int (0 : Int32)), some (.int l0)] [] M :=
  tr_eb [4] 5 rfl
set_option maxRecDepth 100000 in
theorem eq_Ref_bits_4 (cl : Nat → List Value → ej_Mem → Option ej_R) (l0 : Int32) (l1 : Int32) (l2 : Int32) (M : ej_Mem) : rn jm_Ref_bits cl 4 [some (.int l0), some (.int l1), some (.int l2)] [] M =
    (if l2 = (0 : Int32) then
      (some (some (.int l1), M)) else
      (rn jm_Ref_bits cl 4 [some (.int l0), some (.int (l1 + (1 : Int32))), some (.int (l2 &&& (l2 - (1 : Int32))))] [] M)) :=
  tr_eb [4] 11 rfl
theorem ca_Ref_bits (d : Nat) (l0 : Int32) (M : ej_Mem) : cal (d + 1) jm_Ref_bits [.int l0] M = rn jm_Ref_bits (cal d) 0 [some (.int l0), none, none] [] M := call_eq (show 1 ≤ 3 by decide)
set_option maxRecDepth 100000 in
theorem eq_Ref_feed_0 (cl : Nat → List Value → ej_Mem → Option ej_R) (a0 : Nat) (l1 : Int32) (l2 : Int32) (l3 : Int32) (l4 : Int32) (l5 : Int32) (M : ej_Mem) : rn jm_Ref_feed cl 0 [some (.ref a0), some (.int l1), some (.int l2), some (.int l3), some (.int l4), some (.int l5)] [] M =
    ckk (mC M a0 = 9) ((if ((mI M a0 1) + (20 : Int32)) ≤ (400 : Int32) then
      (ckk (mC M a0 = 9) (bkV (cl jm_Ref_put [.ref a0, .int l1] M) fun M1 =>
      ckk (mC M1 a0 = 9) (bkV (cl jm_Ref_put [.ref a0, .int l2] M1) fun M2 =>
      ckk (mC M2 a0 = 9) (bkV (cl jm_Ref_put [.ref a0, .int l3] M2) fun M3 =>
      ckk (mC M3 a0 = 9) (bkV (cl jm_Ref_put [.ref a0, .int l4] M3) fun M4 =>
      ckk (mC M4 a0 = 9) (bkV (cl jm_Ref_put [.ref a0, .int l5] M4) fun M5 =>
      ckk (mC M5 a0 = 9) (some (some (.int (mI M5 a0 1)), M5)))))))) else
      (some (some (.int (-1 : Int32)), M)))) :=
  tr_eb [] 24 rfl
theorem ca_Ref_feed (d : Nat) (a0 : Nat) (l1 : Int32) (l2 : Int32) (l3 : Int32) (l4 : Int32) (l5 : Int32) (M : ej_Mem) : cal (d + 1) jm_Ref_feed [.ref a0, .int l1, .int l2, .int l3, .int l4, .int l5] M = rn jm_Ref_feed (cal d) 0 [some (.ref a0), some (.int l1), some (.int l2), some (.int l3), some (.int l4), some (.int l5)] [] M := call_eq (show 6 ≤ 6 by decide)
set_option maxRecDepth 100000 in
theorem eq_Ref_put_0 (cl : Nat → List Value → ej_Mem → Option ej_R) (a0 : Nat) (l1 : Int32) (M : ej_Mem) : rn jm_Ref_put cl 0 [some (.ref a0), some (.int l1), none] [] M =
    rn jm_Ref_put cl 3 [some (.ref a0), some (.int l1), some (.int (24 : Int32))] [] M :=
  tr_eb [3] 3 rfl
set_option maxRecDepth 100000 in
theorem eq_Ref_put_3 (cl : Nat → List Value → ej_Mem → Option ej_R) (a0 : Nat) (l1 : Int32) (l2 : Int32) (M : ej_Mem) : rn jm_Ref_put cl 3 [some (.ref a0), some (.int l1), some (.int l2)] [] M =
    (if l2 < (0 : Int32) then
      (some (none, M)) else
      (ckk (mC M a0 = 9) (deR (mR M a0 10) fun q1 => ckk (mC M a0 = 9) (ckk (mC M q1 = 101) (ckb (mI M a0 1) (mN M q1) (ckk (mC (setA M q1 (Int32.toNatClampNeg (mI M a0 1)) (vp_nar .byte ((Int32.toInt8 (l1 >>> (l2 &&& 31))).toInt32))) a0 = 9) (ckk (mC (setA M q1 (Int32.toNatClampNeg (mI M a0 1)) (vp_nar .byte ((Int32.toInt8 (l1 >>> (l2 &&& 31))).toInt32))) a0 = 9) (rn jm_Ref_put cl 3 [some (.ref a0), some (.int l1), some (.int (l2 + (-8 : Int32)))] [] (setI (setA M q1 (Int32.toNatClampNeg (mI M a0 1)) (vp_nar .byte ((Int32.toInt8 (l1 >>> (l2 &&& 31))).toInt32))) a0 1 ((mI (setA M q1 (Int32.toNatClampNeg (mI M a0 1)) (vp_nar .byte ((Int32.toInt8 (l1 >>> (l2 &&& 31))).toInt32))) a0 1) + (1 : Int32))))))))))) :=
  tr_eb [3] 20 rfl
theorem ca_Ref_put (d : Nat) (a0 : Nat) (l1 : Int32) (M : ej_Mem) : cal (d + 1) jm_Ref_put [.ref a0, .int l1] M = rn jm_Ref_put (cal d) 0 [some (.ref a0), some (.int l1), none] [] M := call_eq (show 2 ≤ 3 by decide)
set_option maxRecDepth 100000 in
theorem eq_Ref_end_0 (cl : Nat → List Value → ej_Mem → Option ej_R) (a0 : Nat) (l1 : Int32) (M : ej_Mem) : rn jm_Ref_end cl 0 [some (.ref a0), some (.int l1)] [] M =
    (if l1 < (0 : Int32) then
      (some (some (.int (-1 : Int32)), M)) else
      (ckk (mC M a0 = 9) ((if l1 ≤ (mI M a0 1) then
        (ckk (mC M a0 = 9) (some (some (.int l1), (setI M a0 1 l1)))) else
        (some (some (.int (-1 : Int32)), M)))))) :=
  tr_eb [] 11 rfl
theorem ca_Ref_end (d : Nat) (a0 : Nat) (l1 : Int32) (M : ej_Mem) : cal (d + 1) jm_Ref_end [.ref a0, .int l1] M = rn jm_Ref_end (cal d) 0 [some (.ref a0), some (.int l1)] [] M := call_eq (show 2 ≤ 2 by decide)
set_option maxRecDepth 100000 in
theorem eq_Ref_mostOf_0 (cl : Nat → List Value → ej_Mem → Option ej_R) (l0 : Int32) (M : ej_Mem) : rn jm_Ref_mostOf cl 0 [some (.int l0)] [] M =
    (if l0 = (0 : Int32) then
      (some (some (.int (40 : Int32)), M)) else
      ((if l0 = (1 : Int32) then
        (some (some (.int (8 : Int32)), M)) else
        ((if l0 = (2 : Int32) then
          (some (some (.int (16 : Int32)), M)) else
          (some (some (.int (8 : Int32)), M))))))) :=
  tr_eb [] 11 rfl
theorem ca_Ref_mostOf (d : Nat) (l0 : Int32) (M : ej_Mem) : cal (d + 1) jm_Ref_mostOf [.int l0] M = rn jm_Ref_mostOf (cal d) 0 [some (.int l0)] [] M := call_eq (show 1 ≤ 1 by decide)
set_option maxRecDepth 100000 in
theorem eq_Ref_slotOf_0 (cl : Nat → List Value → ej_Mem → Option ej_R) (l0 : Int32) (l1 : Int32) (M : ej_Mem) : rn jm_Ref_slotOf cl 0 [some (.int l0), some (.int l1)] [] M =
    (if l0 = (0 : Int32) then
      (some (some (.int (l1 + (0 : Int32))), M)) else
      ((if l0 = (1 : Int32) then
        (some (some (.int (l1 + (40 : Int32))), M)) else
        ((if l0 = (2 : Int32) then
          (some (some (.int (l1 + (48 : Int32))), M)) else
          (some (some (.int (l1 + (64 : Int32))), M))))))) :=
  tr_eb [] 13 rfl
theorem ca_Ref_slotOf (d : Nat) (l0 : Int32) (l1 : Int32) (M : ej_Mem) : cal (d + 1) jm_Ref_slotOf [.int l0, .int l1] M = rn jm_Ref_slotOf (cal d) 0 [some (.int l0), some (.int l1)] [] M := call_eq (show 2 ≤ 2 by decide)
set_option maxRecDepth 100000 in
theorem eq_Ref_clauseOf_0 (cl : Nat → List Value → ej_Mem → Option ej_R) (l0 : Int32) (l1 : Int32) (M : ej_Mem) : rn jm_Ref_clauseOf cl 0 [some (.int l0), some (.int l1)] [] M =
    (if l0 = (1 : Int32) then
      ((if l1 = (0 : Int32) then
        (some (some (.ref 17), M)) else
        (some (some (.ref 18), M)))) else
      ((if l1 = (0 : Int32) then
        (some (some (.ref 19), M)) else if l1 = (1 : Int32) then
        (some (some (.ref 20), M)) else if l1 = (2 : Int32) then
        (some (some (.ref 21), M)) else if l1 = (3 : Int32) then
        (some (some (.ref 22), M)) else if l1 = (4 : Int32) then
        (some (some (.ref 23), M)) else if l1 = (5 : Int32) then
        (some (some (.ref 24), M)) else (some (some (.ref 25), M))))) :=
  tr_eb [] 8 rfl
theorem ca_Ref_clauseOf (d : Nat) (l0 : Int32) (l1 : Int32) (M : ej_Mem) : cal (d + 1) jm_Ref_clauseOf [.int l0, .int l1] M = rn jm_Ref_clauseOf (cal d) 0 [some (.int l0), some (.int l1)] [] M := call_eq (show 2 ≤ 2 by decide)
set_option maxRecDepth 100000 in
theorem eq_Ref_fails_0 (cl : Nat → List Value → ej_Mem → Option ej_R) (a0 : Nat) (l1 : Int32) (l2 : Int32) (M : ej_Mem) : rn jm_Ref_fails cl 0 [some (.ref a0), some (.int l1), some (.int l2)] [] M =
    ckk (mC M a0 = 9) ((if (mI M a0 3) = (0 : Int32) then
      (ckk (mC M a0 = 9) (some (none, (setI M a0 3 (((1 : Int32) + ((8 : Int32) * l2)) + l1))))) else
      (ckk (mC M a0 = 9) (ckk (mC M a0 = 9) (some (none, (setI M a0 3 (mI M a0 3)))))))) :=
  tr_eb [] 14 rfl
theorem ca_Ref_fails (d : Nat) (a0 : Nat) (l1 : Int32) (l2 : Int32) (M : ej_Mem) : cal (d + 1) jm_Ref_fails [.ref a0, .int l1, .int l2] M = rn jm_Ref_fails (cal d) 0 [some (.ref a0), some (.int l1), some (.int l2)] [] M := call_eq (show 3 ≤ 3 by decide)
set_option maxRecDepth 100000 in
theorem eq_Ref_sign_0 (cl : Nat → List Value → ej_Mem → Option ej_R) (a0 : Nat) (M : ej_Mem) : rn jm_Ref_sign cl 0 [some (.ref a0)] [] M =
    ckk (mC M a0 = 9) (ckk (mC M a0 = 9) ((if (mI M a0 1) ≤ (mI M a0 2) then
      (some (some (.int (-1 : Int32)), M)) else
      (ckk (mC M a0 = 9) (deR (mR M a0 10) fun q1 => ckk (mC M a0 = 9) (ckk (mC M q1 = 101) (ckb (mI M a0 2) (mN M q1) (some (some (.int ((aI M q1 (Int32.toNatClampNeg (mI M a0 2))) &&& (255 : Int32))), M))))))))) :=
  tr_eb [] 14 rfl
theorem ca_Ref_sign (d : Nat) (a0 : Nat) (M : ej_Mem) : cal (d + 1) jm_Ref_sign [.ref a0] M = rn jm_Ref_sign (cal d) 0 [some (.ref a0)] [] M := call_eq (show 1 ≤ 1 by decide)
set_option maxRecDepth 100000 in
theorem eq_Ref_blanks_0 (cl : Nat → List Value → ej_Mem → Option ej_R) (a0 : Nat) (M : ej_Mem) : rn jm_Ref_blanks cl 0 [some (.ref a0)] [] M =
    ckk (mC M a0 = 9) (bkI (cl jm_Ref_sign [.ref a0] M) fun x2 M1 =>
    (if x2 = (32 : Int32) then
      (ckk (mC M1 a0 = 9) (ckk (mC M1 a0 = 9) (rn jm_Ref_blanks cl 0 [some (.ref a0)] [] (setI M1 a0 2 ((mI M1 a0 2) + (1 : Int32)))))) else
      (some (none, M1)))) :=
  tr_eb [0] 12 rfl
theorem ca_Ref_blanks (d : Nat) (a0 : Nat) (M : ej_Mem) : cal (d + 1) jm_Ref_blanks [.ref a0] M = rn jm_Ref_blanks (cal d) 0 [some (.ref a0)] [] M := call_eq (show 1 ≤ 1 by decide)
set_option maxRecDepth 100000 in
theorem eq_Ref_isDigit_0 (cl : Nat → List Value → ej_Mem → Option ej_R) (a0 : Nat) (M : ej_Mem) : rn jm_Ref_isDigit cl 0 [some (.ref a0)] [] M =
    ckk (mC M a0 = 9) (bkI (cl jm_Ref_sign [.ref a0] M) fun x2 M1 =>
    bkI (cl jm_Ref_in [.long (Int32.toInt64 x2), .long (48 : Int64), .long (57 : Int64)] M1) fun x4 M3 =>
    ckk (x4 = 0 ∨ x4 = 1) (some (some (.int x4), M3))) :=
  tr_eb [] 7 rfl
theorem ca_Ref_isDigit (d : Nat) (a0 : Nat) (M : ej_Mem) : cal (d + 1) jm_Ref_isDigit [.ref a0] M = rn jm_Ref_isDigit (cal d) 0 [some (.ref a0)] [] M := call_eq (show 1 ≤ 1 by decide)
set_option maxRecDepth 100000 in
theorem eq_Ref_stands_0 (cl : Nat → List Value → ej_Mem → Option ej_R) (a0 : Nat) (a1 : Nat) (M : ej_Mem) : rn jm_Ref_stands cl 0 [some (.ref a0), some (.ref a1), none, none, none] [] M =
    ckk (mC M a0 = 9) (rn jm_Ref_stands cl 5 [some (.ref a0), some (.ref a1), some (.int (mI M a0 2)), none, none] [] M) :=
  tr_eb [5, 63] 4 rfl
set_option maxRecDepth 100000 in
theorem eq_Ref_stands_5 (cl : Nat → List Value → ej_Mem → Option ej_R) (a0 : Nat) (a1 : Nat) (l2 : Int32) (o3 : Option Value) (o4 : Option Value) (M : ej_Mem) : rn jm_Ref_stands cl 5 [some (.ref a0), some (.ref a1), some (.int l2), o3, o4] [] M =
    ckk (mC M a0 = 9) ((if (mI M a0 1) ≤ l2 then
      (ckk (mC M a0 = 9) (ckk (mC M a1 = 10) (bkI (cl jm_Str_length_8abf5 [.ref a1] M) fun x2 M1 =>
      (if (l2 - (mI M a0 2)) = x2 then
        (rn jm_Ref_stands cl 63 [some (.ref a0), some (.ref a1), some (.int l2), some (.int (1 : Int32)), some (.int (0 : Int32))] [] M1) else
        (rn jm_Ref_stands cl 63 [some (.ref a0), some (.ref a1), some (.int l2), some (.int (0 : Int32)), some (.int (0 : Int32))] [] M1))))) else
      (ckk (mC M a0 = 9) (deR (mR M a0 10) fun q3 => ckk (mC M q3 = 101) (ckb l2 (mN M q3) ((if (aI M q3 (Int32.toNatClampNeg l2)) < (97 : Int32) then
        (ckk (mC M a0 = 9) (ckk (mC M a1 = 10) (bkI (cl jm_Str_length_8abf5 [.ref a1] M) fun x5 M4 =>
        (if (l2 - (mI M a0 2)) = x5 then
          (rn jm_Ref_stands cl 63 [some (.ref a0), some (.ref a1), some (.int l2), some (.int (1 : Int32)), some (.int (0 : Int32))] [] M4) else
          (rn jm_Ref_stands cl 63 [some (.ref a0), some (.ref a1), some (.int l2), some (.int (0 : Int32)), some (.int (0 : Int32))] [] M4))))) else
        (ckk (mC M a0 = 9) (deR (mR M a0 10) fun q6 => ckk (mC M q6 = 101) (ckb l2 (mN M q6) ((if (122 : Int32) < (aI M q6 (Int32.toNatClampNeg l2)) then
          (ckk (mC M a0 = 9) (ckk (mC M a1 = 10) (bkI (cl jm_Str_length_8abf5 [.ref a1] M) fun x8 M7 =>
          (if (l2 - (mI M a0 2)) = x8 then
            (rn jm_Ref_stands cl 63 [some (.ref a0), some (.ref a1), some (.int l2), some (.int (1 : Int32)), some (.int (0 : Int32))] [] M7) else
            (rn jm_Ref_stands cl 63 [some (.ref a0), some (.ref a1), some (.int l2), some (.int (0 : Int32)), some (.int (0 : Int32))] [] M7))))) else
          (rn jm_Ref_stands cl 5 [some (.ref a0), some (.ref a1), some (.int (l2 + (1 : Int32))), o3, o4] [] M))))))))))))) :=
  tr_eb [5, 63] 29 rfl
set_option maxRecDepth 100000 in
theorem eq_Ref_stands_63 (cl : Nat → List Value → ej_Mem → Option ej_R) (a0 : Nat) (a1 : Nat) (l2 : Int32) (l3 : Int32) (l4 : Int32) (M : ej_Mem) : rn jm_Ref_stands cl 63 [some (.ref a0), some (.ref a1), some (.int l2), some (.int l3), some (.int l4)] [] M =
    ckk (mC M a1 = 10) (bkI (cl jm_Str_length_8abf5 [.ref a1] M) fun x2 M1 =>
    (if x2 ≤ l4 then
      (ckk (l3 = 0 ∨ l3 = 1) (some (some (.int l3), M1))) else
      ((if l3 = (0 : Int32) then
        (ckk (l3 = 0 ∨ l3 = 1) (some (some (.int l3), M1))) else
        (ckk (mC M1 a0 = 9) (deR (mR M1 a0 10) fun q3 => ckk (mC M1 a0 = 9) (ckk (mC M1 q3 = 101) (ckb ((mI M1 a0 2) + l4) (mN M1 q3) (ckk (mC M1 a1 = 10) (bkI (cl jm_Str_charAt_5068e [.ref a1, .int l4] M1) fun x5 M4 =>
        (if (aI M1 q3 (Int32.toNatClampNeg ((mI M1 a0 2) + l4))) = x5 then
          (rn jm_Ref_stands cl 63 [some (.ref a0), some (.ref a1), some (.int l2), some (.int (1 : Int32)), some (.int (l4 + (1 : Int32)))] [] M4) else
          (rn jm_Ref_stands cl 63 [some (.ref a0), some (.ref a1), some (.int l2), some (.int (0 : Int32)), some (.int (l4 + (1 : Int32)))] [] M4)))))))))))) :=
  tr_eb [5, 63] 23 rfl
theorem ca_Ref_stands (d : Nat) (a0 : Nat) (a1 : Nat) (M : ej_Mem) : cal (d + 1) jm_Ref_stands [.ref a0, .ref a1] M = rn jm_Ref_stands (cal d) 0 [some (.ref a0), some (.ref a1), none, none, none] [] M := call_eq (show 2 ≤ 5 by decide)
set_option maxRecDepth 100000 in
theorem eq_Ref_takes_0 (cl : Nat → List Value → ej_Mem → Option ej_R) (a0 : Nat) (a1 : Nat) (M : ej_Mem) : rn jm_Ref_takes cl 0 [some (.ref a0), some (.ref a1), none] [] M =
    ckk (mC M a0 = 9) (bkV (cl jm_Ref_blanks [.ref a0] M) fun M1 =>
    ckk (mC M1 a0 = 9) (bkI (cl jm_Ref_stands [.ref a0, .ref a1] M1) fun x3 M2 =>
    ckk (mC M2 a0 = 9) ((if x3 = (0 : Int32) then
      (ckk (mC M2 a0 = 9) (ckk (x3 = 0 ∨ x3 = 1) (some (some (.int x3), (setI M2 a0 2 ((mI M2 a0 2) + (0 : Int32))))))) else
      (ckk (mC M2 a1 = 10) (bkI (cl jm_Str_length_8abf5 [.ref a1] M2) fun x5 M4 =>
      ckk (mC M4 a0 = 9) (ckk (x3 = 0 ∨ x3 = 1) (some (some (.int x3), (setI M4 a0 2 ((mI M2 a0 2) + x5))))))))))) :=
  tr_eb [] 18 rfl
theorem ca_Ref_takes (d : Nat) (a0 : Nat) (a1 : Nat) (M : ej_Mem) : cal (d + 1) jm_Ref_takes [.ref a0, .ref a1] M = rn jm_Ref_takes (cal d) 0 [some (.ref a0), some (.ref a1), none] [] M := call_eq (show 2 ≤ 3 by decide)
set_option maxRecDepth 100000 in
theorem eq_Ref_entry_0 (cl : Nat → List Value → ej_Mem → Option ej_R) (a0 : Nat) (l1 : Int32) (l2 : Int32) (M : ej_Mem) : rn jm_Ref_entry cl 0 [some (.ref a0), some (.int l1), some (.int l2)] [] M =
    ckk (mC M a0 = 9) ((if (mI M a0 3) = (0 : Int32) then
      (ckk (mC M a0 = 9) (deR (mR M a0 12) fun q1 => ckk (mC M a0 = 9) (ckk (mC M a0 = 9) (ckk (mC M q1 = 100) (ckb (((200 : Int32) * (mI M a0 4)) + (mI M a0 5)) (mN M q1) (ckk (mC (setA M q1 (Int32.toNatClampNeg (((200 : Int32) * (mI M a0 4)) + (mI M a0 5))) l1) a0 = 9) (deR (mR (setA M q1 (Int32.toNatClampNeg (((200 : Int32) * (mI M a0 4)) + (mI M a0 5))) l1) a0 13) fun q2 => ckk (mC (setA M q1 (Int32.toNatClampNeg (((200 : Int32) * (mI M a0 4)) + (mI M a0 5))) l1) a0 = 9) (ckk (mC (setA M q1 (Int32.toNatClampNeg (((200 : Int32) * (mI M a0 4)) + (mI M a0 5))) l1) a0 = 9) (ckk (mC (setA M q1 (Int32.toNatClampNeg (((200 : Int32) * (mI M a0 4)) + (mI M a0 5))) l1) q2 = 100) (ckb (((200 : Int32) * (mI (setA M q1 (Int32.toNatClampNeg (((200 : Int32) * (mI M a0 4)) + (mI M a0 5))) l1) a0 4)) + (mI (setA M q1 (Int32.toNatClampNeg (((200 : Int32) * (mI M a0 4)) + (mI M a0 5))) l1) a0 5)) (mN (setA M q1 (Int32.toNatClampNeg (((200 : Int32) * (mI M a0 4)) + (mI M a0 5))) l1) q2) (ckk (mC (setA (setA M q1 (Int32.toNatClampNeg (((200 : Int32) * (mI M a0 4)) + (mI M a0 5))) l1) q2 (Int32.toNatClampNeg (((200 : Int32) * (mI (setA M q1 (Int32.toNatClampNeg (((200 : Int32) * (mI M a0 4)) + (mI M a0 5))) l1) a0 4)) + (mI (setA M q1 (Int32.toNatClampNeg (((200 : Int32) * (mI M a0 4)) + (mI M a0 5))) l1) a0 5))) l2) a0 = 9) (ckk (mC (setA (setA M q1 (Int32.toNatClampNeg (((200 : Int32) * (mI M a0 4)) + (mI M a0 5))) l1) q2 (Int32.toNatClampNeg (((200 : Int32) * (mI (setA M q1 (Int32.toNatClampNeg (((200 : Int32) * (mI M a0 4)) + (mI M a0 5))) l1) a0 4)) + (mI (setA M q1 (Int32.toNatClampNeg (((200 : Int32) * (mI M a0 4)) + (mI M a0 5))) l1) a0 5))) l2) a0 = 9) (some (none, (setI (setA (setA M q1 (Int32.toNatClampNeg (((200 : Int32) * (mI M a0 4)) + (mI M a0 5))) l1) q2 (Int32.toNatClampNeg (((200 : Int32) * (mI (setA M q1 (Int32.toNatClampNeg (((200 : Int32) * (mI M a0 4)) + (mI M a0 5))) l1) a0 4)) + (mI (setA M q1 (Int32.toNatClampNeg (((200 : Int32) * (mI M a0 4)) + (mI M a0 5))) l1) a0 5))) l2) a0 5 ((mI (setA (setA M q1 (Int32.toNatClampNeg (((200 : Int32) * (mI M a0 4)) + (mI M a0 5))) l1) q2 (Int32.toNatClampNeg (((200 : Int32) * (mI (setA M q1 (Int32.toNatClampNeg (((200 : Int32) * (mI M a0 4)) + (mI M a0 5))) l1) a0 4)) + (mI (setA M q1 (Int32.toNatClampNeg (((200 : Int32) * (mI M a0 4)) + (mI M a0 5))) l1) a0 5))) l2) a0 5) + (1 : Int32))))))))))))))))) else
      (some (none, M)))) :=
  tr_eb [] 32 rfl
theorem ca_Ref_entry (d : Nat) (a0 : Nat) (l1 : Int32) (l2 : Int32) (M : ej_Mem) : cal (d + 1) jm_Ref_entry [.ref a0, .int l1, .int l2] M = rn jm_Ref_entry (cal d) 0 [some (.ref a0), some (.int l1), some (.int l2)] [] M := call_eq (show 3 ≤ 3 by decide)
set_option maxRecDepth 100000 in
theorem eq_Ref_isCounted_0 (cl : Nat → List Value → ej_Mem → Option ej_R) (a0 : Nat) (l1 : Int32) (M : ej_Mem) : rn jm_Ref_isCounted cl 0 [some (.ref a0), some (.int l1)] [] M =
    ckk (mC M a0 = 9) ((if (mI M a0 7) = (60 : Int32) then
      (ckk (mC M a0 = 9) (bkV (cl jm_Ref_fails [.ref a0, .int (3 : Int32), .int l1] M) fun M1 =>
      ckk (mC M1 a0 = 9) (ckk (mC M1 a0 = 9) (some (none, (setI M1 a0 7 ((mI M1 a0 7) + (1 : Int32)))))))) else
      (ckk (mC M a0 = 9) (ckk (mC M a0 = 9) (some (none, (setI M a0 7 ((mI M a0 7) + (1 : Int32))))))))) :=
  tr_eb [] 15 rfl
theorem ca_Ref_isCounted (d : Nat) (a0 : Nat) (l1 : Int32) (M : ej_Mem) : cal (d + 1) jm_Ref_isCounted [.ref a0, .int l1] M = rn jm_Ref_isCounted (cal d) 0 [some (.ref a0), some (.int l1)] [] M := call_eq (show 2 ≤ 2 by decide)
set_option maxRecDepth 100000 in
theorem eq_Ref_digits_0 (cl : Nat → List Value → ej_Mem → Option ej_R) (a0 : Nat) (l1 : Int32) (M : ej_Mem) : rn jm_Ref_digits cl 0 [some (.ref a0), some (.int l1), none, none] [] M =
    ckk (mC M a0 = 9) (bkI (cl jm_Ref_isDigit [.ref a0] M) fun x2 M1 =>
    (if x2 = (0 : Int32) then
      (ckk (mC M1 a0 = 9) (ckk (mC M1 a0 = 9) (bkV (cl jm_Ref_fails [.ref a0, .int (0 : Int32), .int (mI M1 a0 2)] M1) fun M3 =>
      some (some (.int (0 : Int32)), M3)))) else
      (ckk (mC M1 a0 = 9) (rn jm_Ref_digits cl 25 [some (.ref a0), some (.int l1), some (.int (mI M1 a0 2)), some (.int (0 : Int32))] [] M1)))) :=
  tr_eb [25] 10 rfl
set_option maxRecDepth 100000 in
theorem eq_Ref_digits_25 (cl : Nat → List Value → ej_Mem → Option ej_R) (a0 : Nat) (l1 : Int32) (l2 : Int32) (l3 : Int32) (M : ej_Mem) : rn jm_Ref_digits cl 25 [some (.ref a0), some (.int l1), some (.int l2), some (.int l3)] [] M =
    ckk (mC M a0 = 9) (bkI (cl jm_Ref_isDigit [.ref a0] M) fun x2 M1 =>
    (if x2 = (0 : Int32) then
      (ckk (mC M1 a0 = 9) ((if (5 : Int32) < ((mI M1 a0 2) - l2) then
        (ckk (mC M1 a0 = 9) (bkV (cl jm_Ref_fails [.ref a0, .int (1 : Int32), .int l2] M1) fun M3 =>
        some (some (.int l3), M3))) else
        ((if l3 ≤ l1 then
          (some (some (.int l3), M1)) else
          (ckk (mC M1 a0 = 9) (bkV (cl jm_Ref_fails [.ref a0, .int (1 : Int32), .int l2] M1) fun M4 =>
          some (some (.int l3), M4)))))))) else
      (ckk (mC M1 a0 = 9) ((if (5 : Int32) ≤ ((mI M1 a0 2) - l2) then
        (ckk (mC M1 a0 = 9) (ckk (mC M1 a0 = 9) (rn jm_Ref_digits cl 25 [some (.ref a0), some (.int l1), some (.int l2), some (.int l3)] [] (setI M1 a0 2 ((mI M1 a0 2) + (1 : Int32)))))) else
        (ckk (mC M1 a0 = 9) (bkI (cl jm_Ref_sign [.ref a0] M1) fun x6 M5 =>
        ckk (mC M5 a0 = 9) (ckk (mC M5 a0 = 9) (rn jm_Ref_digits cl 25 [some (.ref a0), some (.int l1), some (.int l2), some (.int ((((10 : Int32) * l3) + x6) - (48 : Int32)))] [] (setI M5 a0 2 ((mI M5 a0 2) + (1 : Int32)))))))))))) :=
  tr_eb [25] 27 rfl
theorem ca_Ref_digits (d : Nat) (a0 : Nat) (l1 : Int32) (M : ej_Mem) : cal (d + 1) jm_Ref_digits [.ref a0, .int l1] M = rn jm_Ref_digits (cal d) 0 [some (.ref a0), some (.int l1), none, none] [] M := call_eq (show 2 ≤ 4 by decide)
set_option maxRecDepth 100000 in
theorem eq_Ref_isRight_0 (cl : Nat → List Value → ej_Mem → Option ej_R) (a0 : Nat) (M : ej_Mem) : rn jm_Ref_isRight cl 0 [some (.ref a0)] [] M =
    ckk (mC M a0 = 9) (bkI (cl jm_Ref_sign [.ref a0] M) fun x2 M1 =>
    bkI (cl jm_Ref_in [.long (Int32.toInt64 x2), .long (65 : Int64), .long (88 : Int64)] M1) fun x4 M3 =>
    ckk (x4 = 0 ∨ x4 = 1) (some (some (.int x4), M3))) :=
  tr_eb [] 7 rfl
theorem ca_Ref_isRight (d : Nat) (a0 : Nat) (M : ej_Mem) : cal (d + 1) jm_Ref_isRight [.ref a0] M = rn jm_Ref_isRight (cal d) 0 [some (.ref a0)] [] M := call_eq (show 1 ≤ 1 by decide)
set_option maxRecDepth 100000 in
theorem eq_Ref_rights_0 (cl : Nat → List Value → ej_Mem → Option ej_R) (a0 : Nat) (M : ej_Mem) : rn jm_Ref_rights cl 0 [some (.ref a0), none] [] M =
    ckk (mC M a0 = 9) (bkV (cl jm_Ref_blanks [.ref a0] M) fun M1 =>
    ckk (mC M1 a0 = 9) (bkI (cl jm_Ref_isRight [.ref a0] M1) fun x3 M2 =>
    (if x3 = (0 : Int32) then
      (ckk (mC M2 a0 = 9) (ckk (mC M2 a0 = 9) (bkV (cl jm_Ref_fails [.ref a0, .int (0 : Int32), .int (mI M2 a0 2)] M2) fun M4 =>
      some (some (.int (0 : Int32)), M4)))) else
      (rn jm_Ref_rights cl 24 [some (.ref a0), some (.int (0 : Int32))] [] M2)))) :=
  tr_eb [24] 12 rfl
set_option maxRecDepth 100000 in
theorem eq_Ref_rights_24 (cl : Nat → List Value → ej_Mem → Option ej_R) (a0 : Nat) (l1 : Int32) (M : ej_Mem) : rn jm_Ref_rights cl 24 [some (.ref a0), some (.int l1)] [] M =
    ckk (mC M a0 = 9) (bkI (cl jm_Ref_isRight [.ref a0] M) fun x2 M1 =>
    (if x2 = (0 : Int32) then
      (some (some (.int l1), M1)) else
      (ckk (mC M1 a0 = 9) (bkI (cl jm_Ref_sign [.ref a0] M1) fun x4 M3 =>
      ckk (mC M3 a0 = 9) (ckk (mC M3 a0 = 9) (ckk (mC (setI M3 a0 2 ((mI M3 a0 2) + (1 : Int32))) a0 = 9) (bkV (cl jm_Ref_blanks [.ref a0] (setI M3 a0 2 ((mI M3 a0 2) + (1 : Int32)))) fun M5 =>
      rn jm_Ref_rights cl 24 [some (.ref a0), some (.int (l1 ||| ((1 : Int32) <<< ((x4 - (65 : Int32)) &&& 31))))] [] M5))))))) :=
  tr_eb [24] 22 rfl
theorem ca_Ref_rights (d : Nat) (a0 : Nat) (M : ej_Mem) : cal (d + 1) jm_Ref_rights [.ref a0] M = rn jm_Ref_rights (cal d) 0 [some (.ref a0), none] [] M := call_eq (show 1 ≤ 2 by decide)
set_option maxRecDepth 100000 in
theorem eq_Ref_amount_0 (cl : Nat → List Value → ej_Mem → Option ej_R) (a0 : Nat) (l1 : Int32) (M : ej_Mem) : rn jm_Ref_amount cl 0 [some (.ref a0), some (.int l1)] [] M =
    ckk (mC M a0 = 9) (bkV (cl jm_Ref_blanks [.ref a0] M) fun M1 =>
    ckk (mC M1 a0 = 9) (bkI (cl jm_Ref_digits [.ref a0, .int l1] M1) fun x3 M2 =>
    some (some (.int x3), M2))) :=
  tr_eb [] 6 rfl
theorem ca_Ref_amount (d : Nat) (a0 : Nat) (l1 : Int32) (M : ej_Mem) : cal (d + 1) jm_Ref_amount [.ref a0, .int l1] M = rn jm_Ref_amount (cal d) 0 [some (.ref a0), some (.int l1)] [] M := call_eq (show 2 ≤ 2 by decide)
set_option maxRecDepth 100000 in
theorem eq_Ref_compared_0 (cl : Nat → List Value → ej_Mem → Option ej_R) (a0 : Nat) (M : ej_Mem) : rn jm_Ref_compared cl 0 [some (.ref a0), none, none, none, none, none] [] M =
    ckk (mC M a0 = 9) (ckk (mC M a0 = 9) (bkI (cl jm_Ref_isRight [.ref a0] M) fun x2 M1 =>
    (if x2 = (0 : Int32) then
      (ckk (mC M1 a0 = 9) (bkI (cl jm_Ref_stands [.ref a0, .ref 27] M1) fun x4 M3 =>
      (if x4 = (0 : Int32) then
        (ckk (mC M3 a0 = 9) (bkV (cl jm_Ref_fails [.ref a0, .int (0 : Int32), .int (mI M a0 2)] M3) fun M11 =>
        some (none, M11))) else
        (ckk (mC M3 a0 = 9) (bkV (cl jm_Ref_isCounted [.ref a0, .int (mI M a0 2)] M3) fun M5 =>
        ckk (mC M5 a0 = 9) (ckk (mC M5 a0 = 9) (ckk (mC (setI M5 a0 2 ((mI M5 a0 2) + (2 : Int32))) a0 = 9) (bkI (cl jm_Ref_rights [.ref a0] (setI M5 a0 2 ((mI M5 a0 2) + (2 : Int32)))) fun x7 M6 =>
        ckk (mC M6 a0 = 9) (bkI (cl jm_Ref_sign [.ref a0] M6) fun x9 M8 =>
        (if x9 = (60 : Int32) then
          (rn jm_Ref_compared cl 111 [some (.ref a0), some (.int (mI M a0 2)), some (.int x7), some (.int x9), none, none] [] M8) else
          ((if x9 = (61 : Int32) then
            (rn jm_Ref_compared cl 111 [some (.ref a0), some (.int (mI M a0 2)), some (.int x7), some (.int x9), none, none] [] M8) else
            ((if x9 = (62 : Int32) then
              (rn jm_Ref_compared cl 111 [some (.ref a0), some (.int (mI M a0 2)), some (.int x7), some (.int x9), none, none] [] M8) else
              (ckk (mC M8 a0 = 9) (ckk (mC M8 a0 = 9) (bkV (cl jm_Ref_fails [.ref a0, .int (0 : Int32), .int (mI M8 a0 2)] M8) fun M10 =>
              some (none, M10)))))))))))))))))) else
      (ckk (mC M1 a0 = 9) (bkV (cl jm_Ref_isCounted [.ref a0, .int (mI M a0 2)] M1) fun M12 =>
      ckk (mC M12 a0 = 9) (bkI (cl jm_Ref_sign [.ref a0] M12) fun x14 M13 =>
      ckk (mC M13 a0 = 9) (bkV (cl jm_Ref_entry [.ref a0, .int (0 : Int32), .int ((1 : Int32) <<< ((x14 - (65 : Int32)) &&& 31))] M13) fun M15 =>
      ckk (mC M15 a0 = 9) (ckk (mC M15 a0 = 9) (some (none, (setI M15 a0 2 ((mI M15 a0 2) + (1 : Int32))))))))))))) :=
  tr_eb [111, 140, 141, 158, 213] 40 rfl
set_option maxRecDepth 100000 in
theorem eq_Ref_compared_111 (cl : Nat → List Value → ej_Mem → Option ej_R) (a0 : Nat) (l1 : Int32) (l2 : Int32) (l3 : Int32) (o4 : Option Value) (o5 : Option Value) (M : ej_Mem) : rn jm_Ref_compared cl 111 [some (.ref a0), some (.int l1), some (.int l2), some (.int l3), o4, o5] [] M =
    ckk (mC M a0 = 9) (ckk (mC M a0 = 9) ((if l3 = (61 : Int32) then
      (rn jm_Ref_compared cl 140 [some (.ref a0), some (.int l1), some (.int l2), some (.int l3), o4, o5] [] (setI M a0 2 ((mI M a0 2) + (1 : Int32)))) else
      (ckk (mC (setI M a0 2 ((mI M a0 2) + (1 : Int32))) a0 = 9) (bkI (cl jm_Ref_sign [.ref a0] (setI M a0 2 ((mI M a0 2) + (1 : Int32)))) fun x2 M1 =>
      (if x2 = (61 : Int32) then
        (rn jm_Ref_compared cl 141 [some (.ref a0), some (.int l1), some (.int l2), some (.int l3), o4, o5] [.int (1 : Int32)] M1) else
        (rn jm_Ref_compared cl 140 [some (.ref a0), some (.int l1), some (.int l2), some (.int l3), o4, o5] [] M1))))))) :=
  tr_eb [111, 140, 141, 158, 213] 16 rfl
set_option maxRecDepth 100000 in
theorem eq_Ref_compared_140 (cl : Nat → List Value → ej_Mem → Option ej_R) (a0 : Nat) (l1 : Int32) (l2 : Int32) (l3 : Int32) (o4 : Option Value) (o5 : Option Value) (M : ej_Mem) : rn jm_Ref_compared cl 140 [some (.ref a0), some (.int l1), some (.int l2), some (.int l3), o4, o5] [] M =
    rn jm_Ref_compared cl 141 [some (.ref a0), some (.int l1), some (.int l2), some (.int l3), o4, o5] [.int (0 : Int32)] M :=
  tr_eb [111, 140, 141, 158, 213] 2 rfl
set_option maxRecDepth 100000 in
theorem eq_Ref_compared_141 (cl : Nat → List Value → ej_Mem → Option ej_R) (a0 : Nat) (l1 : Int32) (l2 : Int32) (l3 : Int32) (o4 : Option Value) (o5 : Option Value) (s0 : Int32) (M : ej_Mem) : rn jm_Ref_compared cl 141 [some (.ref a0), some (.int l1), some (.int l2), some (.int l3), o4, o5] [.int s0] M =
    ckk (mC M a0 = 9) ((if s0 = (0 : Int32) then
      (rn jm_Ref_compared cl 158 [some (.ref a0), some (.int l1), some (.int l2), some (.int l3), some (.int s0), o5] [.int (0 : Int32), .int (mI M a0 2), .ref a0] M) else
      (rn jm_Ref_compared cl 158 [some (.ref a0), some (.int l1), some (.int l2), some (.int l3), some (.int s0), o5] [.int (1 : Int32), .int (mI M a0 2), .ref a0] M))) :=
  tr_eb [111, 140, 141, 158, 213] 9 rfl
set_option maxRecDepth 100000 in
theorem eq_Ref_compared_158 (cl : Nat → List Value → ej_Mem → Option ej_R) (a0 : Nat) (l1 : Int32) (l2 : Int32) (l3 : Int32) (l4 : Int32) (o5 : Option Value) (s0 : Nat) (s1 : Int32) (s2 : Int32) (M : ej_Mem) : rn jm_Ref_compared cl 158 [some (.ref a0), some (.int l1), some (.int l2), some (.int l3), some (.int l4), o5] [.int s2, .int s1, .ref s0] M =
    ckk (mC M s0 = 9) (ckk (mC (setI M s0 2 (s1 + s2)) a0 = 9) (bkI (cl jm_Ref_amount [.ref a0, .int (24 : Int32)] (setI M s0 2 (s1 + s2))) fun x2 M1 =>
    (if l3 = (61 : Int32) then
      (rn jm_Ref_compared cl 213 [some (.ref a0), some (.int l1), some (.int l2), some (.int l3), some (.int l4), some (.int x2)] [.int (6 : Int32), .ref a0] M1) else
      ((if l3 = (60 : Int32) then
        ((if l4 = (0 : Int32) then
          (rn jm_Ref_compared cl 213 [some (.ref a0), some (.int l1), some (.int l2), some (.int l3), some (.int l4), some (.int x2)] [.int (4 : Int32), .ref a0] M1) else
          (rn jm_Ref_compared cl 213 [some (.ref a0), some (.int l1), some (.int l2), some (.int l3), some (.int l4), some (.int x2)] [.int (5 : Int32), .ref a0] M1))) else
        ((if l4 = (0 : Int32) then
          (rn jm_Ref_compared cl 213 [some (.ref a0), some (.int l1), some (.int l2), some (.int l3), some (.int l4), some (.int x2)] [.int (8 : Int32), .ref a0] M1) else
          (rn jm_Ref_compared cl 213 [some (.ref a0), some (.int l1), some (.int l2), some (.int l3), some (.int l4), some (.int x2)] [.int (7 : Int32), .ref a0] M1)))))))) :=
  tr_eb [111, 140, 141, 158, 213] 18 rfl
set_option maxRecDepth 100000 in
theorem eq_Ref_compared_213 (cl : Nat → List Value → ej_Mem → Option ej_R) (a0 : Nat) (l1 : Int32) (l2 : Int32) (l3 : Int32) (l4 : Int32) (l5 : Int32) (s0 : Nat) (s1 : Int32) (M : ej_Mem) : rn jm_Ref_compared cl 213 [some (.ref a0), some (.int l1), some (.int l2), some (.int l3), some (.int l4), some (.int l5)] [.int s1, .ref s0] M =
    ckk (mC M s0 = 9) (bkV (cl jm_Ref_entry [.ref s0, .int s1, .int (l2 ||| (l5 <<< ((24 : Int32) &&& 31)))] M) fun M1 =>
    some (none, M1)) :=
  tr_eb [111, 140, 141, 158, 213] 7 rfl
theorem ca_Ref_compared (d : Nat) (a0 : Nat) (M : ej_Mem) : cal (d + 1) jm_Ref_compared [.ref a0] M = rn jm_Ref_compared (cal d) 0 [some (.ref a0), none, none, none, none, none] [] M := call_eq (show 1 ≤ 6 by decide)
set_option maxRecDepth 100000 in
theorem eq_Ref_top_0 (cl : Nat → List Value → ej_Mem → Option ej_R) (a0 : Nat) (M : ej_Mem) : rn jm_Ref_top cl 0 [some (.ref a0)] [] M =
    ckk (mC M a0 = 9) ((if (mI M a0 8) = (0 : Int32) then
      (some (some (.int (-1 : Int32)), M)) else
      (ckk (mC M a0 = 9) (deR (mR M a0 19) fun q1 => ckk (mC M a0 = 9) (ckk (mC M q1 = 100) (ckb ((mI M a0 8) - (1 : Int32)) (mN M q1) (some (some (.int (aI M q1 (Int32.toNatClampNeg ((mI M a0 8) - (1 : Int32))))), M)))))))) :=
  tr_eb [] 11 rfl
theorem ca_Ref_top (d : Nat) (a0 : Nat) (M : ej_Mem) : cal (d + 1) jm_Ref_top [.ref a0] M = rn jm_Ref_top (cal d) 0 [some (.ref a0)] [] M := call_eq (show 1 ≤ 1 by decide)
set_option maxRecDepth 100000 in
theorem eq_Ref_opens_0 (cl : Nat → List Value → ej_Mem → Option ej_R) (a0 : Nat) (l1 : Int32) (M : ej_Mem) : rn jm_Ref_opens cl 0 [some (.ref a0), some (.int l1)] [] M =
    (if l1 = (9 : Int32) then
      (ckk (mC M a0 = 9) ((if (mI M a0 6) = (10 : Int32) then
        (ckk (mC M a0 = 9) (ckk (mC M a0 = 9) (bkV (cl jm_Ref_fails [.ref a0, .int (2 : Int32), .int (mI M a0 2)] M) fun M2 =>
        ckk (mC M2 a0 = 9) (ckk (mC M2 a0 = 9) (ckk (mC (setI M2 a0 6 ((mI M2 a0 6) + (1 : Int32))) a0 = 9) (deR (mR (setI M2 a0 6 ((mI M2 a0 6) + (1 : Int32))) a0 19) fun q3 => ckk (mC (setI M2 a0 6 ((mI M2 a0 6) + (1 : Int32))) a0 = 9) (ckk (mC (setI M2 a0 6 ((mI M2 a0 6) + (1 : Int32))) q3 = 100) (ckb (mI (setI M2 a0 6 ((mI M2 a0 6) + (1 : Int32))) a0 8) (mN (setI M2 a0 6 ((mI M2 a0 6) + (1 : Int32))) q3) (ckk (mC (setA (setI M2 a0 6 ((mI M2 a0 6) + (1 : Int32))) q3 (Int32.toNatClampNeg (mI (setI M2 a0 6 ((mI M2 a0 6) + (1 : Int32))) a0 8)) l1) a0 = 9) (ckk (mC (setA (setI M2 a0 6 ((mI M2 a0 6) + (1 : Int32))) q3 (Int32.toNatClampNeg (mI (setI M2 a0 6 ((mI M2 a0 6) + (1 : Int32))) a0 8)) l1) a0 = 9) (some (none, (setI (setA (setI M2 a0 6 ((mI M2 a0 6) + (1 : Int32))) q3 (Int32.toNatClampNeg (mI (setI M2 a0 6 ((mI M2 a0 6) + (1 : Int32))) a0 8)) l1) a0 8 ((mI (setA (setI M2 a0 6 ((mI M2 a0 6) + (1 : Int32))) q3 (Int32.toNatClampNeg (mI (setI M2 a0 6 ((mI M2 a0 6) + (1 : Int32))) a0 8)) l1) a0 8) + (1 : Int32))))))))))))))) else
        (ckk (mC M a0 = 9) (ckk (mC M a0 = 9) (ckk (mC (setI M a0 6 ((mI M a0 6) + (1 : Int32))) a0 = 9) (deR (mR (setI M a0 6 ((mI M a0 6) + (1 : Int32))) a0 19) fun q1 => ckk (mC (setI M a0 6 ((mI M a0 6) + (1 : Int32))) a0 = 9) (ckk (mC (setI M a0 6 ((mI M a0 6) + (1 : Int32))) q1 = 100) (ckb (mI (setI M a0 6 ((mI M a0 6) + (1 : Int32))) a0 8) (mN (setI M a0 6 ((mI M a0 6) + (1 : Int32))) q1) (ckk (mC (setA (setI M a0 6 ((mI M a0 6) + (1 : Int32))) q1 (Int32.toNatClampNeg (mI (setI M a0 6 ((mI M a0 6) + (1 : Int32))) a0 8)) l1) a0 = 9) (ckk (mC (setA (setI M a0 6 ((mI M a0 6) + (1 : Int32))) q1 (Int32.toNatClampNeg (mI (setI M a0 6 ((mI M a0 6) + (1 : Int32))) a0 8)) l1) a0 = 9) (some (none, (setI (setA (setI M a0 6 ((mI M a0 6) + (1 : Int32))) q1 (Int32.toNatClampNeg (mI (setI M a0 6 ((mI M a0 6) + (1 : Int32))) a0 8)) l1) a0 8 ((mI (setA (setI M a0 6 ((mI M a0 6) + (1 : Int32))) q1 (Int32.toNatClampNeg (mI (setI M a0 6 ((mI M a0 6) + (1 : Int32))) a0 8)) l1) a0 8) + (1 : Int32)))))))))))))))) else
      ((if l1 = (12 : Int32) then
        (ckk (mC M a0 = 9) ((if (mI M a0 6) = (10 : Int32) then
          (ckk (mC M a0 = 9) (ckk (mC M a0 = 9) (bkV (cl jm_Ref_fails [.ref a0, .int (2 : Int32), .int (mI M a0 2)] M) fun M6 =>
          ckk (mC M6 a0 = 9) (ckk (mC M6 a0 = 9) (ckk (mC (setI M6 a0 6 ((mI M6 a0 6) + (1 : Int32))) a0 = 9) (deR (mR (setI M6 a0 6 ((mI M6 a0 6) + (1 : Int32))) a0 19) fun q7 => ckk (mC (setI M6 a0 6 ((mI M6 a0 6) + (1 : Int32))) a0 = 9) (ckk (mC (setI M6 a0 6 ((mI M6 a0 6) + (1 : Int32))) q7 = 100) (ckb (mI (setI M6 a0 6 ((mI M6 a0 6) + (1 : Int32))) a0 8) (mN (setI M6 a0 6 ((mI M6 a0 6) + (1 : Int32))) q7) (ckk (mC (setA (setI M6 a0 6 ((mI M6 a0 6) + (1 : Int32))) q7 (Int32.toNatClampNeg (mI (setI M6 a0 6 ((mI M6 a0 6) + (1 : Int32))) a0 8)) l1) a0 = 9) (ckk (mC (setA (setI M6 a0 6 ((mI M6 a0 6) + (1 : Int32))) q7 (Int32.toNatClampNeg (mI (setI M6 a0 6 ((mI M6 a0 6) + (1 : Int32))) a0 8)) l1) a0 = 9) (some (none, (setI (setA (setI M6 a0 6 ((mI M6 a0 6) + (1 : Int32))) q7 (Int32.toNatClampNeg (mI (setI M6 a0 6 ((mI M6 a0 6) + (1 : Int32))) a0 8)) l1) a0 8 ((mI (setA (setI M6 a0 6 ((mI M6 a0 6) + (1 : Int32))) q7 (Int32.toNatClampNeg (mI (setI M6 a0 6 ((mI M6 a0 6) + (1 : Int32))) a0 8)) l1) a0 8) + (1 : Int32))))))))))))))) else
          (ckk (mC M a0 = 9) (ckk (mC M a0 = 9) (ckk (mC (setI M a0 6 ((mI M a0 6) + (1 : Int32))) a0 = 9) (deR (mR (setI M a0 6 ((mI M a0 6) + (1 : Int32))) a0 19) fun q5 => ckk (mC (setI M a0 6 ((mI M a0 6) + (1 : Int32))) a0 = 9) (ckk (mC (setI M a0 6 ((mI M a0 6) + (1 : Int32))) q5 = 100) (ckb (mI (setI M a0 6 ((mI M a0 6) + (1 : Int32))) a0 8) (mN (setI M a0 6 ((mI M a0 6) + (1 : Int32))) q5) (ckk (mC (setA (setI M a0 6 ((mI M a0 6) + (1 : Int32))) q5 (Int32.toNatClampNeg (mI (setI M a0 6 ((mI M a0 6) + (1 : Int32))) a0 8)) l1) a0 = 9) (ckk (mC (setA (setI M a0 6 ((mI M a0 6) + (1 : Int32))) q5 (Int32.toNatClampNeg (mI (setI M a0 6 ((mI M a0 6) + (1 : Int32))) a0 8)) l1) a0 = 9) (some (none, (setI (setA (setI M a0 6 ((mI M a0 6) + (1 : Int32))) q5 (Int32.toNatClampNeg (mI (setI M a0 6 ((mI M a0 6) + (1 : Int32))) a0 8)) l1) a0 8 ((mI (setA (setI M a0 6 ((mI M a0 6) + (1 : Int32))) q5 (Int32.toNatClampNeg (mI (setI M a0 6 ((mI M a0 6) + (1 : Int32))) a0 8)) l1) a0 8) + (1 : Int32)))))))))))))))) else
        (ckk (mC M a0 = 9) (deR (mR M a0 19) fun q4 => ckk (mC M a0 = 9) (ckk (mC M q4 = 100) (ckb (mI M a0 8) (mN M q4) (ckk (mC (setA M q4 (Int32.toNatClampNeg (mI M a0 8)) l1) a0 = 9) (ckk (mC (setA M q4 (Int32.toNatClampNeg (mI M a0 8)) l1) a0 = 9) (some (none, (setI (setA M q4 (Int32.toNatClampNeg (mI M a0 8)) l1) a0 8 ((mI (setA M q4 (Int32.toNatClampNeg (mI M a0 8)) l1) a0 8) + (1 : Int32)))))))))))))) :=
  tr_eb [] 34 rfl
theorem ca_Ref_opens (d : Nat) (a0 : Nat) (l1 : Int32) (M : ej_Mem) : cal (d + 1) jm_Ref_opens [.ref a0, .int l1] M = rn jm_Ref_opens (cal d) 0 [some (.ref a0), some (.int l1)] [] M := call_eq (show 2 ≤ 2 by decide)
set_option maxRecDepth 100000 in
theorem eq_Ref_answers_0 (cl : Nat → List Value → ej_Mem → Option ej_R) (a0 : Nat) (l1 : Int32) (M : ej_Mem) : rn jm_Ref_answers cl 0 [some (.ref a0), some (.int l1)] [] M =
    ckk (mC M a0 = 9) (bkI (cl jm_Ref_top [.ref a0] M) fun x2 M1 =>
    (if x2 = l1 then
      (ckk (mC M1 a0 = 9) ((if (mI M1 a0 3) = (0 : Int32) then
        (ckk (mC M1 a0 = 9) (bkV (cl jm_Ref_entry [.ref a0, .int l1, .int (0 : Int32)] M1) fun M3 =>
        ckk (mC M3 a0 = 9) (ckk (mC M3 a0 = 9) (ckk (mC (setI M3 a0 8 ((mI M3 a0 8) - (1 : Int32))) a0 = 9) ((if l1 = (9 : Int32) then
          (ckk (mC (setI M3 a0 8 ((mI M3 a0 8) - (1 : Int32))) a0 = 9) (rn jm_Ref_answers cl 0 [some (.ref a0), some (.int l1)] [] (setI (setI M3 a0 8 ((mI M3 a0 8) - (1 : Int32))) a0 6 ((mI (setI M3 a0 8 ((mI M3 a0 8) - (1 : Int32))) a0 6) - (1 : Int32))))) else
          (ckk (mC (setI M3 a0 8 ((mI M3 a0 8) - (1 : Int32))) a0 = 9) (rn jm_Ref_answers cl 0 [some (.ref a0), some (.int l1)] [] (setI (setI M3 a0 8 ((mI M3 a0 8) - (1 : Int32))) a0 6 ((mI (setI M3 a0 8 ((mI M3 a0 8) - (1 : Int32))) a0 6) - (0 : Int32))))))))))) else
        (some (none, M1))))) else
      (some (none, M1)))) :=
  tr_eb [0] 29 rfl
theorem ca_Ref_answers (d : Nat) (a0 : Nat) (l1 : Int32) (M : ej_Mem) : cal (d + 1) jm_Ref_answers [.ref a0, .int l1] M = rn jm_Ref_answers (cal d) 0 [some (.ref a0), some (.int l1)] [] M := call_eq (show 2 ≤ 2 by decide)
set_option maxRecDepth 100000 in
theorem eq_Ref_fact_0 (cl : Nat → List Value → ej_Mem → Option ej_R) (a0 : Nat) (M : ej_Mem) : rn jm_Ref_fact cl 0 [some (.ref a0)] [] M =
    ckk (mC M a0 = 9) (bkV (cl jm_Ref_blanks [.ref a0] M) fun M1 =>
    ckk (mC M1 a0 = 9) (bkI (cl jm_Ref_stands [.ref a0, .ref 26] M1) fun x3 M2 =>
    (if x3 = (0 : Int32) then
      (ckk (mC M2 a0 = 9) (bkI (cl jm_Ref_sign [.ref a0] M2) fun x5 M4 =>
      (if x5 = (91 : Int32) then
        (ckk (mC M4 a0 = 9) (bkV (cl jm_Ref_opens [.ref a0, .int (12 : Int32)] M4) fun M7 =>
        ckk (mC M7 a0 = 9) (ckk (mC M7 a0 = 9) (ckk ((0 : Int32) = 0 ∨ (0 : Int32) = 1) (some (some (.int (0 : Int32)), (setI M7 a0 2 ((mI M7 a0 2) + (1 : Int32))))))))) else
        (ckk (mC M4 a0 = 9) (bkV (cl jm_Ref_compared [.ref a0] M4) fun M6 =>
        ckk ((1 : Int32) = 0 ∨ (1 : Int32) = 1) (some (some (.int (1 : Int32)), M6))))))) else
      (ckk (mC M2 a0 = 9) (bkV (cl jm_Ref_opens [.ref a0, .int (9 : Int32)] M2) fun M8 =>
      ckk (mC M8 a0 = 9) (ckk (mC M8 a0 = 9) (ckk ((0 : Int32) = 0 ∨ (0 : Int32) = 1) (some (some (.int (0 : Int32)), (setI M8 a0 2 ((mI M8 a0 2) + (3 : Int32)))))))))))) :=
  tr_eb [] 21 rfl
theorem ca_Ref_fact (d : Nat) (a0 : Nat) (M : ej_Mem) : cal (d + 1) jm_Ref_fact [.ref a0] M = rn jm_Ref_fact (cal d) 0 [some (.ref a0)] [] M := call_eq (show 1 ≤ 1 by decide)
set_option maxRecDepth 100000 in
theorem eq_Ref_test_0 (cl : Nat → List Value → ej_Mem → Option ej_R) (a0 : Nat) (M : ej_Mem) : rn jm_Ref_test cl 0 [some (.ref a0), none, none, none, none] [] M =
    ckk (mC M a0 = 9) (rn jm_Ref_test cl 9 [some (.ref a0), some (.int (1 : Int32)), some (.int (1 : Int32)), none, none] [] (setI M a0 8 (0 : Int32))) :=
  tr_eb [9] 8 rfl
set_option maxRecDepth 100000 in
theorem eq_Ref_test_9 (cl : Nat → List Value → ej_Mem → Option ej_R) (a0 : Nat) (l1 : Int32) (l2 : Int32) (o3 : Option Value) (o4 : Option Value) (M : ej_Mem) : rn jm_Ref_test cl 9 [some (.ref a0), some (.int l1), some (.int l2), o3, o4] [] M =
    (if l2 = (0 : Int32) then
      (some (none, M)) else
      (ckk (mC M a0 = 9) ((if (mI M a0 3) = (0 : Int32) then
        ((if l1 = (0 : Int32) then
          (ckk (mC M a0 = 9) (bkV (cl jm_Ref_answers [.ref a0, .int (9 : Int32)] M) fun M1 =>
          ckk (mC M1 a0 = 9) (bkV (cl jm_Ref_blanks [.ref a0] M1) fun M2 =>
          ckk (mC M2 a0 = 9) (bkI (cl jm_Ref_stands [.ref a0, .ref 28] M2) fun x4 M3 =>
          ckk (mC M3 a0 = 9) (bkI (cl jm_Ref_stands [.ref a0, .ref 29] M3) fun x6 M5 =>
          ckk (mC M5 a0 = 9) (bkV (cl jm_Ref_answers [.ref a0, .int (10 : Int32)] M5) fun M7 =>
          (if x4 = (0 : Int32) then
            ((if x6 = (0 : Int32) then
              (ckk (mC M7 a0 = 9) (bkV (cl jm_Ref_answers [.ref a0, .int (11 : Int32)] M7) fun M13 =>
              ckk (mC M13 a0 = 9) (bkI (cl jm_Ref_top [.ref a0] M13) fun x15 M14 =>
              (if x15 = (12 : Int32) then
                (ckk (mC M14 a0 = 9) (bkI (cl jm_Ref_sign [.ref a0] M14) fun x17 M16 =>
                (if x17 = (93 : Int32) then
                  (ckk (mC M16 a0 = 9) (ckk (mC M16 a0 = 9) (ckk (mC (setI M16 a0 2 ((mI M16 a0 2) + (1 : Int32))) a0 = 9) (ckk (mC (setI M16 a0 2 ((mI M16 a0 2) + (1 : Int32))) a0 = 9) (ckk (mC (setI (setI M16 a0 2 ((mI M16 a0 2) + (1 : Int32))) a0 8 ((mI (setI M16 a0 2 ((mI M16 a0 2) + (1 : Int32))) a0 8) - (1 : Int32))) a0 = 9) (ckk (mC (setI (setI M16 a0 2 ((mI M16 a0 2) + (1 : Int32))) a0 8 ((mI (setI M16 a0 2 ((mI M16 a0 2) + (1 : Int32))) a0 8) - (1 : Int32))) a0 = 9) (rn jm_Ref_test cl 9 [some (.ref a0), some (.int l1), some (.int l2), some (.int x4), some (.int x6)] [] (setI (setI (setI M16 a0 2 ((mI M16 a0 2) + (1 : Int32))) a0 8 ((mI (setI M16 a0 2 ((mI M16 a0 2) + (1 : Int32))) a0 8) - (1 : Int32))) a0 6 ((mI (setI (setI M16 a0 2 ((mI M16 a0 2) + (1 : Int32))) a0 8 ((mI (setI M16 a0 2 ((mI M16 a0 2) + (1 : Int32))) a0 8) - (1 : Int32))) a0 6) - (1 : Int32)))))))))) else
                  (ckk (mC M16 a0 = 9) (ckk (mC M16 a0 = 9) (bkV (cl jm_Ref_fails [.ref a0, .int (0 : Int32), .int (mI M16 a0 2)] M16) fun M18 =>
                  ckk (mC M18 a0 = 9) (ckk (mC M18 a0 = 9) (ckk (mC (setI M18 a0 2 ((mI M18 a0 2) + (1 : Int32))) a0 = 9) (ckk (mC (setI M18 a0 2 ((mI M18 a0 2) + (1 : Int32))) a0 = 9) (ckk (mC (setI (setI M18 a0 2 ((mI M18 a0 2) + (1 : Int32))) a0 8 ((mI (setI M18 a0 2 ((mI M18 a0 2) + (1 : Int32))) a0 8) - (1 : Int32))) a0 = 9) (ckk (mC (setI (setI M18 a0 2 ((mI M18 a0 2) + (1 : Int32))) a0 8 ((mI (setI M18 a0 2 ((mI M18 a0 2) + (1 : Int32))) a0 8) - (1 : Int32))) a0 = 9) (rn jm_Ref_test cl 9 [some (.ref a0), some (.int l1), some (.int l2), some (.int x4), some (.int x6)] [] (setI (setI (setI M18 a0 2 ((mI M18 a0 2) + (1 : Int32))) a0 8 ((mI (setI M18 a0 2 ((mI M18 a0 2) + (1 : Int32))) a0 8) - (1 : Int32))) a0 6 ((mI (setI (setI M18 a0 2 ((mI M18 a0 2) + (1 : Int32))) a0 8 ((mI (setI M18 a0 2 ((mI M18 a0 2) + (1 : Int32))) a0 8) - (1 : Int32))) a0 6) - (1 : Int32))))))))))))))) else
                (rn jm_Ref_test cl 9 [some (.ref a0), some (.int l1), some (.int (0 : Int32)), some (.int x4), some (.int x6)] [] M14))))) else
              ((if x6 = (0 : Int32) then
                ((if x4 = (0 : Int32) then
                  (ckk (mC M7 a0 = 9) (bkV (cl jm_Ref_opens [.ref a0, .int (11 : Int32)] M7) fun M19 =>
                  ckk (mC M19 a0 = 9) ((if x4 = (0 : Int32) then
                    (ckk (mC M19 a0 = 9) (rn jm_Ref_test cl 9 [some (.ref a0), some (.int (1 : Int32)), some (.int l2), some (.int x4), some (.int x6)] [] (setI M19 a0 2 ((mI M19 a0 2) + (2 : Int32))))) else
                    (ckk (mC M19 a0 = 9) (rn jm_Ref_test cl 9 [some (.ref a0), some (.int (1 : Int32)), some (.int l2), some (.int x4), some (.int x6)] [] (setI M19 a0 2 ((mI M19 a0 2) + (3 : Int32))))))))) else
                  (ckk (mC M7 a0 = 9) (bkV (cl jm_Ref_opens [.ref a0, .int (10 : Int32)] M7) fun M20 =>
                  ckk (mC M20 a0 = 9) ((if x4 = (0 : Int32) then
                    (ckk (mC M20 a0 = 9) (rn jm_Ref_test cl 9 [some (.ref a0), some (.int (1 : Int32)), some (.int l2), some (.int x4), some (.int x6)] [] (setI M20 a0 2 ((mI M20 a0 2) + (2 : Int32))))) else
                    (ckk (mC M20 a0 = 9) (rn jm_Ref_test cl 9 [some (.ref a0), some (.int (1 : Int32)), some (.int l2), some (.int x4), some (.int x6)] [] (setI M20 a0 2 ((mI M20 a0 2) + (3 : Int32))))))))))) else
                (ckk (mC M7 a0 = 9) (bkV (cl jm_Ref_answers [.ref a0, .int (11 : Int32)] M7) fun M21 =>
                (if x4 = (0 : Int32) then
                  (ckk (mC M21 a0 = 9) (bkV (cl jm_Ref_opens [.ref a0, .int (11 : Int32)] M21) fun M22 =>
                  ckk (mC M22 a0 = 9) ((if x4 = (0 : Int32) then
                    (ckk (mC M22 a0 = 9) (rn jm_Ref_test cl 9 [some (.ref a0), some (.int (1 : Int32)), some (.int l2), some (.int x4), some (.int x6)] [] (setI M22 a0 2 ((mI M22 a0 2) + (2 : Int32))))) else
                    (ckk (mC M22 a0 = 9) (rn jm_Ref_test cl 9 [some (.ref a0), some (.int (1 : Int32)), some (.int l2), some (.int x4), some (.int x6)] [] (setI M22 a0 2 ((mI M22 a0 2) + (3 : Int32))))))))) else
                  (ckk (mC M21 a0 = 9) (bkV (cl jm_Ref_opens [.ref a0, .int (10 : Int32)] M21) fun M23 =>
                  ckk (mC M23 a0 = 9) ((if x4 = (0 : Int32) then
                    (ckk (mC M23 a0 = 9) (rn jm_Ref_test cl 9 [some (.ref a0), some (.int (1 : Int32)), some (.int l2), some (.int x4), some (.int x6)] [] (setI M23 a0 2 ((mI M23 a0 2) + (2 : Int32))))) else
                    (ckk (mC M23 a0 = 9) (rn jm_Ref_test cl 9 [some (.ref a0), some (.int (1 : Int32)), some (.int l2), some (.int x4), some (.int x6)] [] (setI M23 a0 2 ((mI M23 a0 2) + (3 : Int32)))))))))))))))) else
            ((if x6 = (0 : Int32) then
              ((if x4 = (0 : Int32) then
                (ckk (mC M7 a0 = 9) (bkV (cl jm_Ref_opens [.ref a0, .int (11 : Int32)] M7) fun M8 =>
                ckk (mC M8 a0 = 9) ((if x4 = (0 : Int32) then
                  (ckk (mC M8 a0 = 9) (rn jm_Ref_test cl 9 [some (.ref a0), some (.int (1 : Int32)), some (.int l2), some (.int x4), some (.int x6)] [] (setI M8 a0 2 ((mI M8 a0 2) + (2 : Int32))))) else
                  (ckk (mC M8 a0 = 9) (rn jm_Ref_test cl 9 [some (.ref a0), some (.int (1 : Int32)), some (.int l2), some (.int x4), some (.int x6)] [] (setI M8 a0 2 ((mI M8 a0 2) + (3 : Int32))))))))) else
                (ckk (mC M7 a0 = 9) (bkV (cl jm_Ref_opens [.ref a0, .int (10 : Int32)] M7) fun M9 =>
                ckk (mC M9 a0 = 9) ((if x4 = (0 : Int32) then
                  (ckk (mC M9 a0 = 9) (rn jm_Ref_test cl 9 [some (.ref a0), some (.int (1 : Int32)), some (.int l2), some (.int x4), some (.int x6)] [] (setI M9 a0 2 ((mI M9 a0 2) + (2 : Int32))))) else
                  (ckk (mC M9 a0 = 9) (rn jm_Ref_test cl 9 [some (.ref a0), some (.int (1 : Int32)), some (.int l2), some (.int x4), some (.int x6)] [] (setI M9 a0 2 ((mI M9 a0 2) + (3 : Int32))))))))))) else
              (ckk (mC M7 a0 = 9) (bkV (cl jm_Ref_answers [.ref a0, .int (11 : Int32)] M7) fun M10 =>
              (if x4 = (0 : Int32) then
                (ckk (mC M10 a0 = 9) (bkV (cl jm_Ref_opens [.ref a0, .int (11 : Int32)] M10) fun M11 =>
                ckk (mC M11 a0 = 9) ((if x4 = (0 : Int32) then
                  (ckk (mC M11 a0 = 9) (rn jm_Ref_test cl 9 [some (.ref a0), some (.int (1 : Int32)), some (.int l2), some (.int x4), some (.int x6)] [] (setI M11 a0 2 ((mI M11 a0 2) + (2 : Int32))))) else
                  (ckk (mC M11 a0 = 9) (rn jm_Ref_test cl 9 [some (.ref a0), some (.int (1 : Int32)), some (.int l2), some (.int x4), some (.int x6)] [] (setI M11 a0 2 ((mI M11 a0 2) + (3 : Int32))))))))) else
                (ckk (mC M10 a0 = 9) (bkV (cl jm_Ref_opens [.ref a0, .int (10 : Int32)] M10) fun M12 =>
                ckk (mC M12 a0 = 9) ((if x4 = (0 : Int32) then
                  (ckk (mC M12 a0 = 9) (rn jm_Ref_test cl 9 [some (.ref a0), some (.int (1 : Int32)), some (.int l2), some (.int x4), some (.int x6)] [] (setI M12 a0 2 ((mI M12 a0 2) + (2 : Int32))))) else
                  (ckk (mC M12 a0 = 9) (rn jm_Ref_test cl 9 [some (.ref a0), some (.int (1 : Int32)), some (.int l2), some (.int x4), some (.int x6)] [] (setI M12 a0 2 ((mI M12 a0 2) + (3 : Int32))))))))))))))))))))) else
          (ckk (mC M a0 = 9) (bkI (cl jm_Ref_fact [.ref a0] M) fun x25 M24 =>
          (if x25 = (0 : Int32) then
            (rn jm_Ref_test cl 9 [some (.ref a0), some (.int (1 : Int32)), some (.int l2), o3, o4] [] M24) else
            (rn jm_Ref_test cl 9 [some (.ref a0), some (.int (0 : Int32)), some (.int l2), o3, o4] [] M24)))))) else
        (some (none, M)))))) :=
  tr_eb [9] 64 rfl
theorem ca_Ref_test (d : Nat) (a0 : Nat) (M : ej_Mem) : cal (d + 1) jm_Ref_test [.ref a0] M = rn jm_Ref_test (cal d) 0 [some (.ref a0), none, none, none, none] [] M := call_eq (show 1 ≤ 5 by decide)
set_option maxRecDepth 100000 in
theorem eq_Ref_wasTold_0 (cl : Nat → List Value → ej_Mem → Option ej_R) (a0 : Nat) (l1 : Int32) (l2 : Int32) (M : ej_Mem) : rn jm_Ref_wasTold cl 0 [some (.ref a0), some (.int l1), some (.int l2), none, none] [] M =
    rn jm_Ref_wasTold cl 5 [some (.ref a0), some (.int l1), some (.int l2), some (.int (0 : Int32)), some (.int (0 : Int32))] [] M :=
  tr_eb [5] 5 rfl
set_option maxRecDepth 100000 in
theorem eq_Ref_wasTold_5 (cl : Nat → List Value → ej_Mem → Option ej_R) (a0 : Nat) (l1 : Int32) (l2 : Int32) (l3 : Int32) (l4 : Int32) (M : ej_Mem) : rn jm_Ref_wasTold cl 5 [some (.ref a0), some (.int l1), some (.int l2), some (.int l3), some (.int l4)] [] M =
    (if l1 ≤ l4 then
      (ckk (l3 = 0 ∨ l3 = 1) (some (some (.int l3), M))) else
      ((if l3 = (0 : Int32) then
        (ckk (mC M a0 = 9) (deR (mR M a0 15) fun q1 => ckk (mC M a0 = 9) (ckk (mC M q1 = 100) (ckb (((12 : Int32) * (mI M a0 4)) + l4) (mN M q1) ((if (aI M q1 (Int32.toNatClampNeg (((12 : Int32) * (mI M a0 4)) + l4))) = l2 then
          (rn jm_Ref_wasTold cl 5 [some (.ref a0), some (.int l1), some (.int l2), some (.int (1 : Int32)), some (.int (l4 + (1 : Int32)))] [] M) else
          (rn jm_Ref_wasTold cl 5 [some (.ref a0), some (.int l1), some (.int l2), some (.int (0 : Int32)), some (.int (l4 + (1 : Int32)))] [] M))))))) else
        (rn jm_Ref_wasTold cl 5 [some (.ref a0), some (.int l1), some (.int l2), some (.int (1 : Int32)), some (.int (l4 + (1 : Int32)))] [] M)))) :=
  tr_eb [5] 22 rfl
theorem ca_Ref_wasTold (d : Nat) (a0 : Nat) (l1 : Int32) (l2 : Int32) (M : ej_Mem) : cal (d + 1) jm_Ref_wasTold [.ref a0, .int l1, .int l2] M = rn jm_Ref_wasTold (cal d) 0 [some (.ref a0), some (.int l1), some (.int l2), none, none] [] M := call_eq (show 3 ≤ 5 by decide)
set_option maxRecDepth 100000 in
theorem eq_Ref_clause_0 (cl : Nat → List Value → ej_Mem → Option ej_R) (a0 : Nat) (l1 : Int32) (l2 : Int32) (M : ej_Mem) : rn jm_Ref_clause cl 0 [some (.ref a0), some (.int l1), some (.int l2), none, none, none, none] [] M =
    ckk (mC M a0 = 9) (bkV (cl jm_Ref_blanks [.ref a0] M) fun M1 =>
    ckk (mC M1 a0 = 9) ((if l1 = (1 : Int32) then
      (rn jm_Ref_clause cl 20 [some (.ref a0), some (.int l1), some (.int l2), some (.int (mI M1 a0 2)), none, none, none] [.int (2 : Int32)] M1) else
      (rn jm_Ref_clause cl 20 [some (.ref a0), some (.int l1), some (.int l2), some (.int (mI M1 a0 2)), none, none, none] [.int (7 : Int32)] M1)))) :=
  tr_eb [20, 25, 51, 87, 97, 104, 180, 187, 204, 251, 283] 11 rfl
set_option maxRecDepth 100000 in
theorem eq_Ref_clause_20 (cl : Nat → List Value → ej_Mem → Option ej_R) (a0 : Nat) (l1 : Int32) (l2 : Int32) (l3 : Int32) (o4 : Option Value) (o5 : Option Value) (o6 : Option Value) (s0 : Int32) (M : ej_Mem) : rn jm_Ref_clause cl 20 [some (.ref a0), some (.int l1), some (.int l2), some (.int l3), o4, o5, o6] [.int s0] M =
    rn jm_Ref_clause cl 25 [some (.ref a0), some (.int l1), some (.int l2), some (.int l3), some (.int s0), some (.int (0 : Int32)), o6] [] M :=
  tr_eb [20, 25, 51, 87, 97, 104, 180, 187, 204, 251, 283] 4 rfl
set_option maxRecDepth 100000 in
theorem eq_Ref_clause_25 (cl : Nat → List Value → ej_Mem → Option ej_R) (a0 : Nat) (l1 : Int32) (l2 : Int32) (l3 : Int32) (l4 : Int32) (l5 : Int32) (o6 : Option Value) (M : ej_Mem) : rn jm_Ref_clause cl 25 [some (.ref a0), some (.int l1), some (.int l2), some (.int l3), some (.int l4), some (.int l5), o6] [] M =
    (if l4 ≤ l5 then
      (rn jm_Ref_clause cl 51 [some (.ref a0), some (.int l1), some (.int l2), some (.int l3), some (.int l4), some (.int l5), o6] [] M) else
      (bkQ (cl jm_Ref_clauseOf [.int l1, .int l5] M)
        (fun M1 => ckk (mC M1 a0 = 9) (bkI (cl jm_Ref_stands [.ref a0, .null] M1) fun x5 M4 =>
        (if x5 = (0 : Int32) then
          (rn jm_Ref_clause cl 25 [some (.ref a0), some (.int l1), some (.int l2), some (.int l3), some (.int l4), some (.int (l5 + (1 : Int32))), o6] [] M4) else
          (rn jm_Ref_clause cl 51 [some (.ref a0), some (.int l1), some (.int l2), some (.int l3), some (.int l4), some (.int l5), o6] [] M4))))
        (fun q2 M3 => ckk (mC M3 a0 = 9) (bkI (cl jm_Ref_stands [.ref a0, .ref q2] M3) fun x7 M6 =>
        (if x7 = (0 : Int32) then
          (rn jm_Ref_clause cl 25 [some (.ref a0), some (.int l1), some (.int l2), some (.int l3), some (.int l4), some (.int (l5 + (1 : Int32))), o6] [] M6) else
          (rn jm_Ref_clause cl 51 [some (.ref a0), some (.int l1), some (.int l2), some (.int l3), some (.int l4), some (.int l5), o6] [] M6)))))) :=
  tr_eb [20, 25, 51, 87, 97, 104, 180, 187, 204, 251, 283] 12 rfl
set_option maxRecDepth 100000 in
theorem eq_Ref_clause_51 (cl : Nat → List Value → ej_Mem → Option ej_R) (a0 : Nat) (l1 : Int32) (l2 : Int32) (l3 : Int32) (l4 : Int32) (l5 : Int32) (o6 : Option Value) (M : ej_Mem) : rn jm_Ref_clause cl 51 [some (.ref a0), some (.int l1), some (.int l2), some (.int l3), some (.int l4), some (.int l5), o6] [] M =
    (if l5 = l4 then
      (ckk (mC M a0 = 9) (bkV (cl jm_Ref_fails [.ref a0, .int (0 : Int32), .int l3] M) fun M1 =>
      some (none, M1))) else
      ((if l2 = (12 : Int32) then
        (rn jm_Ref_clause cl 97 [some (.ref a0), some (.int l1), some (.int l2), some (.int l3), some (.int l4), some (.int l5), o6] [] M) else
        ((if l1 = (0 : Int32) then
          ((if l5 = (3 : Int32) then
            (rn jm_Ref_clause cl 87 [some (.ref a0), some (.int l1), some (.int l2), some (.int l3), some (.int l4), some (.int l5), o6] [] M) else
            ((if l5 = (4 : Int32) then
              (rn jm_Ref_clause cl 87 [some (.ref a0), some (.int l1), some (.int l2), some (.int l3), some (.int l4), some (.int l5), o6] [] M) else
              (rn jm_Ref_clause cl 104 [some (.ref a0), some (.int l1), some (.int l2), some (.int l3), some (.int l4), some (.int l5), o6] [] M))))) else
          (rn jm_Ref_clause cl 104 [some (.ref a0), some (.int l1), some (.int l2), some (.int l3), some (.int l4), some (.int l5), o6] [] M)))))) :=
  tr_eb [20, 25, 51, 87, 97, 104, 180, 187, 204, 251, 283] 15 rfl
set_option maxRecDepth 100000 in
theorem eq_Ref_clause_87 (cl : Nat → List Value → ej_Mem → Option ej_R) (a0 : Nat) (l1 : Int32) (l2 : Int32) (l3 : Int32) (l4 : Int32) (l5 : Int32) (o6 : Option Value) (M : ej_Mem) : rn jm_Ref_clause cl 87 [some (.ref a0), some (.int l1), some (.int l2), some (.int l3), some (.int l4), some (.int l5), o6] [] M =
    ckk (mC M a0 = 9) (bkI (cl jm_Ref_wasTold [.ref a0, .int l2, .int l5] M) fun x2 M1 =>
    (if x2 = (0 : Int32) then
      (rn jm_Ref_clause cl 104 [some (.ref a0), some (.int l1), some (.int l2), some (.int l3), some (.int l4), some (.int l5), o6] [] M1) else
      (rn jm_Ref_clause cl 97 [some (.ref a0), some (.int l1), some (.int l2), some (.int l3), some (.int l4), some (.int l5), o6] [] M1))) :=
  tr_eb [20, 25, 51, 87, 97, 104, 180, 187, 204, 251, 283] 6 rfl
set_option maxRecDepth 100000 in
theorem eq_Ref_clause_97 (cl : Nat → List Value → ej_Mem → Option ej_R) (a0 : Nat) (l1 : Int32) (l2 : Int32) (l3 : Int32) (l4 : Int32) (l5 : Int32) (o6 : Option Value) (M : ej_Mem) : rn jm_Ref_clause cl 97 [some (.ref a0), some (.int l1), some (.int l2), some (.int l3), some (.int l4), some (.int l5), o6] [] M =
    ckk (mC M a0 = 9) (bkV (cl jm_Ref_fails [.ref a0, .int (4 : Int32), .int l3] M) fun M1 =>
    some (none, M1)) :=
  tr_eb [20, 25, 51, 87, 97, 104, 180, 187, 204, 251, 283] 5 rfl
set_option maxRecDepth 100000 in
theorem eq_Ref_clause_104 (cl : Nat → List Value → ej_Mem → Option ej_R) (a0 : Nat) (l1 : Int32) (l2 : Int32) (l3 : Int32) (l4 : Int32) (l5 : Int32) (o6 : Option Value) (M : ej_Mem) : rn jm_Ref_clause cl 104 [some (.ref a0), some (.int l1), some (.int l2), some (.int l3), some (.int l4), some (.int l5), o6] [] M =
    ckk (mC M a0 = 9) (bkQ (cl jm_Ref_clauseOf [.int l1, .int l5] M)
      (fun M1 => none)
      (fun q2 M3 => ckk (mC M3 q2 = 10) (bkI (cl jm_Str_length_8abf5 [.ref q2] M3) fun x5 M4 =>
      ckk (mC M4 a0 = 9) (ckk (mC (setI M4 a0 2 ((mI M a0 2) + x5)) a0 = 9) (ckk (mC (setI M4 a0 2 ((mI M a0 2) + x5)) a0 = 9) (deR (mR (setI M4 a0 2 ((mI M a0 2) + x5)) a0 15) fun q6 => ckk (mC (setI M4 a0 2 ((mI M a0 2) + x5)) q6 = 100) (ckb (((12 : Int32) * (mI (setI M4 a0 2 ((mI M a0 2) + x5)) a0 4)) + l2) (mN (setI M4 a0 2 ((mI M a0 2) + x5)) q6) (ckk (mC (setA (setI M4 a0 2 ((mI M a0 2) + x5)) q6 (Int32.toNatClampNeg (((12 : Int32) * (mI (setI M4 a0 2 ((mI M a0 2) + x5)) a0 4)) + l2)) l5) a0 = 9) (deR (mR (setA (setI M4 a0 2 ((mI M a0 2) + x5)) q6 (Int32.toNatClampNeg (((12 : Int32) * (mI (setI M4 a0 2 ((mI M a0 2) + x5)) a0 4)) + l2)) l5) a0 16) fun q7 => ckk (mC (setA (setI M4 a0 2 ((mI M a0 2) + x5)) q6 (Int32.toNatClampNeg (((12 : Int32) * (mI (setI M4 a0 2 ((mI M a0 2) + x5)) a0 4)) + l2)) l5) q7 = 100) (ckb (((12 : Int32) * (mI (setI M4 a0 2 ((mI M a0 2) + x5)) a0 4)) + l2) (mN (setA (setI M4 a0 2 ((mI M a0 2) + x5)) q6 (Int32.toNatClampNeg (((12 : Int32) * (mI (setI M4 a0 2 ((mI M a0 2) + x5)) a0 4)) + l2)) l5) q7) (ckk (mC (setA (setA (setI M4 a0 2 ((mI M a0 2) + x5)) q6 (Int32.toNatClampNeg (((12 : Int32) * (mI (setI M4 a0 2 ((mI M a0 2) + x5)) a0 4)) + l2)) l5) q7 (Int32.toNatClampNeg (((12 : Int32) * (mI (setI M4 a0 2 ((mI M a0 2) + x5)) a0 4)) + l2)) (0 : Int32)) a0 = 9) (deR (mR (setA (setA (setI M4 a0 2 ((mI M a0 2) + x5)) q6 (Int32.toNatClampNeg (((12 : Int32) * (mI (setI M4 a0 2 ((mI M a0 2) + x5)) a0 4)) + l2)) l5) q7 (Int32.toNatClampNeg (((12 : Int32) * (mI (setI M4 a0 2 ((mI M a0 2) + x5)) a0 4)) + l2)) (0 : Int32)) a0 17) fun q8 => ckk (mC (setA (setA (setI M4 a0 2 ((mI M a0 2) + x5)) q6 (Int32.toNatClampNeg (((12 : Int32) * (mI (setI M4 a0 2 ((mI M a0 2) + x5)) a0 4)) + l2)) l5) q7 (Int32.toNatClampNeg (((12 : Int32) * (mI (setI M4 a0 2 ((mI M a0 2) + x5)) a0 4)) + l2)) (0 : Int32)) a0 = 9) (ckk (mC (setA (setA (setI M4 a0 2 ((mI M a0 2) + x5)) q6 (Int32.toNatClampNeg (((12 : Int32) * (mI (setI M4 a0 2 ((mI M a0 2) + x5)) a0 4)) + l2)) l5) q7 (Int32.toNatClampNeg (((12 : Int32) * (mI (setI M4 a0 2 ((mI M a0 2) + x5)) a0 4)) + l2)) (0 : Int32)) q8 = 100) (ckb (((12 : Int32) * (mI (setI M4 a0 2 ((mI M a0 2) + x5)) a0 4)) + l2) (mN (setA (setA (setI M4 a0 2 ((mI M a0 2) + x5)) q6 (Int32.toNatClampNeg (((12 : Int32) * (mI (setI M4 a0 2 ((mI M a0 2) + x5)) a0 4)) + l2)) l5) q7 (Int32.toNatClampNeg (((12 : Int32) * (mI (setI M4 a0 2 ((mI M a0 2) + x5)) a0 4)) + l2)) (0 : Int32)) q8) ((if l1 = (1 : Int32) then
        ((if l5 = (1 : Int32) then
          (rn jm_Ref_clause cl 180 [some (.ref a0), some (.int l1), some (.int l2), some (.int l3), some (.int l4), some (.int l5), some (.int (((12 : Int32) * (mI (setI M4 a0 2 ((mI M a0 2) + x5)) a0 4)) + l2))] [] (setA (setA (setA (setI M4 a0 2 ((mI M a0 2) + x5)) q6 (Int32.toNatClampNeg (((12 : Int32) * (mI (setI M4 a0 2 ((mI M a0 2) + x5)) a0 4)) + l2)) l5) q7 (Int32.toNatClampNeg (((12 : Int32) * (mI (setI M4 a0 2 ((mI M a0 2) + x5)) a0 4)) + l2)) (0 : Int32)) q8 (Int32.toNatClampNeg (((12 : Int32) * (mI (setI M4 a0 2 ((mI M a0 2) + x5)) a0 4)) + l2)) (mI (setA (setA (setI M4 a0 2 ((mI M a0 2) + x5)) q6 (Int32.toNatClampNeg (((12 : Int32) * (mI (setI M4 a0 2 ((mI M a0 2) + x5)) a0 4)) + l2)) l5) q7 (Int32.toNatClampNeg (((12 : Int32) * (mI (setI M4 a0 2 ((mI M a0 2) + x5)) a0 4)) + l2)) (0 : Int32)) a0 5))) else
          (rn jm_Ref_clause cl 187 [some (.ref a0), some (.int l1), some (.int l2), some (.int l3), some (.int l4), some (.int l5), some (.int (((12 : Int32) * (mI (setI M4 a0 2 ((mI M a0 2) + x5)) a0 4)) + l2))] [] (setA (setA (setA (setI M4 a0 2 ((mI M a0 2) + x5)) q6 (Int32.toNatClampNeg (((12 : Int32) * (mI (setI M4 a0 2 ((mI M a0 2) + x5)) a0 4)) + l2)) l5) q7 (Int32.toNatClampNeg (((12 : Int32) * (mI (setI M4 a0 2 ((mI M a0 2) + x5)) a0 4)) + l2)) (0 : Int32)) q8 (Int32.toNatClampNeg (((12 : Int32) * (mI (setI M4 a0 2 ((mI M a0 2) + x5)) a0 4)) + l2)) (mI (setA (setA (setI M4 a0 2 ((mI M a0 2) + x5)) q6 (Int32.toNatClampNeg (((12 : Int32) * (mI (setI M4 a0 2 ((mI M a0 2) + x5)) a0 4)) + l2)) l5) q7 (Int32.toNatClampNeg (((12 : Int32) * (mI (setI M4 a0 2 ((mI M a0 2) + x5)) a0 4)) + l2)) (0 : Int32)) a0 5))))) else
        ((if l5 = (0 : Int32) then
          (rn jm_Ref_clause cl 180 [some (.ref a0), some (.int l1), some (.int l2), some (.int l3), some (.int l4), some (.int l5), some (.int (((12 : Int32) * (mI (setI M4 a0 2 ((mI M a0 2) + x5)) a0 4)) + l2))] [] (setA (setA (setA (setI M4 a0 2 ((mI M a0 2) + x5)) q6 (Int32.toNatClampNeg (((12 : Int32) * (mI (setI M4 a0 2 ((mI M a0 2) + x5)) a0 4)) + l2)) l5) q7 (Int32.toNatClampNeg (((12 : Int32) * (mI (setI M4 a0 2 ((mI M a0 2) + x5)) a0 4)) + l2)) (0 : Int32)) q8 (Int32.toNatClampNeg (((12 : Int32) * (mI (setI M4 a0 2 ((mI M a0 2) + x5)) a0 4)) + l2)) (mI (setA (setA (setI M4 a0 2 ((mI M a0 2) + x5)) q6 (Int32.toNatClampNeg (((12 : Int32) * (mI (setI M4 a0 2 ((mI M a0 2) + x5)) a0 4)) + l2)) l5) q7 (Int32.toNatClampNeg (((12 : Int32) * (mI (setI M4 a0 2 ((mI M a0 2) + x5)) a0 4)) + l2)) (0 : Int32)) a0 5))) else
          (rn jm_Ref_clause cl 187 [some (.ref a0), some (.int l1), some (.int l2), some (.int l3), some (.int l4), some (.int l5), some (.int (((12 : Int32) * (mI (setI M4 a0 2 ((mI M a0 2) + x5)) a0 4)) + l2))] [] (setA (setA (setA (setI M4 a0 2 ((mI M a0 2) + x5)) q6 (Int32.toNatClampNeg (((12 : Int32) * (mI (setI M4 a0 2 ((mI M a0 2) + x5)) a0 4)) + l2)) l5) q7 (Int32.toNatClampNeg (((12 : Int32) * (mI (setI M4 a0 2 ((mI M a0 2) + x5)) a0 4)) + l2)) (0 : Int32)) q8 (Int32.toNatClampNeg (((12 : Int32) * (mI (setI M4 a0 2 ((mI M a0 2) + x5)) a0 4)) + l2)) (mI (setA (setA (setI M4 a0 2 ((mI M a0 2) + x5)) q6 (Int32.toNatClampNeg (((12 : Int32) * (mI (setI M4 a0 2 ((mI M a0 2) + x5)) a0 4)) + l2)) l5) q7 (Int32.toNatClampNeg (((12 : Int32) * (mI (setI M4 a0 2 ((mI M a0 2) + x5)) a0 4)) + l2)) (0 : Int32)) a0 5))))))))))))))))))))) :=
  tr_eb [20, 25, 51, 87, 97, 104, 180, 187, 204, 251, 283] 40 rfl
set_option maxRecDepth 100000 in
theorem eq_Ref_clause_180 (cl : Nat → List Value → ej_Mem → Option ej_R) (a0 : Nat) (l1 : Int32) (l2 : Int32) (l3 : Int32) (l4 : Int32) (l5 : Int32) (l6 : Int32) (M : ej_Mem) : rn jm_Ref_clause cl 180 [some (.ref a0), some (.int l1), some (.int l2), some (.int l3), some (.int l4), some (.int l5), some (.int l6)] [] M =
    ckk (mC M a0 = 9) (bkV (cl jm_Ref_test [.ref a0] M) fun M1 =>
    rn jm_Ref_clause cl 283 [some (.ref a0), some (.int l1), some (.int l2), some (.int l3), some (.int l4), some (.int l5), some (.int l6)] [] M1) :=
  tr_eb [20, 25, 51, 87, 97, 104, 180, 187, 204, 251, 283] 4 rfl
set_option maxRecDepth 100000 in
theorem eq_Ref_clause_187 (cl : Nat → List Value → ej_Mem → Option ej_R) (a0 : Nat) (l1 : Int32) (l2 : Int32) (l3 : Int32) (l4 : Int32) (l5 : Int32) (l6 : Int32) (M : ej_Mem) : rn jm_Ref_clause cl 187 [some (.ref a0), some (.int l1), some (.int l2), some (.int l3), some (.int l4), some (.int l5), some (.int l6)] [] M =
    (if l1 = (1 : Int32) then
      (rn jm_Ref_clause cl 204 [some (.ref a0), some (.int l1), some (.int l2), some (.int l3), some (.int l4), some (.int l5), some (.int l6)] [] M) else
      ((if l5 = (1 : Int32) then
        (rn jm_Ref_clause cl 204 [some (.ref a0), some (.int l1), some (.int l2), some (.int l3), some (.int l4), some (.int l5), some (.int l6)] [] M) else
        ((if l5 = (2 : Int32) then
          (rn jm_Ref_clause cl 204 [some (.ref a0), some (.int l1), some (.int l2), some (.int l3), some (.int l4), some (.int l5), some (.int l6)] [] M) else
          (ckk (mC M a0 = 9) (deR (mR M a0 16) fun q1 => (if l5 = (3 : Int32) then
            (rn jm_Ref_clause cl 251 [some (.ref a0), some (.int l1), some (.int l2), some (.int l3), some (.int l4), some (.int l5), some (.int l6)] [.int (999 : Int32), .ref a0, .int l6, .ref q1] M) else
            ((if l5 = (4 : Int32) then
              (rn jm_Ref_clause cl 251 [some (.ref a0), some (.int l1), some (.int l2), some (.int l3), some (.int l4), some (.int l5), some (.int l6)] [.int (9999 : Int32), .ref a0, .int l6, .ref q1] M) else
              (rn jm_Ref_clause cl 251 [some (.ref a0), some (.int l1), some (.int l2), some (.int l3), some (.int l4), some (.int l5), some (.int l6)] [.int (15 : Int32), .ref a0, .int l6, .ref q1] M))))))))))) :=
  tr_eb [20, 25, 51, 87, 97, 104, 180, 187, 204, 251, 283] 22 rfl
set_option maxRecDepth 100000 in
theorem eq_Ref_clause_204 (cl : Nat → List Value → ej_Mem → Option ej_R) (a0 : Nat) (l1 : Int32) (l2 : Int32) (l3 : Int32) (l4 : Int32) (l5 : Int32) (l6 : Int32) (M : ej_Mem) : rn jm_Ref_clause cl 204 [some (.ref a0), some (.int l1), some (.int l2), some (.int l3), some (.int l4), some (.int l5), some (.int l6)] [] M =
    ckk (mC M a0 = 9) (deR (mR M a0 16) fun q1 => ckk (mC M a0 = 9) (bkI (cl jm_Ref_rights [.ref a0] M) fun x3 M2 =>
    ckk (mC M2 q1 = 100) (ckb l6 (mN M2 q1) (rn jm_Ref_clause cl 283 [some (.ref a0), some (.int l1), some (.int l2), some (.int l3), some (.int l4), some (.int l5), some (.int l6)] [] (setA M2 q1 (Int32.toNatClampNeg l6) x3))))) :=
  tr_eb [20, 25, 51, 87, 97, 104, 180, 187, 204, 251, 283] 8 rfl
set_option maxRecDepth 100000 in
theorem eq_Ref_clause_251 (cl : Nat → List Value → ej_Mem → Option ej_R) (a0 : Nat) (l1 : Int32) (l2 : Int32) (l3 : Int32) (l4 : Int32) (l5 : Int32) (l6 : Int32) (s0 : Nat) (s1 : Int32) (s2 : Nat) (s3 : Int32) (M : ej_Mem) : rn jm_Ref_clause cl 251 [some (.ref a0), some (.int l1), some (.int l2), some (.int l3), some (.int l4), some (.int l5), some (.int l6)] [.int s3, .ref s2, .int s1, .ref s0] M =
    ckk (mC M s2 = 9) (bkI (cl jm_Ref_amount [.ref s2, .int s3] M) fun x2 M1 =>
    ckk (mC M1 s0 = 100) (ckb s1 (mN M1 s0) ((if l5 = (6 : Int32) then
      (ckk (mC (setA M1 s0 (Int32.toNatClampNeg s1) x2) a0 = 9) ((if (mI (setA M1 s0 (Int32.toNatClampNeg s1) x2) a0 3) = (0 : Int32) then
        (ckk (mC (setA M1 s0 (Int32.toNatClampNeg s1) x2) a0 = 9) (bkI (cl jm_Ref_takes [.ref a0, .ref 30] (setA M1 s0 (Int32.toNatClampNeg s1) x2)) fun x4 M3 =>
        (if x4 = (0 : Int32) then
          (rn jm_Ref_clause cl 283 [some (.ref a0), some (.int l1), some (.int l2), some (.int l3), some (.int l4), some (.int l5), some (.int l6)] [] M3) else
          (ckk (mC M3 a0 = 9) (bkV (cl jm_Ref_test [.ref a0] M3) fun M5 =>
          rn jm_Ref_clause cl 283 [some (.ref a0), some (.int l1), some (.int l2), some (.int l3), some (.int l4), some (.int l5), some (.int l6)] [] M5))))) else
        (rn jm_Ref_clause cl 283 [some (.ref a0), some (.int l1), some (.int l2), some (.int l3), some (.int l4), some (.int l5), some (.int l6)] [] (setA M1 s0 (Int32.toNatClampNeg s1) x2))))) else
      (rn jm_Ref_clause cl 283 [some (.ref a0), some (.int l1), some (.int l2), some (.int l3), some (.int l4), some (.int l5), some (.int l6)] [] (setA M1 s0 (Int32.toNatClampNeg s1) x2)))))) :=
  tr_eb [20, 25, 51, 87, 97, 104, 180, 187, 204, 251, 283] 15 rfl
set_option maxRecDepth 100000 in
theorem eq_Ref_clause_283 (cl : Nat → List Value → ej_Mem → Option ej_R) (a0 : Nat) (l1 : Int32) (l2 : Int32) (l3 : Int32) (l4 : Int32) (l5 : Int32) (l6 : Int32) (M : ej_Mem) : rn jm_Ref_clause cl 283 [some (.ref a0), some (.int l1), some (.int l2), some (.int l3), some (.int l4), some (.int l5), some (.int l6)] [] M =
    ckk (mC M a0 = 9) (deR (mR M a0 18) fun q1 => ckk (mC M a0 = 9) (ckk (mC M q1 = 100) (ckb l6 (mN M q1) (some (none, (setA M q1 (Int32.toNatClampNeg l6) (mI M a0 5))))))) :=
  tr_eb [20, 25, 51, 87, 97, 104, 180, 187, 204, 251, 283] 7 rfl
theorem ca_Ref_clause (d : Nat) (a0 : Nat) (l1 : Int32) (l2 : Int32) (M : ej_Mem) : cal (d + 1) jm_Ref_clause [.ref a0, .int l1, .int l2] M = rn jm_Ref_clause (cal d) 0 [some (.ref a0), some (.int l1), some (.int l2), none, none, none, none] [] M := call_eq (show 3 ≤ 7 by decide)
set_option maxRecDepth 100000 in
theorem eq_Ref_clausesOf_0 (cl : Nat → List Value → ej_Mem → Option ej_R) (a0 : Nat) (l1 : Int32) (M : ej_Mem) : rn jm_Ref_clausesOf cl 0 [some (.ref a0), some (.int l1), none, none] [] M =
    rn jm_Ref_clausesOf cl 4 [some (.ref a0), some (.int l1), some (.int (0 : Int32)), some (.int (1 : Int32))] [] M :=
  tr_eb [4] 5 rfl
set_option maxRecDepth 100000 in
theorem eq_Ref_clausesOf_4 (cl : Nat → List Value → ej_Mem → Option ej_R) (a0 : Nat) (l1 : Int32) (l2 : Int32) (l3 : Int32) (M : ej_Mem) : rn jm_Ref_clausesOf cl 4 [some (.ref a0), some (.int l1), some (.int l2), some (.int l3)] [] M =
    (if l3 = (0 : Int32) then
      (some (some (.int l2), M)) else
      (ckk (mC M a0 = 9) (bkV (cl jm_Ref_clause [.ref a0, .int l1, .int l2] M) fun M1 =>
      ckk (mC M1 a0 = 9) (bkV (cl jm_Ref_blanks [.ref a0] M1) fun M2 =>
      ckk (mC M2 a0 = 9) ((if (mI M2 a0 3) = (0 : Int32) then
        (ckk (mC M2 a0 = 9) (ckk (mC M2 a0 = 9) ((if (mI M2 a0 1) ≤ (mI M2 a0 2) then
          (ckk (mC M2 a0 = 9) ((if (mI M2 a0 3) = (0 : Int32) then
            (ckk (mC M2 a0 = 9) (ckk (mC M2 a0 = 9) ((if (mI M2 a0 1) ≤ (mI M2 a0 2) then
              (ckk (mC M2 a0 = 9) (ckk (mC M2 a0 = 9) (rn jm_Ref_clausesOf cl 4 [some (.ref a0), some (.int l1), some (.int (l2 + (1 : Int32))), some (.int (0 : Int32))] [] (setI M2 a0 2 ((mI M2 a0 2) + (1 : Int32)))))) else
              (ckk (mC M2 a0 = 9) (ckk (mC M2 a0 = 9) (rn jm_Ref_clausesOf cl 4 [some (.ref a0), some (.int l1), some (.int (l2 + (1 : Int32))), some (.int (1 : Int32))] [] (setI M2 a0 2 ((mI M2 a0 2) + (1 : Int32)))))))))) else
            (ckk (mC M2 a0 = 9) (ckk (mC M2 a0 = 9) (rn jm_Ref_clausesOf cl 4 [some (.ref a0), some (.int l1), some (.int (l2 + (1 : Int32))), some (.int (0 : Int32))] [] (setI M2 a0 2 ((mI M2 a0 2) + (1 : Int32))))))))) else
          (ckk (mC M2 a0 = 9) (bkI (cl jm_Ref_sign [.ref a0] M2) fun x4 M3 =>
          (if x4 = (59 : Int32) then
            (ckk (mC M3 a0 = 9) ((if (mI M3 a0 3) = (0 : Int32) then
              (ckk (mC M3 a0 = 9) (ckk (mC M3 a0 = 9) ((if (mI M3 a0 1) ≤ (mI M3 a0 2) then
                (ckk (mC M3 a0 = 9) (ckk (mC M3 a0 = 9) (rn jm_Ref_clausesOf cl 4 [some (.ref a0), some (.int l1), some (.int (l2 + (1 : Int32))), some (.int (0 : Int32))] [] (setI M3 a0 2 ((mI M3 a0 2) + (1 : Int32)))))) else
                (ckk (mC M3 a0 = 9) (ckk (mC M3 a0 = 9) (rn jm_Ref_clausesOf cl 4 [some (.ref a0), some (.int l1), some (.int (l2 + (1 : Int32))), some (.int (1 : Int32))] [] (setI M3 a0 2 ((mI M3 a0 2) + (1 : Int32)))))))))) else
              (ckk (mC M3 a0 = 9) (ckk (mC M3 a0 = 9) (rn jm_Ref_clausesOf cl 4 [some (.ref a0), some (.int l1), some (.int (l2 + (1 : Int32))), some (.int (0 : Int32))] [] (setI M3 a0 2 ((mI M3 a0 2) + (1 : Int32))))))))) else
            (ckk (mC M3 a0 = 9) (ckk (mC M3 a0 = 9) (bkV (cl jm_Ref_fails [.ref a0, .int (0 : Int32), .int (mI M3 a0 2)] M3) fun M5 =>
            ckk (mC M5 a0 = 9) ((if (mI M5 a0 3) = (0 : Int32) then
              (ckk (mC M5 a0 = 9) (ckk (mC M5 a0 = 9) ((if (mI M5 a0 1) ≤ (mI M5 a0 2) then
                (ckk (mC M5 a0 = 9) (ckk (mC M5 a0 = 9) (rn jm_Ref_clausesOf cl 4 [some (.ref a0), some (.int l1), some (.int (l2 + (1 : Int32))), some (.int (0 : Int32))] [] (setI M5 a0 2 ((mI M5 a0 2) + (1 : Int32)))))) else
                (ckk (mC M5 a0 = 9) (ckk (mC M5 a0 = 9) (rn jm_Ref_clausesOf cl 4 [some (.ref a0), some (.int l1), some (.int (l2 + (1 : Int32))), some (.int (1 : Int32))] [] (setI M5 a0 2 ((mI M5 a0 2) + (1 : Int32)))))))))) else
              (ckk (mC M5 a0 = 9) (ckk (mC M5 a0 = 9) (rn jm_Ref_clausesOf cl 4 [some (.ref a0), some (.int l1), some (.int (l2 + (1 : Int32))), some (.int (0 : Int32))] [] (setI M5 a0 2 ((mI M5 a0 2) + (1 : Int32)))))))))))))))))) else
        (ckk (mC M2 a0 = 9) ((if (mI M2 a0 3) = (0 : Int32) then
          (ckk (mC M2 a0 = 9) (ckk (mC M2 a0 = 9) ((if (mI M2 a0 1) ≤ (mI M2 a0 2) then
            (ckk (mC M2 a0 = 9) (ckk (mC M2 a0 = 9) (rn jm_Ref_clausesOf cl 4 [some (.ref a0), some (.int l1), some (.int (l2 + (1 : Int32))), some (.int (0 : Int32))] [] (setI M2 a0 2 ((mI M2 a0 2) + (1 : Int32)))))) else
            (ckk (mC M2 a0 = 9) (ckk (mC M2 a0 = 9) (rn jm_Ref_clausesOf cl 4 [some (.ref a0), some (.int l1), some (.int (l2 + (1 : Int32))), some (.int (1 : Int32))] [] (setI M2 a0 2 ((mI M2 a0 2) + (1 : Int32)))))))))) else
          (ckk (mC M2 a0 = 9) (ckk (mC M2 a0 = 9) (rn jm_Ref_clausesOf cl 4 [some (.ref a0), some (.int l1), some (.int (l2 + (1 : Int32))), some (.int (0 : Int32))] [] (setI M2 a0 2 ((mI M2 a0 2) + (1 : Int32))))))))))))))) :=
  tr_eb [4] 45 rfl
theorem ca_Ref_clausesOf (d : Nat) (a0 : Nat) (l1 : Int32) (M : ej_Mem) : cal (d + 1) jm_Ref_clausesOf [.ref a0, .int l1] M = rn jm_Ref_clausesOf (cal d) 0 [some (.ref a0), some (.int l1), none, none] [] M := call_eq (show 2 ≤ 4 by decide)
set_option maxRecDepth 100000 in
theorem eq_Ref_text_0 (cl : Nat → List Value → ej_Mem → Option ej_R) (a0 : Nat) (l1 : Int32) (M : ej_Mem) : rn jm_Ref_text cl 0 [some (.ref a0), some (.int l1), none] [] M =
    bkI (cl jm_Ref_in [.long (Int32.toInt64 l1), .long (0 : Int64), .long (3 : Int64)] M) fun x2 M1 =>
    (if x2 = (0 : Int32) then
      (some (some (.int (-1 : Int32)), M1)) else
      (ckk (mC M1 a0 = 9) (deR (mR M1 a0 11) fun q3 => ckk (mC M1 q3 = 100) (ckb l1 (mN M1 q3) (bkI (cl jm_Ref_mostOf [.int l1] M1) fun x5 M4 =>
      (if (aI M1 q3 (Int32.toNatClampNeg l1)) = x5 then
        (some (some (.int (-1 : Int32)), M4)) else
        (ckk (mC M4 a0 = 9) (deR (mR M4 a0 11) fun q6 => ckk (mC M4 q6 = 100) (ckb l1 (mN M4 q6) (bkI (cl jm_Ref_slotOf [.int l1, .int (aI M4 q6 (Int32.toNatClampNeg l1))] M4) fun x8 M7 =>
        ckk (mC M7 a0 = 9) (rn jm_Ref_text cl 41 [some (.ref a0), some (.int l1), none] [] (setI M7 a0 4 x8)))))))))))) :=
  tr_eb [41, 46, 51, 56, 61, 66, 95, 115, 151, 176, 192, 206, 216] 22 rfl
set_option maxRecDepth 100000 in
theorem eq_Ref_text_41 (cl : Nat → List Value → ej_Mem → Option ej_R) (a0 : Nat) (l1 : Int32) (o2 : Option Value) (M : ej_Mem) : rn jm_Ref_text cl 41 [some (.ref a0), some (.int l1), o2] [] M =
    ckk (mC M a0 = 9) (rn jm_Ref_text cl 46 [some (.ref a0), some (.int l1), o2] [] (setI M a0 2 (0 : Int32))) :=
  tr_eb [41, 46, 51, 56, 61, 66, 95, 115, 151, 176, 192, 206, 216] 4 rfl
set_option maxRecDepth 100000 in
theorem eq_Ref_text_46 (cl : Nat → List Value → ej_Mem → Option ej_R) (a0 : Nat) (l1 : Int32) (o2 : Option Value) (M : ej_Mem) : rn jm_Ref_text cl 46 [some (.ref a0), some (.int l1), o2] [] M =
    ckk (mC M a0 = 9) (rn jm_Ref_text cl 51 [some (.ref a0), some (.int l1), o2] [] (setI M a0 3 (0 : Int32))) :=
  tr_eb [41, 46, 51, 56, 61, 66, 95, 115, 151, 176, 192, 206, 216] 4 rfl
set_option maxRecDepth 100000 in
theorem eq_Ref_text_51 (cl : Nat → List Value → ej_Mem → Option ej_R) (a0 : Nat) (l1 : Int32) (o2 : Option Value) (M : ej_Mem) : rn jm_Ref_text cl 51 [some (.ref a0), some (.int l1), o2] [] M =
    ckk (mC M a0 = 9) (rn jm_Ref_text cl 56 [some (.ref a0), some (.int l1), o2] [] (setI M a0 5 (0 : Int32))) :=
  tr_eb [41, 46, 51, 56, 61, 66, 95, 115, 151, 176, 192, 206, 216] 4 rfl
set_option maxRecDepth 100000 in
theorem eq_Ref_text_56 (cl : Nat → List Value → ej_Mem → Option ej_R) (a0 : Nat) (l1 : Int32) (o2 : Option Value) (M : ej_Mem) : rn jm_Ref_text cl 56 [some (.ref a0), some (.int l1), o2] [] M =
    ckk (mC M a0 = 9) (rn jm_Ref_text cl 61 [some (.ref a0), some (.int l1), o2] [] (setI M a0 6 (0 : Int32))) :=
  tr_eb [41, 46, 51, 56, 61, 66, 95, 115, 151, 176, 192, 206, 216] 4 rfl
set_option maxRecDepth 100000 in
theorem eq_Ref_text_61 (cl : Nat → List Value → ej_Mem → Option ej_R) (a0 : Nat) (l1 : Int32) (o2 : Option Value) (M : ej_Mem) : rn jm_Ref_text cl 61 [some (.ref a0), some (.int l1), o2] [] M =
    ckk (mC M a0 = 9) (rn jm_Ref_text cl 66 [some (.ref a0), some (.int l1), o2] [] (setI M a0 7 (0 : Int32))) :=
  tr_eb [41, 46, 51, 56, 61, 66, 95, 115, 151, 176, 192, 206, 216] 4 rfl
set_option maxRecDepth 100000 in
theorem eq_Ref_text_66 (cl : Nat → List Value → ej_Mem → Option ej_R) (a0 : Nat) (l1 : Int32) (o2 : Option Value) (M : ej_Mem) : rn jm_Ref_text cl 66 [some (.ref a0), some (.int l1), o2] [] M =
    (if (2 : Int32) ≤ l1 then
      (ckk (mC M a0 = 9) (deR (mR M a0 17) fun q1 => ckk (mC M a0 = 9) (ckk (mC M q1 = 100) (ckb ((12 : Int32) * (mI M a0 4)) (mN M q1) (rn jm_Ref_text cl 95 [some (.ref a0), some (.int l1), some (.int (1 : Int32))] [] (setA M q1 (Int32.toNatClampNeg ((12 : Int32) * (mI M a0 4))) (0 : Int32))))))) else
      (ckk (mC M a0 = 9) (bkI (cl jm_Ref_clausesOf [.ref a0, .int l1] M) fun x3 M2 =>
      ckk (mC M2 a0 = 9) (rn jm_Ref_text cl 151 [some (.ref a0), some (.int l1), some (.int x3)] [] (setI M2 a0 1 (0 : Int32)))))) :=
  tr_eb [41, 46, 51, 56, 61, 66, 95, 115, 151, 176, 192, 206, 216] 14 rfl
set_option maxRecDepth 100000 in
theorem eq_Ref_text_95 (cl : Nat → List Value → ej_Mem → Option ej_R) (a0 : Nat) (l1 : Int32) (l2 : Int32) (M : ej_Mem) : rn jm_Ref_text cl 95 [some (.ref a0), some (.int l1), some (.int l2)] [] M =
    ckk (mC M a0 = 9) (bkV (cl jm_Ref_test [.ref a0] M) fun M1 =>
    ckk (mC M1 a0 = 9) (deR (mR M1 a0 18) fun q2 => ckk (mC M1 a0 = 9) (ckk (mC M1 a0 = 9) (ckk (mC M1 q2 = 100) (ckb ((12 : Int32) * (mI M1 a0 4)) (mN M1 q2) (rn jm_Ref_text cl 115 [some (.ref a0), some (.int l1), some (.int l2)] [] (setA M1 q2 (Int32.toNatClampNeg ((12 : Int32) * (mI M1 a0 4))) (mI M1 a0 5)))))))) :=
  tr_eb [41, 46, 51, 56, 61, 66, 95, 115, 151, 176, 192, 206, 216] 12 rfl
set_option maxRecDepth 100000 in
theorem eq_Ref_text_115 (cl : Nat → List Value → ej_Mem → Option ej_R) (a0 : Nat) (l1 : Int32) (l2 : Int32) (M : ej_Mem) : rn jm_Ref_text cl 115 [some (.ref a0), some (.int l1), some (.int l2)] [] M =
    ckk (mC M a0 = 9) (bkV (cl jm_Ref_blanks [.ref a0] M) fun M1 =>
    ckk (mC M1 a0 = 9) ((if (mI M1 a0 3) = (0 : Int32) then
      (ckk (mC M1 a0 = 9) (ckk (mC M1 a0 = 9) ((if (mI M1 a0 1) ≤ (mI M1 a0 2) then
        (ckk (mC M1 a0 = 9) (rn jm_Ref_text cl 151 [some (.ref a0), some (.int l1), some (.int l2)] [] (setI M1 a0 1 (0 : Int32)))) else
        (ckk (mC M1 a0 = 9) (ckk (mC M1 a0 = 9) (bkV (cl jm_Ref_fails [.ref a0, .int (0 : Int32), .int (mI M1 a0 2)] M1) fun M2 =>
        ckk (mC M2 a0 = 9) (rn jm_Ref_text cl 151 [some (.ref a0), some (.int l1), some (.int l2)] [] (setI M2 a0 1 (0 : Int32)))))))))) else
      (ckk (mC M1 a0 = 9) (rn jm_Ref_text cl 151 [some (.ref a0), some (.int l1), some (.int l2)] [] (setI M1 a0 1 (0 : Int32))))))) :=
  tr_eb [41, 46, 51, 56, 61, 66, 95, 115, 151, 176, 192, 206, 216] 19 rfl
set_option maxRecDepth 100000 in
theorem eq_Ref_text_151 (cl : Nat → List Value → ej_Mem → Option ej_R) (a0 : Nat) (l1 : Int32) (l2 : Int32) (M : ej_Mem) : rn jm_Ref_text cl 151 [some (.ref a0), some (.int l1), some (.int l2)] [] M =
    ckk (mC M a0 = 9) ((if (mI M a0 3) ≤ (0 : Int32) then
      (ckk (mC M a0 = 9) (deR (mR M a0 14) fun q1 => ckk (mC M a0 = 9) (ckk (mC M q1 = 100) (ckb (mI M a0 4) (mN M q1) (rn jm_Ref_text cl 176 [some (.ref a0), some (.int l1), some (.int l2)] [] (setA M q1 (Int32.toNatClampNeg (mI M a0 4)) l2)))))) else
      (ckk (mC M a0 = 9) (some (some (.int ((-2 : Int32) - (mI M a0 3))), M))))) :=
  tr_eb [41, 46, 51, 56, 61, 66, 95, 115, 151, 176, 192, 206, 216] 10 rfl
set_option maxRecDepth 100000 in
theorem eq_Ref_text_176 (cl : Nat → List Value → ej_Mem → Option ej_R) (a0 : Nat) (l1 : Int32) (l2 : Int32) (M : ej_Mem) : rn jm_Ref_text cl 176 [some (.ref a0), some (.int l1), some (.int l2)] [] M =
    (if l1 = (0 : Int32) then
      (ckk (mC M a0 = 9) (deR (mR M a0 20) fun q1 => ckk (mC M a0 = 9) (deR (mR M a0 11) fun q2 => ckk (mC M q2 = 100) (ckb (0 : Int32) (mN M q2) (ckk (mC M q1 = 100) (ckb (aI M q2 (Int32.toNatClampNeg (0 : Int32))) (mN M q1) (rn jm_Ref_text cl 192 [some (.ref a0), some (.int l1), some (.int l2)] [] (setA M q1 (Int32.toNatClampNeg (aI M q2 (Int32.toNatClampNeg (0 : Int32)))) (0 : Int32))))))))) else
      (rn jm_Ref_text cl 206 [some (.ref a0), some (.int l1), some (.int l2)] [] M)) :=
  tr_eb [41, 46, 51, 56, 61, 66, 95, 115, 151, 176, 192, 206, 216] 11 rfl
set_option maxRecDepth 100000 in
theorem eq_Ref_text_192 (cl : Nat → List Value → ej_Mem → Option ej_R) (a0 : Nat) (l1 : Int32) (l2 : Int32) (M : ej_Mem) : rn jm_Ref_text cl 192 [some (.ref a0), some (.int l1), some (.int l2)] [] M =
    ckk (mC M a0 = 9) (deR (mR M a0 21) fun q1 => ckk (mC M a0 = 9) (deR (mR M a0 11) fun q2 => ckk (mC M q2 = 100) (ckb (0 : Int32) (mN M q2) (ckk (mC M q1 = 100) (ckb (aI M q2 (Int32.toNatClampNeg (0 : Int32))) (mN M q1) (rn jm_Ref_text cl 206 [some (.ref a0), some (.int l1), some (.int l2)] [] (setA M q1 (Int32.toNatClampNeg (aI M q2 (Int32.toNatClampNeg (0 : Int32)))) (2999 : Int32)))))))) :=
  tr_eb [41, 46, 51, 56, 61, 66, 95, 115, 151, 176, 192, 206, 216] 9 rfl
set_option maxRecDepth 100000 in
theorem eq_Ref_text_206 (cl : Nat → List Value → ej_Mem → Option ej_R) (a0 : Nat) (l1 : Int32) (l2 : Int32) (M : ej_Mem) : rn jm_Ref_text cl 206 [some (.ref a0), some (.int l1), some (.int l2)] [] M =
    ckk (mC M a0 = 9) (deR (mR M a0 11) fun q1 => ckk (mC M q1 = 100) (ckb l1 (mN M q1) (ckk (mC M q1 = 100) (ckb l1 (mN M q1) (rn jm_Ref_text cl 216 [some (.ref a0), some (.int l1), some (.int l2)] [] (setA M q1 (Int32.toNatClampNeg l1) ((aI M q1 (Int32.toNatClampNeg l1)) + (1 : Int32)))))))) :=
  tr_eb [41, 46, 51, 56, 61, 66, 95, 115, 151, 176, 192, 206, 216] 9 rfl
set_option maxRecDepth 100000 in
theorem eq_Ref_text_216 (cl : Nat → List Value → ej_Mem → Option ej_R) (a0 : Nat) (l1 : Int32) (l2 : Int32) (M : ej_Mem) : rn jm_Ref_text cl 216 [some (.ref a0), some (.int l1), some (.int l2)] [] M =
    ckk (mC M a0 = 9) (deR (mR M a0 11) fun q1 => ckk (mC M q1 = 100) (ckb l1 (mN M q1) (some (some (.int ((aI M q1 (Int32.toNatClampNeg l1)) - (1 : Int32))), M)))) :=
  tr_eb [41, 46, 51, 56, 61, 66, 95, 115, 151, 176, 192, 206, 216] 7 rfl
theorem ca_Ref_text (d : Nat) (a0 : Nat) (l1 : Int32) (M : ej_Mem) : cal (d + 1) jm_Ref_text [.ref a0, .int l1] M = rn jm_Ref_text (cal d) 0 [some (.ref a0), some (.int l1), none] [] M := call_eq (show 2 ≤ 3 by decide)
set_option maxRecDepth 100000 in
theorem eq_Ref_has_0 (cl : Nat → List Value → ej_Mem → Option ej_R) (a0 : Nat) (l1 : Int32) (l2 : Int32) (M : ej_Mem) : rn jm_Ref_has cl 0 [some (.ref a0), some (.int l1), some (.int l2)] [] M =
    ckk (mC M a0 = 9) (deR (mR M a0 11) fun q1 => ckk (mC M q1 = 100) (ckb l1 (mN M q1) (bkI (cl jm_Ref_in [.long (Int32.toInt64 l2), .long (0 : Int64), .long (Int32.toInt64 ((aI M q1 (Int32.toNatClampNeg l1)) - (1 : Int32)))] M) fun x3 M2 =>
    ckk (x3 = 0 ∨ x3 = 1) (some (some (.int x3), M2))))) :=
  tr_eb [] 12 rfl
theorem ca_Ref_has (d : Nat) (a0 : Nat) (l1 : Int32) (l2 : Int32) (M : ej_Mem) : cal (d + 1) jm_Ref_has [.ref a0, .int l1, .int l2] M = rn jm_Ref_has (cal d) 0 [some (.ref a0), some (.int l1), some (.int l2)] [] M := call_eq (show 3 ≤ 3 by decide)
set_option maxRecDepth 100000 in
theorem eq_Ref_counts_0 (cl : Nat → List Value → ej_Mem → Option ej_R) (l0 : Int32) (l1 : Int32) (l2 : Int32) (M : ej_Mem) : rn jm_Ref_counts cl 0 [some (.int l0), some (.int l1), some (.int l2), none, none] [] M =
    bkI (cl jm_Ref_bits [.int ((l1 &&& (16777215 : Int32)) &&& l2)] M) fun x2 M1 =>
    (if l0 = (0 : Int32) then
      ((if x2 = (1 : Int32) then
        (ckk ((1 : Int32) = 0 ∨ (1 : Int32) = 1) (some (some (.int (1 : Int32)), M1))) else
        (ckk ((0 : Int32) = 0 ∨ (0 : Int32) = 1) (some (some (.int (0 : Int32)), M1))))) else if l0 = (1 : Int32) then
      ((if x2 ≤ (l1 >>> ((24 : Int32) &&& 31)) then
        (ckk ((0 : Int32) = 0 ∨ (0 : Int32) = 1) (some (some (.int (0 : Int32)), M1))) else
        (ckk ((1 : Int32) = 0 ∨ (1 : Int32) = 1) (some (some (.int (1 : Int32)), M1))))) else if l0 = (2 : Int32) then
      ((if x2 ≤ (l1 >>> ((24 : Int32) &&& 31)) then
        (ckk ((0 : Int32) = 0 ∨ (0 : Int32) = 1) (some (some (.int (0 : Int32)), M1))) else
        (ckk ((1 : Int32) = 0 ∨ (1 : Int32) = 1) (some (some (.int (1 : Int32)), M1))))) else if l0 = (3 : Int32) then
      ((if x2 ≤ (l1 >>> ((24 : Int32) &&& 31)) then
        (ckk ((0 : Int32) = 0 ∨ (0 : Int32) = 1) (some (some (.int (0 : Int32)), M1))) else
        (ckk ((1 : Int32) = 0 ∨ (1 : Int32) = 1) (some (some (.int (1 : Int32)), M1))))) else if l0 = (4 : Int32) then
      ((if (l1 >>> ((24 : Int32) &&& 31)) ≤ x2 then
        (ckk ((0 : Int32) = 0 ∨ (0 : Int32) = 1) (some (some (.int (0 : Int32)), M1))) else
        (ckk ((1 : Int32) = 0 ∨ (1 : Int32) = 1) (some (some (.int (1 : Int32)), M1))))) else if l0 = (5 : Int32) then
      ((if (l1 >>> ((24 : Int32) &&& 31)) < x2 then
        (ckk ((0 : Int32) = 0 ∨ (0 : Int32) = 1) (some (some (.int (0 : Int32)), M1))) else
        (ckk ((1 : Int32) = 0 ∨ (1 : Int32) = 1) (some (some (.int (1 : Int32)), M1))))) else if l0 = (6 : Int32) then
      ((if x2 = (l1 >>> ((24 : Int32) &&& 31)) then
        (ckk ((1 : Int32) = 0 ∨ (1 : Int32) = 1) (some (some (.int (1 : Int32)), M1))) else
        (ckk ((0 : Int32) = 0 ∨ (0 : Int32) = 1) (some (some (.int (0 : Int32)), M1))))) else if l0 = (7 : Int32) then
      ((if x2 < (l1 >>> ((24 : Int32) &&& 31)) then
        (ckk ((0 : Int32) = 0 ∨ (0 : Int32) = 1) (some (some (.int (0 : Int32)), M1))) else
        (ckk ((1 : Int32) = 0 ∨ (1 : Int32) = 1) (some (some (.int (1 : Int32)), M1))))) else ((if x2 ≤ (l1 >>> ((24 : Int32) &&& 31)) then
        (ckk ((0 : Int32) = 0 ∨ (0 : Int32) = 1) (some (some (.int (0 : Int32)), M1))) else
        (ckk ((1 : Int32) = 0 ∨ (1 : Int32) = 1) (some (some (.int (1 : Int32)), M1)))))) :=
  tr_eb [] 19 rfl
theorem ca_Ref_counts (d : Nat) (l0 : Int32) (l1 : Int32) (l2 : Int32) (M : ej_Mem) : cal (d + 1) jm_Ref_counts [.int l0, .int l1, .int l2] M = rn jm_Ref_counts (cal d) 0 [some (.int l0), some (.int l1), some (.int l2), none, none] [] M := call_eq (show 3 ≤ 5 by decide)
set_option maxRecDepth 100000 in
theorem eq_Ref_isTrue_0 (cl : Nat → List Value → ej_Mem → Option ej_R) (a0 : Nat) (l1 : Int32) (l2 : Int32) (M : ej_Mem) : rn jm_Ref_isTrue cl 0 [some (.ref a0), some (.int l1), some (.int l2), none, none, none, none] [] M =
    ckk (¬ (12 : Int32) = 0) (ckk (mC M a0 = 9) (deR (mR M a0 17) fun q1 => ckk (mC M q1 = 100) (ckb l1 (mN M q1) (rn jm_Ref_isTrue cl 22 [some (.ref a0), some (.int l1), some (.int l2), some (.int ((200 : Int32) * (l1 / (12 : Int32)))), some (.int (0 : Int32)), some (.int (((200 : Int32) * (l1 / (12 : Int32))) + (aI M q1 (Int32.toNatClampNeg l1)))), none] [] M)))) :=
  tr_eb [22] 16 rfl
set_option maxRecDepth 100000 in
theorem eq_Ref_isTrue_22 (cl : Nat → List Value → ej_Mem → Option ej_R) (a0 : Nat) (l1 : Int32) (l2 : Int32) (l3 : Int32) (l4 : Int32) (l5 : Int32) (o6 : Option Value) (M : ej_Mem) : rn jm_Ref_isTrue cl 22 [some (.ref a0), some (.int l1), some (.int l2), some (.int l3), some (.int l4), some (.int l5), o6] [] M =
    ckk (mC M a0 = 9) (deR (mR M a0 18) fun q1 => ckk (mC M q1 = 100) (ckb l1 (mN M q1) ((if (l3 + (aI M q1 (Int32.toNatClampNeg l1))) ≤ l5 then
      (ckk (mC M a0 = 9) (deR (mR M a0 23) fun q2 => ckk (mC M q2 = 102) (ckb (0 : Int32) (mN M q2) (ckk ((aI M q2 (Int32.toNatClampNeg (0 : Int32))) = 0 ∨ (aI M q2 (Int32.toNatClampNeg (0 : Int32))) = 1) (some (some (.int (aI M q2 (Int32.toNatClampNeg (0 : Int32)))), M)))))) else
      (ckk (mC M a0 = 9) (deR (mR M a0 12) fun q3 => ckk (mC M q3 = 100) (ckb l5 (mN M q3) ((if (aI M q3 (Int32.toNatClampNeg l5)) = (9 : Int32) then
        (ckk (mC M a0 = 9) (deR (mR M a0 23) fun q18 => ckk (mC M a0 = 9) (deR (mR M a0 23) fun q19 => ckk (mC M q19 = 102) (ckb (l4 - (1 : Int32)) (mN M q19) ((if (aI M q19 (Int32.toNatClampNeg (l4 - (1 : Int32)))) = (0 : Int32) then
          (ckk (mC M q18 = 102) (ckb (l4 - (1 : Int32)) (mN M q18) (rn jm_Ref_isTrue cl 22 [some (.ref a0), some (.int l1), some (.int l2), some (.int l3), some (.int l4), some (.int (l5 + (1 : Int32))), some (.int (aI M q3 (Int32.toNatClampNeg l5)))] [] (setA M q18 (Int32.toNatClampNeg (l4 - (1 : Int32))) (vp_nar .boolean (1 : Int32)))))) else
          (ckk (mC M q18 = 102) (ckb (l4 - (1 : Int32)) (mN M q18) (rn jm_Ref_isTrue cl 22 [some (.ref a0), some (.int l1), some (.int l2), some (.int l3), some (.int l4), some (.int (l5 + (1 : Int32))), some (.int (aI M q3 (Int32.toNatClampNeg l5)))] [] (setA M q18 (Int32.toNatClampNeg (l4 - (1 : Int32))) (vp_nar .boolean (0 : Int32)))))))))))) else
        ((if (aI M q3 (Int32.toNatClampNeg l5)) = (10 : Int32) then
          (ckk (mC M a0 = 9) (deR (mR M a0 23) fun q4 => (if (aI M q3 (Int32.toNatClampNeg l5)) = (10 : Int32) then
            (ckk (mC M a0 = 9) (deR (mR M a0 23) fun q7 => ckk (mC M q7 = 102) (ckb ((l4 + (-1 : Int32)) - (1 : Int32)) (mN M q7) ((if (aI M q7 (Int32.toNatClampNeg ((l4 + (-1 : Int32)) - (1 : Int32)))) = (0 : Int32) then
              (ckk (mC M q4 = 102) (ckb ((l4 + (-1 : Int32)) - (1 : Int32)) (mN M q4) (rn jm_Ref_isTrue cl 22 [some (.ref a0), some (.int l1), some (.int l2), some (.int l3), some (.int (l4 + (-1 : Int32))), some (.int (l5 + (1 : Int32))), some (.int (aI M q3 (Int32.toNatClampNeg l5)))] [] (setA M q4 (Int32.toNatClampNeg ((l4 + (-1 : Int32)) - (1 : Int32))) (vp_nar .boolean (0 : Int32)))))) else
              (ckk (mC M a0 = 9) (deR (mR M a0 23) fun q8 => ckk (mC M q8 = 102) (ckb (l4 + (-1 : Int32)) (mN M q8) ((if (aI M q8 (Int32.toNatClampNeg (l4 + (-1 : Int32)))) = (0 : Int32) then
                (ckk (mC M q4 = 102) (ckb ((l4 + (-1 : Int32)) - (1 : Int32)) (mN M q4) (rn jm_Ref_isTrue cl 22 [some (.ref a0), some (.int l1), some (.int l2), some (.int l3), some (.int (l4 + (-1 : Int32))), some (.int (l5 + (1 : Int32))), some (.int (aI M q3 (Int32.toNatClampNeg l5)))] [] (setA M q4 (Int32.toNatClampNeg ((l4 + (-1 : Int32)) - (1 : Int32))) (vp_nar .boolean (0 : Int32)))))) else
                (ckk (mC M q4 = 102) (ckb ((l4 + (-1 : Int32)) - (1 : Int32)) (mN M q4) (rn jm_Ref_isTrue cl 22 [some (.ref a0), some (.int l1), some (.int l2), some (.int l3), some (.int (l4 + (-1 : Int32))), some (.int (l5 + (1 : Int32))), some (.int (aI M q3 (Int32.toNatClampNeg l5)))] [] (setA M q4 (Int32.toNatClampNeg ((l4 + (-1 : Int32)) - (1 : Int32))) (vp_nar .boolean (1 : Int32)))))))))))))))) else
            (ckk (mC M a0 = 9) (deR (mR M a0 23) fun q5 => ckk (mC M q5 = 102) (ckb ((l4 + (-1 : Int32)) - (1 : Int32)) (mN M q5) ((if (aI M q5 (Int32.toNatClampNeg ((l4 + (-1 : Int32)) - (1 : Int32)))) = (0 : Int32) then
              (ckk (mC M a0 = 9) (deR (mR M a0 23) fun q6 => ckk (mC M q6 = 102) (ckb (l4 + (-1 : Int32)) (mN M q6) ((if (aI M q6 (Int32.toNatClampNeg (l4 + (-1 : Int32)))) = (0 : Int32) then
                (ckk (mC M q4 = 102) (ckb ((l4 + (-1 : Int32)) - (1 : Int32)) (mN M q4) (rn jm_Ref_isTrue cl 22 [some (.ref a0), some (.int l1), some (.int l2), some (.int l3), some (.int (l4 + (-1 : Int32))), some (.int (l5 + (1 : Int32))), some (.int (aI M q3 (Int32.toNatClampNeg l5)))] [] (setA M q4 (Int32.toNatClampNeg ((l4 + (-1 : Int32)) - (1 : Int32))) (vp_nar .boolean (0 : Int32)))))) else
                (ckk (mC M q4 = 102) (ckb ((l4 + (-1 : Int32)) - (1 : Int32)) (mN M q4) (rn jm_Ref_isTrue cl 22 [some (.ref a0), some (.int l1), some (.int l2), some (.int l3), some (.int (l4 + (-1 : Int32))), some (.int (l5 + (1 : Int32))), some (.int (aI M q3 (Int32.toNatClampNeg l5)))] [] (setA M q4 (Int32.toNatClampNeg ((l4 + (-1 : Int32)) - (1 : Int32))) (vp_nar .boolean (1 : Int32))))))))))) else
              (ckk (mC M q4 = 102) (ckb ((l4 + (-1 : Int32)) - (1 : Int32)) (mN M q4) (rn jm_Ref_isTrue cl 22 [some (.ref a0), some (.int l1), some (.int l2), some (.int l3), some (.int (l4 + (-1 : Int32))), some (.int (l5 + (1 : Int32))), some (.int (aI M q3 (Int32.toNatClampNeg l5)))] [] (setA M q4 (Int32.toNatClampNeg ((l4 + (-1 : Int32)) - (1 : Int32))) (vp_nar .boolean (1 : Int32)))))))))))))) else
          ((if (aI M q3 (Int32.toNatClampNeg l5)) = (11 : Int32) then
            (ckk (mC M a0 = 9) (deR (mR M a0 23) fun q13 => (if (aI M q3 (Int32.toNatClampNeg l5)) = (10 : Int32) then
              (ckk (mC M a0 = 9) (deR (mR M a0 23) fun q16 => ckk (mC M q16 = 102) (ckb ((l4 + (-1 : Int32)) - (1 : Int32)) (mN M q16) ((if (aI M q16 (Int32.toNatClampNeg ((l4 + (-1 : Int32)) - (1 : Int32)))) = (0 : Int32) then
                (ckk (mC M q13 = 102) (ckb ((l4 + (-1 : Int32)) - (1 : Int32)) (mN M q13) (rn jm_Ref_isTrue cl 22 [some (.ref a0), some (.int l1), some (.int l2), some (.int l3), some (.int (l4 + (-1 : Int32))), some (.int (l5 + (1 : Int32))), some (.int (aI M q3 (Int32.toNatClampNeg l5)))] [] (setA M q13 (Int32.toNatClampNeg ((l4 + (-1 : Int32)) - (1 : Int32))) (vp_nar .boolean (0 : Int32)))))) else
                (ckk (mC M a0 = 9) (deR (mR M a0 23) fun q17 => ckk (mC M q17 = 102) (ckb (l4 + (-1 : Int32)) (mN M q17) ((if (aI M q17 (Int32.toNatClampNeg (l4 + (-1 : Int32)))) = (0 : Int32) then
                  (ckk (mC M q13 = 102) (ckb ((l4 + (-1 : Int32)) - (1 : Int32)) (mN M q13) (rn jm_Ref_isTrue cl 22 [some (.ref a0), some (.int l1), some (.int l2), some (.int l3), some (.int (l4 + (-1 : Int32))), some (.int (l5 + (1 : Int32))), some (.int (aI M q3 (Int32.toNatClampNeg l5)))] [] (setA M q13 (Int32.toNatClampNeg ((l4 + (-1 : Int32)) - (1 : Int32))) (vp_nar .boolean (0 : Int32)))))) else
                  (ckk (mC M q13 = 102) (ckb ((l4 + (-1 : Int32)) - (1 : Int32)) (mN M q13) (rn jm_Ref_isTrue cl 22 [some (.ref a0), some (.int l1), some (.int l2), some (.int l3), some (.int (l4 + (-1 : Int32))), some (.int (l5 + (1 : Int32))), some (.int (aI M q3 (Int32.toNatClampNeg l5)))] [] (setA M q13 (Int32.toNatClampNeg ((l4 + (-1 : Int32)) - (1 : Int32))) (vp_nar .boolean (1 : Int32)))))))))))))))) else
              (ckk (mC M a0 = 9) (deR (mR M a0 23) fun q14 => ckk (mC M q14 = 102) (ckb ((l4 + (-1 : Int32)) - (1 : Int32)) (mN M q14) ((if (aI M q14 (Int32.toNatClampNeg ((l4 + (-1 : Int32)) - (1 : Int32)))) = (0 : Int32) then
                (ckk (mC M a0 = 9) (deR (mR M a0 23) fun q15 => ckk (mC M q15 = 102) (ckb (l4 + (-1 : Int32)) (mN M q15) ((if (aI M q15 (Int32.toNatClampNeg (l4 + (-1 : Int32)))) = (0 : Int32) then
                  (ckk (mC M q13 = 102) (ckb ((l4 + (-1 : Int32)) - (1 : Int32)) (mN M q13) (rn jm_Ref_isTrue cl 22 [some (.ref a0), some (.int l1), some (.int l2), some (.int l3), some (.int (l4 + (-1 : Int32))), some (.int (l5 + (1 : Int32))), some (.int (aI M q3 (Int32.toNatClampNeg l5)))] [] (setA M q13 (Int32.toNatClampNeg ((l4 + (-1 : Int32)) - (1 : Int32))) (vp_nar .boolean (0 : Int32)))))) else
                  (ckk (mC M q13 = 102) (ckb ((l4 + (-1 : Int32)) - (1 : Int32)) (mN M q13) (rn jm_Ref_isTrue cl 22 [some (.ref a0), some (.int l1), some (.int l2), some (.int l3), some (.int (l4 + (-1 : Int32))), some (.int (l5 + (1 : Int32))), some (.int (aI M q3 (Int32.toNatClampNeg l5)))] [] (setA M q13 (Int32.toNatClampNeg ((l4 + (-1 : Int32)) - (1 : Int32))) (vp_nar .boolean (1 : Int32))))))))))) else
                (ckk (mC M q13 = 102) (ckb ((l4 + (-1 : Int32)) - (1 : Int32)) (mN M q13) (rn jm_Ref_isTrue cl 22 [some (.ref a0), some (.int l1), some (.int l2), some (.int l3), some (.int (l4 + (-1 : Int32))), some (.int (l5 + (1 : Int32))), some (.int (aI M q3 (Int32.toNatClampNeg l5)))] [] (setA M q13 (Int32.toNatClampNeg ((l4 + (-1 : Int32)) - (1 : Int32))) (vp_nar .boolean (1 : Int32)))))))))))))) else
            (ckk (mC M a0 = 9) (deR (mR M a0 23) fun q9 => ckk (mC M a0 = 9) (deR (mR M a0 13) fun q10 => ckk (mC M q10 = 100) (ckb l5 (mN M q10) (bkI (cl jm_Ref_counts [.int (aI M q3 (Int32.toNatClampNeg l5)), .int (aI M q10 (Int32.toNatClampNeg l5)), .int l2] M) fun x12 M11 =>
            ckk (mC M11 q9 = 102) (ckb l4 (mN M11 q9) (rn jm_Ref_isTrue cl 22 [some (.ref a0), some (.int l1), some (.int l2), some (.int l3), some (.int (l4 + (1 : Int32))), some (.int (l5 + (1 : Int32))), some (.int (aI M q3 (Int32.toNatClampNeg l5)))] [] (setA M11 q9 (Int32.toNatClampNeg l4) (vp_nar .boolean x12)))))))))))))))))))))) :=
  tr_eb [22] 50 rfl
theorem ca_Ref_isTrue (d : Nat) (a0 : Nat) (l1 : Int32) (l2 : Int32) (M : ej_Mem) : cal (d + 1) jm_Ref_isTrue [.ref a0, .int l1, .int l2] M = rn jm_Ref_isTrue (cal d) 0 [some (.ref a0), some (.int l1), some (.int l2), none, none, none, none] [] M := call_eq (show 3 ≤ 7 by decide)
set_option maxRecDepth 100000 in
theorem eq_Ref_open_0 (cl : Nat → List Value → ej_Mem → Option ej_R) (a0 : Nat) (l1 : Int32) (l2 : Int32) (l3 : Int32) (M : ej_Mem) : rn jm_Ref_open cl 0 [some (.ref a0), some (.int l1), some (.int l2), some (.int l3)] [] M =
    ckk (mC M a0 = 9) (bkI (cl jm_Ref_has [.ref a0, .int (0 : Int32), .int l1] M) fun x2 M1 =>
    (if x2 = (0 : Int32) then
      (ckk ((0 : Int32) = 0 ∨ (0 : Int32) = 1) (some (some (.int (0 : Int32)), M1))) else
      (bkI (cl jm_Ref_isYear [.int l2] M1) fun x4 M3 =>
      (if x4 = (0 : Int32) then
        (ckk ((0 : Int32) = 0 ∨ (0 : Int32) = 1) (some (some (.int (0 : Int32)), M3))) else
        (bkI (cl jm_Ref_in [.long (Int32.toInt64 l3), .long (Int32.toInt64 l2), .long (2999 : Int64)] M3) fun x6 M5 =>
        (if x6 = (0 : Int32) then
          (ckk ((0 : Int32) = 0 ∨ (0 : Int32) = 1) (some (some (.int (0 : Int32)), M5))) else
          (ckk (mC M5 a0 = 9) (deR (mR M5 a0 20) fun q7 => ckk (mC M5 q7 = 100) (ckb l1 (mN M5 q7) (ckk (mC (setA M5 q7 (Int32.toNatClampNeg l1) l2) a0 = 9) (deR (mR (setA M5 q7 (Int32.toNatClampNeg l1) l2) a0 21) fun q8 => ckk (mC (setA M5 q7 (Int32.toNatClampNeg l1) l2) q8 = 100) (ckb l1 (mN (setA M5 q7 (Int32.toNatClampNeg l1) l2) q8) (ckk ((1 : Int32) = 0 ∨ (1 : Int32) = 1) (some (some (.int (1 : Int32)), (setA (setA M5 q7 (Int32.toNatClampNeg l1) l2) q8 (Int32.toNatClampNeg l1) l3)))))))))))))))) :=
  tr_eb [] 27 rfl
theorem ca_Ref_open (d : Nat) (a0 : Nat) (l1 : Int32) (l2 : Int32) (l3 : Int32) (M : ej_Mem) : cal (d + 1) jm_Ref_open [.ref a0, .int l1, .int l2, .int l3] M = rn jm_Ref_open (cal d) 0 [some (.ref a0), some (.int l1), some (.int l2), some (.int l3)] [] M := call_eq (show 4 ≤ 4 by decide)
set_option maxRecDepth 100000 in
theorem eq_Ref_force_0 (cl : Nat → List Value → ej_Mem → Option ej_R) (a0 : Nat) (l1 : Int32) (M : ej_Mem) : rn jm_Ref_force cl 0 [some (.ref a0), some (.int l1), none] [] M =
    (if l1 < (0 : Int32) then
      (some (some (.int (-1 : Int32)), M)) else
      (ckk (mC M a0 = 9) (deR (mR M a0 11) fun q1 => ckk (mC M q1 = 100) (ckb (3 : Int32) (mN M q1) ((if (l1 >>> ((aI M q1 (Int32.toNatClampNeg (3 : Int32))) &&& 31)) = (0 : Int32) then
        (ckk (mC M a0 = 9) (ckk (mC M a0 = 9) (some (some (.int (mI M a0 9)), (setI M a0 9 l1))))) else
        (some (some (.int (-1 : Int32)), M)))))))) :=
  tr_eb [] 17 rfl
theorem ca_Ref_force (d : Nat) (a0 : Nat) (l1 : Int32) (M : ej_Mem) : cal (d + 1) jm_Ref_force [.ref a0, .int l1] M = rn jm_Ref_force (cal d) 0 [some (.ref a0), some (.int l1), none] [] M := call_eq (show 2 ≤ 3 by decide)
set_option maxRecDepth 100000 in
theorem eq_Ref_holds_0 (cl : Nat → List Value → ej_Mem → Option ej_R) (a0 : Nat) (l1 : Int32) (l2 : Int32) (M : ej_Mem) : rn jm_Ref_holds cl 0 [some (.ref a0), some (.int l1), some (.int l2), none] [] M =
    bkI (cl jm_Ref_in [.long (Int32.toInt64 l1), .long (0 : Int64), .long (23 : Int64)] M) fun x2 M1 =>
    (if x2 = (0 : Int32) then
      (some (some (.int (-2 : Int32)), M1)) else
      (bkI (cl jm_Ref_in [.long (Int32.toInt64 l2), .long (-1 : Int64), .long (15 : Int64)] M1) fun x4 M3 =>
      (if x4 = (0 : Int32) then
        (some (some (.int (-2 : Int32)), M3)) else
        (ckk (mC M3 a0 = 9) (deR (mR M3 a0 22) fun q5 => ckk (mC M3 q5 = 100) (ckb l1 (mN M3 q5) (ckk (mC M3 a0 = 9) (deR (mR M3 a0 22) fun q6 => ckk (mC M3 q6 = 100) (ckb l1 (mN M3 q6) (some (some (.int (aI M3 q5 (Int32.toNatClampNeg l1))), (setA M3 q6 (Int32.toNatClampNeg l1) l2)))))))))))) :=
  tr_eb [] 24 rfl
theorem ca_Ref_holds (d : Nat) (a0 : Nat) (l1 : Int32) (l2 : Int32) (M : ej_Mem) : cal (d + 1) jm_Ref_holds [.ref a0, .int l1, .int l2] M = rn jm_Ref_holds (cal d) 0 [some (.ref a0), some (.int l1), some (.int l2), none] [] M := call_eq (show 3 ≤ 4 by decide)
set_option maxRecDepth 100000 in
theorem eq_Ref_union_0 (cl : Nat → List Value → ej_Mem → Option ej_R) (a0 : Nat) (l1 : Int32) (l2 : Int32) (M : ej_Mem) : rn jm_Ref_union cl 0 [some (.ref a0), some (.int l1), some (.int l2), none, none] [] M =
    rn jm_Ref_union cl 8 [some (.ref a0), some (.int l1), some (.int l2), some (.int (0 : Int32)), some (.int ((12 : Int32) * l1))] [] M :=
  tr_eb [8] 7 rfl
set_option maxRecDepth 100000 in
theorem eq_Ref_union_8 (cl : Nat → List Value → ej_Mem → Option ej_R) (a0 : Nat) (l1 : Int32) (l2 : Int32) (l3 : Int32) (l4 : Int32) (M : ej_Mem) : rn jm_Ref_union cl 8 [some (.ref a0), some (.int l1), some (.int l2), some (.int l3), some (.int l4)] [] M =
    ckk (mC M a0 = 9) (deR (mR M a0 14) fun q1 => ckk (mC M q1 = 100) (ckb l1 (mN M q1) ((if (((12 : Int32) * l1) + (aI M q1 (Int32.toNatClampNeg l1))) ≤ l4 then
      (some (some (.int l3), M)) else
      (ckk (mC M a0 = 9) (deR (mR M a0 15) fun q2 => ckk (mC M q2 = 100) (ckb l4 (mN M q2) ((if (aI M q2 (Int32.toNatClampNeg l4)) = l2 then
        ((if l2 = (5 : Int32) then
          ((if (40 : Int32) ≤ l1 then
            (ckk (mC M a0 = 9) (deR (mR M a0 16) fun q4 => ckk (mC M q4 = 100) (ckb l4 (mN M q4) (rn jm_Ref_union cl 8 [some (.ref a0), some (.int l1), some (.int l2), some (.int (l3 ||| (aI M q4 (Int32.toNatClampNeg l4)))), some (.int (l4 + (1 : Int32)))] [] M)))) else
            (ckk (mC M a0 = 9) (deR (mR M a0 16) fun q5 => ckk (mC M q5 = 100) (ckb l4 (mN M q5) (rn jm_Ref_union cl 8 [some (.ref a0), some (.int l1), some (.int l2), some (.int (l3 ||| ((1 : Int32) <<< ((aI M q5 (Int32.toNatClampNeg l4)) &&& 31)))), some (.int (l4 + (1 : Int32)))] [] M)))))) else
          (ckk (mC M a0 = 9) (deR (mR M a0 16) fun q3 => ckk (mC M q3 = 100) (ckb l4 (mN M q3) (rn jm_Ref_union cl 8 [some (.ref a0), some (.int l1), some (.int l2), some (.int (l3 ||| (aI M q3 (Int32.toNatClampNeg l4)))), some (.int (l4 + (1 : Int32)))] [] M)))))) else
        (rn jm_Ref_union cl 8 [some (.ref a0), some (.int l1), some (.int l2), some (.int (l3 ||| (0 : Int32))), some (.int (l4 + (1 : Int32)))] [] M)))))))))) :=
  tr_eb [8] 35 rfl
theorem ca_Ref_union (d : Nat) (a0 : Nat) (l1 : Int32) (l2 : Int32) (M : ej_Mem) : cal (d + 1) jm_Ref_union [.ref a0, .int l1, .int l2] M = rn jm_Ref_union (cal d) 0 [some (.ref a0), some (.int l1), some (.int l2), none, none] [] M := call_eq (show 3 ≤ 5 by decide)
set_option maxRecDepth 100000 in
theorem eq_Ref_firstOf_0 (cl : Nat → List Value → ej_Mem → Option ej_R) (a0 : Nat) (l1 : Int32) (M : ej_Mem) : rn jm_Ref_firstOf cl 0 [some (.ref a0), some (.int l1)] [] M =
    bkI (cl jm_Ref_slotOf [.int (1 : Int32), .int l1] M) fun x2 M1 =>
    ckk (mC M1 a0 = 9) (bkI (cl jm_Ref_union [.ref a0, .int x2, .int (0 : Int32)] M1) fun x4 M3 =>
    some (some (.int x4), M3)) :=
  tr_eb [] 7 rfl
theorem ca_Ref_firstOf (d : Nat) (a0 : Nat) (l1 : Int32) (M : ej_Mem) : cal (d + 1) jm_Ref_firstOf [.ref a0, .int l1] M = rn jm_Ref_firstOf (cal d) 0 [some (.ref a0), some (.int l1)] [] M := call_eq (show 2 ≤ 2 by decide)
set_option maxRecDepth 100000 in
theorem eq_Ref_first_0 (cl : Nat → List Value → ej_Mem → Option ej_R) (a0 : Nat) (l1 : Int32) (M : ej_Mem) : rn jm_Ref_first cl 0 [some (.ref a0), some (.int l1)] [] M =
    ckk (mC M a0 = 9) (bkI (cl jm_Ref_has [.ref a0, .int (1 : Int32), .int l1] M) fun x2 M1 =>
    (if x2 = (0 : Int32) then
      (some (some (.int (-1 : Int32)), M1)) else
      (ckk (mC M1 a0 = 9) (bkI (cl jm_Ref_firstOf [.ref a0, .int l1] M1) fun x4 M3 =>
      some (some (.int x4), M3))))) :=
  tr_eb [] 10 rfl
theorem ca_Ref_first (d : Nat) (a0 : Nat) (l1 : Int32) (M : ej_Mem) : cal (d + 1) jm_Ref_first [.ref a0, .int l1] M = rn jm_Ref_first (cal d) 0 [some (.ref a0), some (.int l1)] [] M := call_eq (show 2 ≤ 2 by decide)
set_option maxRecDepth 100000 in
theorem eq_Ref_wished_0 (cl : Nat → List Value → ej_Mem → Option ej_R) (a0 : Nat) (l1 : Int32) (l2 : Int32) (M : ej_Mem) : rn jm_Ref_wished cl 0 [some (.ref a0), some (.int l1), some (.int l2)] [] M =
    ckk (mC M a0 = 9) (bkI (cl jm_Ref_has [.ref a0, .int (2 : Int32), .int l1] M) fun x2 M1 =>
    (if x2 = (0 : Int32) then
      (some (some (.int (-1 : Int32)), M1)) else
      (bkI (cl jm_Ref_isState [.int l2] M1) fun x4 M3 =>
      (if x4 = (0 : Int32) then
        (some (some (.int (-1 : Int32)), M3)) else
        (ckk (mC M3 a0 = 9) (bkI (cl jm_Ref_isWished [.ref a0, .int l1, .int l2] M3) fun x6 M5 =>
        (if x6 = (0 : Int32) then
          (some (some (.int (0 : Int32)), M5)) else
          (some (some (.int (1 : Int32)), M5))))))))) :=
  tr_eb [] 16 rfl
theorem ca_Ref_wished (d : Nat) (a0 : Nat) (l1 : Int32) (l2 : Int32) (M : ej_Mem) : cal (d + 1) jm_Ref_wished [.ref a0, .int l1, .int l2] M = rn jm_Ref_wished (cal d) 0 [some (.ref a0), some (.int l1), some (.int l2)] [] M := call_eq (show 3 ≤ 3 by decide)
set_option maxRecDepth 100000 in
theorem eq_Ref_isWished_0 (cl : Nat → List Value → ej_Mem → Option ej_R) (a0 : Nat) (l1 : Int32) (l2 : Int32) (M : ej_Mem) : rn jm_Ref_isWished cl 0 [some (.ref a0), some (.int l1), some (.int l2)] [] M =
    bkI (cl jm_Ref_slotOf [.int (2 : Int32), .int l1] M) fun x2 M1 =>
    ckk (mC M1 a0 = 9) (bkI (cl jm_Ref_isTrue [.ref a0, .int ((12 : Int32) * x2), .int l2] M1) fun x4 M3 =>
    ckk (x4 = 0 ∨ x4 = 1) (some (some (.int x4), M3))) :=
  tr_eb [] 9 rfl
theorem ca_Ref_isWished (d : Nat) (a0 : Nat) (l1 : Int32) (l2 : Int32) (M : ej_Mem) : cal (d + 1) jm_Ref_isWished [.ref a0, .int l1, .int l2] M = rn jm_Ref_isWished (cal d) 0 [some (.ref a0), some (.int l1), some (.int l2)] [] M := call_eq (show 3 ≤ 3 by decide)
set_option maxRecDepth 100000 in
theorem eq_Ref_behind_0 (cl : Nat → List Value → ej_Mem → Option ej_R) (a0 : Nat) (l1 : Int32) (l2 : Int32) (M : ej_Mem) : rn jm_Ref_behind cl 0 [some (.ref a0), some (.int l1), some (.int l2)] [] M =
    ckk (mC M a0 = 9) (bkI (cl jm_Ref_union [.ref a0, .int l1, .int (2 : Int32)] M) fun x2 M1 =>
    ckk (mC M1 a0 = 9) (bkI (cl jm_Ref_union [.ref a0, .int l1, .int (1 : Int32)] M1) fun x4 M3 =>
    some (some (.int ((l2 &&& (x2 ^^^ (-1 : Int32))) ||| x4)), M3))) :=
  tr_eb [] 14 rfl
theorem ca_Ref_behind (d : Nat) (a0 : Nat) (l1 : Int32) (l2 : Int32) (M : ej_Mem) : cal (d + 1) jm_Ref_behind [.ref a0, .int l1, .int l2] M = rn jm_Ref_behind (cal d) 0 [some (.ref a0), some (.int l1), some (.int l2)] [] M := call_eq (show 3 ≤ 3 by decide)
