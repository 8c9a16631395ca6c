/-! A small machine of my own: values are the model's, a reference is a number that I give in the order of making; the memory is held by components. It is a pure function; part 05 proves that the model's machine does what it does. -/
abbrev ej_Mem : Type := (Nat → Nat) × (Nat → Nat) × (Nat → Nat → Int32) × (Nat → Nat → Int64) × (Nat → Nat → Option Nat) × (Nat → Nat → Int32) × (Nat → Nat → Option Nat) × Nat × Nat
/-- kind of a cell: a class's number, 100 int[], 101 byte[], 102 boolean[], 103 Writ[], 104 Land[]; of what stood there before: 10 String, 110 int[], 111 byte[]; 200 none -/
def mC (M : ej_Mem) (o : Nat) : Nat := M.1 o
/-- length of a row -/
def mN (M : ej_Mem) (o : Nat) : Nat := M.2.1 o
/-- fields: int, long, reference -/
def mI (M : ej_Mem) : Nat → Nat → Int32 := M.2.2.1
def mL (M : ej_Mem) : Nat → Nat → Int64 := M.2.2.2.1
def mR (M : ej_Mem) : Nat → Nat → Option Nat := M.2.2.2.2.1
/-- rows: of numbers, of references -/
def aI (M : ej_Mem) : Nat → Nat → Int32 := M.2.2.2.2.2.1
def aR (M : ej_Mem) : Nat → Nat → Option Nat := M.2.2.2.2.2.2.1
/-- how many cells, how many slots -/
def mZ (M : ej_Mem) : Nat := M.2.2.2.2.2.2.2.1
def mS (M : ej_Mem) : Nat := M.2.2.2.2.2.2.2.2
def up2 {α : Type} (f : Nat → Nat → α) (o k : Nat) (v : α) : Nat → Nat → α := va_up f o (va_up (f o) k v)
def setI (M : ej_Mem) (o k : Nat) (v : Int32) : ej_Mem := (M.1, M.2.1, up2 M.2.2.1 o k v, M.2.2.2)
def setL (M : ej_Mem) (o k : Nat) (v : Int64) : ej_Mem := (M.1, M.2.1, M.2.2.1, up2 M.2.2.2.1 o k v, M.2.2.2.2)
def setR (M : ej_Mem) (o k : Nat) (v : Option Nat) : ej_Mem := (M.1, M.2.1, M.2.2.1, M.2.2.2.1, up2 M.2.2.2.2.1 o k v, M.2.2.2.2.2)
def setA (M : ej_Mem) (o k : Nat) (v : Int32) : ej_Mem := (M.1, M.2.1, M.2.2.1, M.2.2.2.1, M.2.2.2.2.1, up2 M.2.2.2.2.2.1 o k v, M.2.2.2.2.2.2)
def setP (M : ej_Mem) (o k : Nat) (v : Option Nat) : ej_Mem := (M.1, M.2.1, M.2.2.1, M.2.2.2.1, M.2.2.2.2.1, M.2.2.2.2.2.1, up2 M.2.2.2.2.2.2.1 o k v, M.2.2.2.2.2.2.2)
def cpyM (M : ej_Mem) (a sp b dp n : Nat) : ej_Mem := (M.1, M.2.1, M.2.2.1, M.2.2.2.1, M.2.2.2.2.1, va_up M.2.2.2.2.2.1 b (va_cpy (M.2.2.2.2.2.1 a) (M.2.2.2.2.2.1 b) sp dp n), M.2.2.2.2.2.2)
def newM (M : ej_Mem) (kind len sl : Nat) : ej_Mem :=
  (va_up M.1 (mZ M) kind, va_up M.2.1 (mZ M) len, va_up M.2.2.1 (mZ M) (fun _ => 0), va_up M.2.2.2.1 (mZ M) (fun _ => 0), va_up M.2.2.2.2.1 (mZ M) (fun _ => none), va_up M.2.2.2.2.2.1 (mZ M) (fun _ => 0), va_up M.2.2.2.2.2.2.1 (mZ M) (fun _ => none), mZ M + 1, mS M + sl)
def setF (M : ej_Mem) (a : Nat) (f : Nat → Int32) : ej_Mem := (M.1, M.2.1, M.2.2.1, M.2.2.2.1, M.2.2.2.2.1, va_up M.2.2.2.2.2.1 a f, M.2.2.2.2.2.2)
def cloneM (M : ej_Mem) (o : Nat) : ej_Mem := setF (newM M 100 (mN M o) (mN M o)) (mZ M) (aI M o)
abbrev ej_R : Type := Option Value × ej_Mem
abbrev ej_L : Type := List (Option Value)
abbrev ej_K : Type := Nat → ej_L → List Value → ej_Mem → Option ej_R
/-- an instruction: what it does, three numbers, an int, a long -/
abbrev ej_I : Type := Nat × Nat × Nat × Nat × Int32 × Int64
abbrev uI (st : List Value) (k : Int32 → List Value → Option ej_R) : Option ej_R := match st with
  | .int x :: r => k x r
  | _ => none
abbrev uL (st : List Value) (k : Int64 → List Value → Option ej_R) : Option ej_R := match st with
  | .long x :: r => k x r
  | _ => none
abbrev uR (st : List Value) (k : Nat → List Value → Option ej_R) : Option ej_R := match st with
  | .ref x :: r => k x r
  | _ => none
/-- a reference or null -/
abbrev uQ (st : List Value) (k : Option Nat → List Value → Option ej_R) : Option ej_R := match st with
  | .ref x :: r => k (some x) r
  | .null :: r => k none r
  | _ => none
/-- any value of one word -/
abbrev uV (st : List Value) (k : Value → List Value → Option ej_R) : Option ej_R := match st with
  | .int x :: r => k (.int x) r
  | .ref x :: r => k (.ref x) r
  | .null :: r => k .null r
  | _ => none
def ckk (c : Prop) [Decidable c] (k : Option ej_R) : Option ej_R := if c then k else none
def inb (j : Int32) (n : Nat) : Prop := ¬ j < 0 ∧ j.toNatClampNeg < n
theorem inb_dec (j : Int32) (n : Nat) : (decide (¬ j < 0) && decide (j.toNatClampNeg < n)) = true ↔ inb j n := by simp [inb]
def ckb (j : Int32) (n : Nat) (k : Option ej_R) : Option ej_R := ckk (¬ j < 0 ∧ j.toNatClampNeg < n) k
abbrev ej_bin (a : Nat) (x y : Int32) : Int32 := match a with
  | 0 => x + y
  | 1 => x - y
  | 2 => x * y
  | 3 => x &&& y
  | 4 => x ||| y
  | 5 => x ^^^ y
  | 6 => x <<< (y &&& 31)
  | 7 => x >>> (y &&& 31)
  | _ => (x.toUInt32 >>> (y.toUInt32 &&& Int32.toUInt32 31)).toInt32
abbrev ej_dv (a : Nat) (x y : Int32) : Int32 := match a with
  | 0 => x / y
  | _ => x - x / y * y
abbrev ej_lb (a : Nat) (x y : Int64) : Int64 := match a with
  | 0 => x &&& y
  | 1 => x ||| y
  | 2 => x ^^^ y
  | _ => x - y
def ej_ls (a : Nat) (x : Int64) (y : Int32) : Int64 := match a with
  | 0 => x <<< (y.toInt64 &&& 63)
  | _ => x >>> (y.toInt64 &&& 63)
abbrev ej_cv (a : Nat) (x : Int32) : Value := match a with
  | 0 => .long x.toInt64
  | 1 => .int x.toInt8.toInt32
  | _ => .int (x.toUInt32 % 65536).toInt32
abbrev ej_cnd (b : Nat) (x y : Int32) (t f : Option ej_R) : Option ej_R := match b with
  | 0 => if x = y then t else f
  | 1 => if x = y then f else t
  | 2 => if x < y then t else f
  | 3 => if y ≤ x then t else f
  | 4 => if y < x then t else f
  | _ => if x ≤ y then t else f
/-- what narrows to itself: as int, boolean, byte, char -/
def ej_nar (a : Nat) (x : Int32) : Prop := match a with
  | 0 => True
  | 1 => x = 0 ∨ x = 1
  | 2 => narrow .byte (.int x) = .int x
  | _ => narrow .char (.int x) = .int x
abbrev ej_ckn (a : Nat) (x : Int32) (k : Option ej_R) : Option ej_R := match a with
  | 0 => k
  | 1 => ckk (x = 0 ∨ x = 1) k
  | 2 => ckk (x.toInt8.toInt32 = x) k
  | _ => ckk ((x.toUInt32 % 65536).toInt32 = x) k
abbrev ej_clr (ls : ej_L) (i : Nat) : ej_L := match i with
  | 0 => ls
  | j + 1 => match ls.getD j none with
    | some (.long _) => ls.set j none
    | some (.double _) => ls.set j none
    | _ => ls
abbrev ej_s1 (ls : ej_L) (i : Nat) (v : Value) : ej_L := (ej_clr ls i).set i (some v)
abbrev ej_s2 (ls : ej_L) (i : Nat) (v : Value) : ej_L := ((ej_clr ls i).set i (some v)).set (i + 1) none
abbrev ej_ld (ls : ej_L) (i : Nat) (k : Value → Option ej_R) : Option ej_R := match ls.getD i none with
  | some v => k v
  | none => none
/-- of the rows of references: the class of what they hold -/
abbrev ej_el (kind : Nat) : Nat := match kind with
  | 103 => 7
  | _ => 3
def ej_cats (st : List Value) : Nat := (st.map fun v => v.category).sum
abbrev ej_swi (x : Int32) (ts : List (Int32 × Nat)) (k : Nat → Option ej_R) (df : Option ej_R) : Option ej_R := match ts with
  | [] => df
  | (v, t) :: r => if x = v then k t else ej_swi x r k df
abbrev ej_bt (a : Nat) : FieldType := match a with
  | 101 => .byte
  | _ => .boolean
/-- a reference, null, or the one thing that I do not know -/
abbrev uW (v : Value) (k : Option ej_R) : Option ej_R := match v with
  | .ref _ => k
  | .null => k
  | .float _ => k
  | _ => none
def deR (q : Option Nat) (k : Nat → Option ej_R) : Option ej_R := match q with
  | some a => k a
  | none => none
def deQ (q : Option Nat) (k0 : Option ej_R) (k : Nat → Option ej_R) : Option ej_R := match q with
  | none => k0
  | some a => k a
def bkV (r : Option ej_R) (k : ej_Mem → Option ej_R) : Option ej_R := match r with
  | some (none, M) => k M
  | _ => none
def bkI (r : Option ej_R) (k : Int32 → ej_Mem → Option ej_R) : Option ej_R := match r with
  | some (some (.int x), M) => k x M
  | _ => none
def bkJ (r : Option ej_R) (k : Int64 → ej_Mem → Option ej_R) : Option ej_R := match r with
  | some (some (.long x), M) => k x M
  | _ => none
def bkQ (r : Option ej_R) (k0 : ej_Mem → Option ej_R) (k : Nat → ej_Mem → Option ej_R) : Option ej_R := match r with
  | some (some (.ref a), M) => k a M
  | some (some .null, M) => k0 M
  | _ => none
abbrev ej_ckq (M : ej_Mem) (a : Nat) (q : Option Nat) (k : Option ej_R) : Option ej_R := match q with
  | none => k
  | some v => ckk (mC M v = ej_el a) k
abbrev ej_stp (ej_sw : Nat → List (Int32 × Nat)) (cl : Nat → List Value → ej_Mem → Option ej_R) (i : ej_I) (pc len : Nat) (ls : ej_L) (st : List Value) (M : ej_Mem) (K : ej_K) : Option ej_R := match i with
  | (0, a, b, d, c, e) => K (pc + len) ls (.int c :: st) M
  | (1, a, b, d, c, e) => K (pc + len) ls (.long e :: st) M
  | (2, a, b, d, c, e) => ej_ld ls a fun v => uI [v] fun x _ => K (pc + len) ls (.int x :: st) M
  | (69, a, b, d, c, e) => ej_ld ls a fun v => uL [v] fun x _ => K (pc + len) ls (.long x :: st) M
  | (70, a, b, d, c, e) => ej_ld ls a fun v => uW v (K (pc + len) ls (v :: st) M)
  | (3, a, b, d, c, e) => uI st fun v r => ckk (a < ls.length) (K (pc + len) (ej_s1 ls a (.int v)) r M)
  | (71, a, b, d, c, e) => uQ st fun v r => ckk (a < ls.length) (K (pc + len) (ej_s1 ls a (va_rf v)) r M)
  | (4, a, b, d, c, e) => uL st fun v r => ckk (a + 1 < ls.length) (K (pc + len) (ej_s2 ls a (.long v)) r M)
  | (5, a, b, d, c, e) => ej_ld ls a fun v => uI [v] fun x _ => K (pc + len) (ej_s1 ls a (.int (x + c))) st M
  | (6, a, b, d, c, e) => uI st fun y r => uI r fun x r => K (pc + len) ls (.int (ej_bin a x y) :: r) M
  | (7, a, b, d, c, e) => uI st fun y r => uI r fun x r => ckk (¬ y = 0) (K (pc + len) ls (.int (ej_dv a x y) :: r) M)
  | (8, a, b, d, c, e) => uL st fun y r => uL r fun x r => K (pc + len) ls (.long (ej_lb a x y) :: r) M
  | (9, a, b, d, c, e) => uI st fun y r => uL r fun x r => K (pc + len) ls (.long (ej_ls a x y) :: r) M
  | (10, a, b, d, c, e) => uI st fun x r => K (pc + len) ls (ej_cv a x :: r) M
  | (11, a, b, d, c, e) => uL st fun y r => uL r fun x r => K (pc + len) ls (.int (lg_cmp x y) :: r) M
  | (12, a, b, d, c, e) => uV st fun v r => K (pc + len) ls (v :: v :: r) M
  | (13, a, b, d, c, e) => uV st fun v r => uV r fun w r => K (pc + len) ls (v :: w :: v :: w :: r) M
  | (14, a, b, d, c, e) => uV st fun _ r => K (pc + len) ls r M
  | (15, a, b, d, c, e) => K a ls st M
  | (16, a, b, d, c, e) => uI st fun x r => ej_cnd b x 0 (K a ls r M) (K (pc + len) ls r M)
  | (17, a, b, d, c, e) => uI st fun y r => uI r fun x r => ej_cnd b x y (K a ls r M) (K (pc + len) ls r M)
  | (18, a, b, d, c, e) => uQ st fun q r => match q with
    | none => K a ls r M
    | some _ => K (pc + len) ls r M
  | (19, a, b, d, c, e) => uQ st fun q r => match q with
    | none => K (pc + len) ls r M
    | some _ => K a ls r M
  | (20, a, b, d, c, e) => uI st fun x r => ej_swi x (ej_sw b) (fun t => K t ls r M) (K a ls r M)
  | (21, a, b, d, c, e) => K (pc + len) ls (.null :: st) M
  | (22, a, b, d, c, e) => uR st fun o r => ckk (mC M o = a) (K (pc + len) ls (.int (mI M o b) :: r) M)
  | (23, a, b, d, c, e) => uR st fun o r => ckk (mC M o = a) (K (pc + len) ls (.long (mL M o b) :: r) M)
  | (24, a, b, d, c, e) => uR st fun o r => ckk (mC M o = a) (deQ (mR M o b) (K (pc + len) ls (.null :: r) M) fun q => K (pc + len) ls (.ref q :: r) M)
  | (25, a, b, d, c, e) => uI st fun v r => uR r fun o r => ckk (mC M o = a) (K (pc + len) ls r (setI M o b v))
  | (26, a, b, d, c, e) => uI st fun v r => uR r fun o r => ckk (mC M o = a) (ckk (v = 0 ∨ v = 1) (K (pc + len) ls r (setI M o b v)))
  | (27, a, b, d, c, e) => uL st fun v r => uR r fun o r => ckk (mC M o = a) (K (pc + len) ls r (setL M o b v))
  | (28, a, b, d, c, e) => uQ st fun v r => uR r fun o r => ckk (mC M o = a) (K (pc + len) ls r (setR M o b v))
  | (29, a, b, d, c, e) => uI st fun j r => uR r fun o r => ckk (mC M o = 100) (ckb j (mN M o) (K (pc + len) ls (.int (aI M o j.toNatClampNeg) :: r) M))
  | (30, a, b, d, c, e) => uI st fun j r => uR r fun o r => ckk (mC M o = a) (ckb j (mN M o) (K (pc + len) ls (.int (aI M o j.toNatClampNeg) :: r) M))
  | (31, a, b, d, c, e) => uI st fun j r => uR r fun o r => ckk (mC M o = a) (ckb j (mN M o) (deQ (aR M o j.toNatClampNeg) (K (pc + len) ls (.null :: r) M) fun q => K (pc + len) ls (.ref q :: r) M))
  | (32, a, b, d, c, e) => uI st fun x r => uI r fun j r => uR r fun o r => ckk (mC M o = 100) (ckb j (mN M o) (K (pc + len) ls r (setA M o j.toNatClampNeg x)))
  | (33, a, b, d, c, e) => uI st fun x r => uI r fun j r => uR r fun o r => ckk (mC M o = a) (ckb j (mN M o) (K (pc + len) ls r (setA M o j.toNatClampNeg (vp_nar (ej_bt a) x))))
  | (34, a, b, d, c, e) => uQ st fun q r => uI r fun j r => uR r fun o r => ckk (mC M o = a) (ckb j (mN M o) (ej_ckq M a q (K (pc + len) ls r (setP M o j.toNatClampNeg q))))
  | (35, a, b, d, c, e) => uR st fun o r => ckk (100 ≤ mC M o ∧ mC M o ≤ 104) (K (pc + len) ls (.int (Int32.ofNat (mN M o)) :: r) M)
  | (36, a, b, d, c, e) => uI st fun n r => ckk (¬ n < 0 ∧ n.toNatClampNeg ≤ 67108864) (K (pc + len) ls (.ref (mZ M) :: r) (newM M a n.toNatClampNeg n.toNatClampNeg))
  | (37, a, b, d, c, e) => uI st fun n r => ckk (¬ n < 0 ∧ n.toNatClampNeg ≤ 67108864) (K (pc + len) ls (.ref (mZ M) :: r) (newM M a n.toNatClampNeg n.toNatClampNeg))
  | (38, a, b, d, c, e) => K (pc + len) ls (.ref (mZ M) :: st) (newM M a 0 b)
  | (39, a, b, d, c, e) => uI st fun v r => ckk (r = []) (ej_ckn a v (some (some (.int v), M)))
  | (40, a, b, d, c, e) => uL st fun v r => ckk (r = []) (some (some (.long v), M))
  | (41, a, b, d, c, e) => uQ st fun v r => ckk (r = []) (some (some (va_rf v), M))
  | (42, a, b, d, c, e) => ckk (st = []) (some (none, M))
  | (46, a, b, d, c, e) => uR st fun _ r => ckk (ej_cats r ≤ 8) (K (pc + len) ls r M)
  | (47, a, b, d, c, e) => uI st fun n r => uI r fun dp r => uR r fun o1 r => uI r fun sp r => uR r fun o0 r => ckk (mC M o0 = 100 ∧ mC M o1 = 100 ∧ ej_cats r ≤ 8) (ckk (¬ sp < 0 ∧ ¬ dp < 0 ∧ ¬ n < 0 ∧ sp.toNatClampNeg + n.toNatClampNeg ≤ mN M o0 ∧ dp.toNatClampNeg + n.toNatClampNeg ≤ mN M o1) (K (pc + len) ls r (cpyM M o0 sp.toNatClampNeg o1 dp.toNatClampNeg n.toNatClampNeg)))
  | (48, a, b, d, c, e) => K (pc + len) ls (.ref a :: st) M
  | (49, a, b, d, c, e) => K (pc + len) ls (.int c :: st) M
  | (50, a, b, d, c, e) => uI st fun j r => uR r fun o r => ckk (mC M o = 110) (ckb j (mN M o) (K (pc + len) ls (.int (aI M o j.toNatClampNeg) :: r) M))
  | (51, a, b, d, c, e) => uI st fun j r => uR r fun o r => ckk (mC M o = 111) (ckb j (mN M o) (K (pc + len) ls (.int (aI M o j.toNatClampNeg) :: r) M))
  | (52, a, b, d, c, e) => uR st fun o r => ckk (110 ≤ mC M o ∧ mC M o ≤ 111) (K (pc + len) ls (.int (Int32.ofNat (mN M o)) :: r) M)
  | (53, a, b, d, c, e) => uR st fun o r => ckk (mC M o = 10) (K (pc + len) ls (.int (mI M o b) :: r) M)
  | (54, a, b, d, c, e) => uR st fun o r => ckk (mC M o = 10) (deR (mR M o b) fun q => K (pc + len) ls (.ref q :: r) M)
  | (55, a, b, d, c, e) => uR st fun o r => ckk (mC M o = 100 ∧ ej_cats r ≤ 8) (K (pc + len) ls (.ref (mZ M) :: r) (cloneM M o))
  | (56, a, b, d, c, e) => uR st fun o r => ckk (mC M o = 100) (K (pc + len) ls (.ref o :: r) M)
  | (57, a, b, d, c, e) => K (pc + len) ls (.float 0 :: st) M
  | (58, a, b, d, c, e) => uR st fun o r => ckk (mC M o = a) (deR (mR M o b) fun q => K (pc + len) ls (.ref q :: r) M)
  | (60, a, b, d, c, e) => ckk (b ≤ st.length ∧ ej_cats (st.drop b) ≤ 8) (bkV (cl a (st.take b).reverse M) fun M1 => K (pc + len) ls (st.drop b) M1)
  | (61, a, b, d, c, e) => ckk (b ≤ st.length ∧ ej_cats (st.drop b) ≤ 8) (bkI (cl a (st.take b).reverse M) fun x M1 => K (pc + len) ls (.int x :: st.drop b) M1)
  | (62, a, b, d, c, e) => ckk (b ≤ st.length ∧ ej_cats (st.drop b) ≤ 8) (bkJ (cl a (st.take b).reverse M) fun x M1 => K (pc + len) ls (.long x :: st.drop b) M1)
  | (63, a, b, d, c, e) => ckk (b ≤ st.length ∧ ej_cats (st.drop b) ≤ 8) (bkQ (cl a (st.take b).reverse M) (fun M1 => K (pc + len) ls (.null :: st.drop b) M1) fun x M1 => K (pc + len) ls (.ref x :: st.drop b) M1)
  | (64, a, b, d, c, e) => ckk (b < st.length ∧ ej_cats (st.drop (b + 1)) ≤ 8) (uR (st.drop b) fun o _ => ckk (mC M o = d) (bkV (cl a (st.take (b + 1)).reverse M) fun M1 => K (pc + len) ls (st.drop (b + 1)) M1))
  | (65, a, b, d, c, e) => ckk (b < st.length ∧ ej_cats (st.drop (b + 1)) ≤ 8) (uR (st.drop b) fun o _ => ckk (mC M o = d) (bkI (cl a (st.take (b + 1)).reverse M) fun x M1 => K (pc + len) ls (.int x :: st.drop (b + 1)) M1))
  | (66, a, b, d, c, e) => ckk (b < st.length ∧ ej_cats (st.drop (b + 1)) ≤ 8) (uR (st.drop b) fun o _ => ckk (mC M o = d) (bkJ (cl a (st.take (b + 1)).reverse M) fun x M1 => K (pc + len) ls (.long x :: st.drop (b + 1)) M1))
  | (67, a, b, d, c, e) => ckk (b < st.length ∧ ej_cats (st.drop (b + 1)) ≤ 8) (uR (st.drop b) fun o _ => ckk (mC M o = d) (bkQ (cl a (st.take (b + 1)).reverse M) (fun M1 => K (pc + len) ls (.null :: st.drop (b + 1)) M1) fun x M1 => K (pc + len) ls (.ref x :: st.drop (b + 1)) M1))
  | (68, a, b, d, c, e) => ckk (b < st.length ∧ ej_cats (st.drop (b + 1)) ≤ 8) (uR (st.drop b) fun _ _ => bkV (cl a (st.take (b + 1)).reverse M) fun M1 => K (pc + len) ls (st.drop (b + 1)) M1)
  | (72, a, b, d, c, e) => uI st fun y r => uI r fun x r => ckk (ej_cats r ≤ 8) (K (pc + len) ls (.int (if y < x then y else x) :: r) M)
  | _ => none
