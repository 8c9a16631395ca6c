/-! reading my memory after a write; the fixed layout; written by wip/gen/mem.py -/
theorem MR : (∀ (M : ej_Mem) (o k : Nat) (v : Int32), mC (setI M o k v) = mC M) ∧
  (∀ (M : ej_Mem) (o k : Nat) (v : Int32), mN (setI M o k v) = mN M) ∧
  (∀ (M : ej_Mem) (o k : Nat) (v : Int32), mL (setI M o k v) = mL M) ∧
  (∀ (M : ej_Mem) (o k : Nat) (v : Int32), mR (setI M o k v) = mR M) ∧
  (∀ (M : ej_Mem) (o k : Nat) (v : Int32), aI (setI M o k v) = aI M) ∧
  (∀ (M : ej_Mem) (o k : Nat) (v : Int32), aR (setI M o k v) = aR M) ∧
  (∀ (M : ej_Mem) (o k : Nat) (v : Int32), mZ (setI M o k v) = mZ M) ∧
  (∀ (M : ej_Mem) (o k : Nat) (v : Int32), mS (setI M o k v) = mS M) ∧
  (∀ (M : ej_Mem) (o k : Nat) (v : Int32) (p : Nat), mI (setI M o k v) p = if p = o then va_up (mI M o) k v else mI M p) ∧
  (∀ (M : ej_Mem) (o k : Nat) (v : Int64), mC (setL M o k v) = mC M) ∧
  (∀ (M : ej_Mem) (o k : Nat) (v : Int64), mN (setL M o k v) = mN M) ∧
  (∀ (M : ej_Mem) (o k : Nat) (v : Int64), mI (setL M o k v) = mI M) ∧
  (∀ (M : ej_Mem) (o k : Nat) (v : Int64), mR (setL M o k v) = mR M) ∧
  (∀ (M : ej_Mem) (o k : Nat) (v : Int64), aI (setL M o k v) = aI M) ∧
  (∀ (M : ej_Mem) (o k : Nat) (v : Int64), aR (setL M o k v) = aR M) ∧
  (∀ (M : ej_Mem) (o k : Nat) (v : Int64), mZ (setL M o k v) = mZ M) ∧
  (∀ (M : ej_Mem) (o k : Nat) (v : Int64), mS (setL M o k v) = mS M) ∧
  (∀ (M : ej_Mem) (o k : Nat) (v : Int64) (p : Nat), mL (setL M o k v) p = if p = o then va_up (mL M o) k v else mL M p) ∧
  (∀ (M : ej_Mem) (o k : Nat) (v : Option Nat), mC (setR M o k v) = mC M) ∧
  (∀ (M : ej_Mem) (o k : Nat) (v : Option Nat), mN (setR M o k v) = mN M) ∧
  (∀ (M : ej_Mem) (o k : Nat) (v : Option Nat), mI (setR M o k v) = mI M) ∧
  (∀ (M : ej_Mem) (o k : Nat) (v : Option Nat), mL (setR M o k v) = mL M) ∧
  (∀ (M : ej_Mem) (o k : Nat) (v : Option Nat), aI (setR M o k v) = aI M) ∧
  (∀ (M : ej_Mem) (o k : Nat) (v : Option Nat), aR (setR M o k v) = aR M) ∧
  (∀ (M : ej_Mem) (o k : Nat) (v : Option Nat), mZ (setR M o k v) = mZ M) ∧
  (∀ (M : ej_Mem) (o k : Nat) (v : Option Nat), mS (setR M o k v) = mS M) ∧
  (∀ (M : ej_Mem) (o k : Nat) (v : Option Nat) (p : Nat), mR (setR M o k v) p = if p = o then va_up (mR M o) k v else mR M p) ∧
  (∀ (M : ej_Mem) (o k : Nat) (v : Int32), mC (setA M o k v) = mC M) ∧
  (∀ (M : ej_Mem) (o k : Nat) (v : Int32), mN (setA M o k v) = mN M) ∧
  (∀ (M : ej_Mem) (o k : Nat) (v : Int32), mI (setA M o k v) = mI M) ∧
  (∀ (M : ej_Mem) (o k : Nat) (v : Int32), mL (setA M o k v) = mL M) ∧
  (∀ (M : ej_Mem) (o k : Nat) (v : Int32), mR (setA M o k v) = mR M) ∧
  (∀ (M : ej_Mem) (o k : Nat) (v : Int32), aR (setA M o k v) = aR M) ∧
  (∀ (M : ej_Mem) (o k : Nat) (v : Int32), mZ (setA M o k v) = mZ M) ∧
  (∀ (M : ej_Mem) (o k : Nat) (v : Int32), mS (setA M o k v) = mS M) ∧
  (∀ (M : ej_Mem) (o k : Nat) (v : Int32) (p : Nat), aI (setA M o k v) p = if p = o then va_up (aI M o) k v else aI M p) ∧
  (∀ (M : ej_Mem) (o k : Nat) (v : Option Nat), mC (setP M o k v) = mC M) ∧
  (∀ (M : ej_Mem) (o k : Nat) (v : Option Nat), mN (setP M o k v) = mN M) ∧
  (∀ (M : ej_Mem) (o k : Nat) (v : Option Nat), mI (setP M o k v) = mI M) ∧
  (∀ (M : ej_Mem) (o k : Nat) (v : Option Nat), mL (setP M o k v) = mL M) ∧
  (∀ (M : ej_Mem) (o k : Nat) (v : Option Nat), mR (setP M o k v) = mR M) ∧
  (∀ (M : ej_Mem) (o k : Nat) (v : Option Nat), aI (setP M o k v) = aI M) ∧
  (∀ (M : ej_Mem) (o k : Nat) (v : Option Nat), mZ (setP M o k v) = mZ M) ∧
  (∀ (M : ej_Mem) (o k : Nat) (v : Option Nat), mS (setP M o k v) = mS M) ∧
  (∀ (M : ej_Mem) (o k : Nat) (v : Option Nat) (p : Nat), aR (setP M o k v) p = if p = o then va_up (aR M o) k v else aR M p) ∧
  (∀ (M : ej_Mem) (a : Nat) (f : Nat → Int32), mC (setF M a f) = mC M) ∧
  (∀ (M : ej_Mem) (a sp b dp n : Nat), mC (cpyM M a sp b dp n) = mC M) ∧
  (∀ (M : ej_Mem) (a : Nat) (f : Nat → Int32), mN (setF M a f) = mN M) ∧
  (∀ (M : ej_Mem) (a sp b dp n : Nat), mN (cpyM M a sp b dp n) = mN M) ∧
  (∀ (M : ej_Mem) (a : Nat) (f : Nat → Int32), mI (setF M a f) = mI M) ∧
  (∀ (M : ej_Mem) (a sp b dp n : Nat), mI (cpyM M a sp b dp n) = mI M) ∧
  (∀ (M : ej_Mem) (a : Nat) (f : Nat → Int32), mL (setF M a f) = mL M) ∧
  (∀ (M : ej_Mem) (a sp b dp n : Nat), mL (cpyM M a sp b dp n) = mL M) ∧
  (∀ (M : ej_Mem) (a : Nat) (f : Nat → Int32), mR (setF M a f) = mR M) ∧
  (∀ (M : ej_Mem) (a sp b dp n : Nat), mR (cpyM M a sp b dp n) = mR M) ∧
  (∀ (M : ej_Mem) (a : Nat) (f : Nat → Int32), aR (setF M a f) = aR M) ∧
  (∀ (M : ej_Mem) (a sp b dp n : Nat), aR (cpyM M a sp b dp n) = aR M) ∧
  (∀ (M : ej_Mem) (a : Nat) (f : Nat → Int32), mZ (setF M a f) = mZ M) ∧
  (∀ (M : ej_Mem) (a sp b dp n : Nat), mZ (cpyM M a sp b dp n) = mZ M) ∧
  (∀ (M : ej_Mem) (a : Nat) (f : Nat → Int32), mS (setF M a f) = mS M) ∧
  (∀ (M : ej_Mem) (a sp b dp n : Nat), mS (cpyM M a sp b dp n) = mS M) ∧
  (∀ (M : ej_Mem) (a : Nat) (f : Nat → Int32) (p : Nat), aI (setF M a f) p = if p = a then f else aI M p) ∧
  (∀ (M : ej_Mem) (a sp b dp n : Nat) (p : Nat), aI (cpyM M a sp b dp n) p = if p = b then va_cpy (aI M a) (aI M b) sp dp n else aI M p) ∧
  (∀ (M : ej_Mem) (kd n sl p : Nat), mC (newM M kd n sl) p = if p = mZ M then kd else mC M p) ∧
  (∀ (M : ej_Mem) (kd n sl p : Nat), mN (newM M kd n sl) p = if p = mZ M then n else mN M p) ∧
  (∀ (M : ej_Mem) (kd n sl p : Nat), mI (newM M kd n sl) p = if p = mZ M then (fun _ => 0) else mI M p) ∧
  (∀ (M : ej_Mem) (kd n sl p : Nat), mL (newM M kd n sl) p = if p = mZ M then (fun _ => 0) else mL M p) ∧
  (∀ (M : ej_Mem) (kd n sl p : Nat), mR (newM M kd n sl) p = if p = mZ M then (fun _ => none) else mR M p) ∧
  (∀ (M : ej_Mem) (kd n sl p : Nat), aI (newM M kd n sl) p = if p = mZ M then (fun _ => 0) else aI M p) ∧
  (∀ (M : ej_Mem) (kd n sl p : Nat), aR (newM M kd n sl) p = if p = mZ M then (fun _ => none) else aR M p) ∧
  (∀ (M : ej_Mem) (kd n sl : Nat), mZ (newM M kd n sl) = mZ M + 1) ∧
  (∀ (M : ej_Mem) (kd n sl : Nat), mS (newM M kd n sl) = mS M + sl) := by
  refine ⟨?_, ?_, ?_, ?_, ?_, ?_, ?_, ?_, ?_, ?_, ?_, ?_, ?_, ?_, ?_, ?_, ?_, ?_, ?_, ?_, ?_, ?_, ?_, ?_, ?_, ?_, ?_, ?_, ?_, ?_, ?_, ?_, ?_, ?_, ?_, ?_, ?_, ?_, ?_, ?_, ?_, ?_, ?_, ?_, ?_, ?_, ?_, ?_, ?_, ?_, ?_, ?_, ?_, ?_, ?_, ?_, ?_, ?_, ?_, ?_, ?_, ?_, ?_, ?_, ?_, ?_, ?_, ?_, ?_, ?_, ?_, ?_⟩ <;> intros <;> rfl
theorem va_upe {α : Type} (f : Nat → α) (k : Nat) (v : α) (j : Nat) : va_up f k v j = if j = k then v else f j := rfl
theorem ckk_t {c : Prop} [Decidable c] (h : c) (k : Option ej_R) : ckk c k = k := if_pos h
theorem ckk_T [Decidable True] (k : Option ej_R) : ckk True k = k := if_pos trivial
theorem ckb_n {j n : Nat} (h : j < n) (hn : n < 2 ^ 31) (k : Option ej_R) : ckb (nI j) n k = k := ckk_t ⟨nI_pos (by omega), by rw [nI_clamp (by omega)]; exact h⟩ k
theorem ckb_t {j : Int32} {n : Nat} (h : ¬ j < 0 ∧ j.toNatClampNeg < n) (k : Option ej_R) : ckb j n k = k := ckk_t h k
theorem ckb0 {n : Nat} (h : 0 < n) (k : Option ej_R) : ckb 0 n k = k := ckk_t ⟨by decide, h⟩ k
theorem ckb1 {n : Nat} (h : 1 < n) (k : Option ej_R) : ckb 1 n k = k := ckk_t ⟨by decide, h⟩ k
theorem ckb2 {n : Nat} (h : 2 < n) (k : Option ej_R) : ckb 2 n k = k := ckk_t ⟨by decide, h⟩ k
theorem ckb3 {n : Nat} (h : 3 < n) (k : Option ej_R) : ckb 3 n k = k := ckk_t ⟨by decide, h⟩ k
theorem deR_s (a : Nat) (k : Nat → Option ej_R) : deR (some a) k = k a := rfl
theorem deQ_s (a : Nat) (k0 : Option ej_R) (k : Nat → Option ej_R) : deQ (some a) k0 k = k a := rfl
theorem deQ_n (k0 : Option ej_R) (k : Nat → Option ej_R) : deQ none k0 k = k0 := rfl
theorem bkV_s (M : ej_Mem) (k : ej_Mem → Option ej_R) : bkV (some (none, M)) k = k M := rfl
theorem bkI_s (x : Int32) (M : ej_Mem) (k : Int32 → ej_Mem → Option ej_R) : bkI (some (some (.int x), M)) k = k x M := rfl
theorem bkJ_s (x : Int64) (M : ej_Mem) (k : Int64 → ej_Mem → Option ej_R) : bkJ (some (some (.long x), M)) k = k x M := rfl
theorem bkQ_s (a : Nat) (M : ej_Mem) (k0 : ej_Mem → Option ej_R) (k : Nat → ej_Mem → Option ej_R) : bkQ (some (some (.ref a), M)) k0 k = k a M := rfl
theorem bkQ_n (M : ej_Mem) (k0 : ej_Mem → Option ej_R) (k : Nat → ej_Mem → Option ej_R) : bkQ (some (some .null, M)) k0 k = k0 M := rfl
theorem LIT : (((1 : Int32) = 0) = False) ∧ (((0 : Int32) = 1) = False) ∧ (((12 : Int32) = 0) = False) ∧ (((64 : Int32) = 0) = False) ∧ (((2 : Int32) = 0) = False) ∧ (((3 : Int32) = 0) = False) ∧ (((4 : Int32) = 0) = False) ∧ (((-1 : Int32) = 0) = False) ∧ (((-2 : Int32) = 0) = False) ∧ (((2 : Int32) = 1) = False) ∧ (((3 : Int32) = 1) = False) ∧ (((4 : Int32) = 1) = False) ∧ (((0 : Int32) = 2) = False) ∧ (((0 : Int32) = 3) = False) ∧ (((1 : Int32) = 2) = False) ∧ (((1 : Int32) = 3) = False) ∧ (((3 : Int32) = 2) = False) ∧ (((2 : Int32) = 3) = False) ∧ (((4 : Int32) = 2) = False) ∧ (((4 : Int32) = 3) = False) ∧ (((0 : Int32) = -1) = False) ∧ (((1 : Int32) = -1) = False) ∧ (((-2 : Int32) = -1) = False) ∧ (((-1 : Int32) = -2) = False) := by decide
/-! the cells that the two constructors make: kinds, lengths, final references -/
def RW (M : ej_Mem) : Prop := mC M 90 = 9 ∧ mC M 91 = 101 ∧ mC M 92 = 100 ∧ mC M 93 = 100 ∧ mC M 94 = 100 ∧ mC M 95 = 100 ∧ mC M 96 = 100 ∧ mC M 97 = 100 ∧ mC M 98 = 100 ∧ mC M 99 = 100 ∧ mC M 100 = 100 ∧ mC M 101 = 100 ∧ mC M 102 = 100 ∧ mC M 103 = 100 ∧ mC M 104 = 102 ∧ mC M 105 = 100 ∧ mC M 106 = 100 ∧ mC M 107 = 100 ∧ mC M 108 = 100 ∧ mC M 109 = 100 ∧ mC M 110 = 100 ∧ mC M 111 = 100 ∧ mC M 112 = 100 ∧ mC M 113 = 100 ∧ mC M 114 = 102 ∧ mC M 115 = 100 ∧ mC M 116 = 100 ∧ mC M 117 = 100 ∧ mC M 118 = 100 ∧ mC M 119 = 100 ∧ mC M 120 = 100 ∧ mC M 121 = 102 ∧ mN M 91 = 400 ∧ mN M 92 = 4 ∧ mN M 93 = 14400 ∧ mN M 94 = 14400 ∧ mN M 95 = 72 ∧ mN M 96 = 864 ∧ mN M 97 = 864 ∧ mN M 98 = 864 ∧ mN M 99 = 864 ∧ mN M 100 = 402 ∧ mN M 101 = 40 ∧ mN M 102 = 40 ∧ mN M 103 = 24 ∧ mN M 104 = 200 ∧ mN M 105 = 16384 ∧ mN M 106 = 16384 ∧ mN M 107 = 16384 ∧ mN M 108 = 4000 ∧ mN M 109 = 4000 ∧ mN M 110 = 4000 ∧ mN M 111 = 500 ∧ mN M 112 = 500 ∧ mN M 113 = 500 ∧ mN M 114 = 500 ∧ mN M 115 = 30 ∧ mN M 116 = 30 ∧ mN M 117 = 30 ∧ mN M 118 = 720 ∧ mN M 119 = 184000 ∧ mN M 120 = 10 ∧ mN M 121 = 4 ∧ mR M 90 10 = some 91 ∧ mR M 90 11 = some 92 ∧ mR M 90 12 = some 93 ∧ mR M 90 13 = some 94 ∧ mR M 90 14 = some 95 ∧ mR M 90 15 = some 96 ∧ mR M 90 16 = some 97 ∧ mR M 90 17 = some 98 ∧ mR M 90 18 = some 99 ∧ mR M 90 19 = some 100 ∧ mR M 90 20 = some 101 ∧ mR M 90 21 = some 102 ∧ mR M 90 22 = some 103 ∧ mR M 90 23 = some 104 ∧ mR M 90 24 = some 105 ∧ mR M 90 25 = some 106 ∧ mR M 90 26 = some 107 ∧ mR M 90 28 = some 108 ∧ mR M 90 29 = some 109 ∧ mR M 90 30 = some 110 ∧ mR M 90 38 = some 111 ∧ mR M 90 39 = some 112 ∧ mR M 90 45 = some 113 ∧ mR M 90 46 = some 114 ∧ mR M 90 48 = some 115 ∧ mR M 90 49 = some 116 ∧ mR M 90 50 = some 117 ∧ mR M 90 51 = some 118 ∧ mR M 90 54 = some 119 ∧ mR M 90 55 = some 120 ∧ mR M 90 56 = some 121
theorem RW.all {M : ej_Mem} (h : RW M) : mC M 90 = 9 ∧ mC M 91 = 101 ∧ mC M 92 = 100 ∧ mC M 93 = 100 ∧ mC M 94 = 100 ∧ mC M 95 = 100 ∧ mC M 96 = 100 ∧ mC M 97 = 100 ∧ mC M 98 = 100 ∧ mC M 99 = 100 ∧ mC M 100 = 100 ∧ mC M 101 = 100 ∧ mC M 102 = 100 ∧ mC M 103 = 100 ∧ mC M 104 = 102 ∧ mC M 105 = 100 ∧ mC M 106 = 100 ∧ mC M 107 = 100 ∧ mC M 108 = 100 ∧ mC M 109 = 100 ∧ mC M 110 = 100 ∧ mC M 111 = 100 ∧ mC M 112 = 100 ∧ mC M 113 = 100 ∧ mC M 114 = 102 ∧ mC M 115 = 100 ∧ mC M 116 = 100 ∧ mC M 117 = 100 ∧ mC M 118 = 100 ∧ mC M 119 = 100 ∧ mC M 120 = 100 ∧ mC M 121 = 102 ∧ mN M 91 = 400 ∧ mN M 92 = 4 ∧ mN M 93 = 14400 ∧ mN M 94 = 14400 ∧ mN M 95 = 72 ∧ mN M 96 = 864 ∧ mN M 97 = 864 ∧ mN M 98 = 864 ∧ mN M 99 = 864 ∧ mN M 100 = 402 ∧ mN M 101 = 40 ∧ mN M 102 = 40 ∧ mN M 103 = 24 ∧ mN M 104 = 200 ∧ mN M 105 = 16384 ∧ mN M 106 = 16384 ∧ mN M 107 = 16384 ∧ mN M 108 = 4000 ∧ mN M 109 = 4000 ∧ mN M 110 = 4000 ∧ mN M 111 = 500 ∧ mN M 112 = 500 ∧ mN M 113 = 500 ∧ mN M 114 = 500 ∧ mN M 115 = 30 ∧ mN M 116 = 30 ∧ mN M 117 = 30 ∧ mN M 118 = 720 ∧ mN M 119 = 184000 ∧ mN M 120 = 10 ∧ mN M 121 = 4 ∧ mR M 90 10 = some 91 ∧ mR M 90 11 = some 92 ∧ mR M 90 12 = some 93 ∧ mR M 90 13 = some 94 ∧ mR M 90 14 = some 95 ∧ mR M 90 15 = some 96 ∧ mR M 90 16 = some 97 ∧ mR M 90 17 = some 98 ∧ mR M 90 18 = some 99 ∧ mR M 90 19 = some 100 ∧ mR M 90 20 = some 101 ∧ mR M 90 21 = some 102 ∧ mR M 90 22 = some 103 ∧ mR M 90 23 = some 104 ∧ mR M 90 24 = some 105 ∧ mR M 90 25 = some 106 ∧ mR M 90 26 = some 107 ∧ mR M 90 28 = some 108 ∧ mR M 90 29 = some 109 ∧ mR M 90 30 = some 110 ∧ mR M 90 38 = some 111 ∧ mR M 90 39 = some 112 ∧ mR M 90 45 = some 113 ∧ mR M 90 46 = some 114 ∧ mR M 90 48 = some 115 ∧ mR M 90 49 = some 116 ∧ mR M 90 50 = some 117 ∧ mR M 90 51 = some 118 ∧ mR M 90 54 = some 119 ∧ mR M 90 55 = some 120 ∧ mR M 90 56 = some 121 := h
def SW (M : ej_Mem) : Prop := mC M 59 = 8 ∧ mC M 60 = 100 ∧ mC M 61 = 0 ∧ mC M 62 = 100 ∧ mC M 63 = 100 ∧ mC M 64 = 100 ∧ mC M 65 = 100 ∧ mC M 66 = 100 ∧ mC M 67 = 100 ∧ mC M 68 = 3 ∧ mC M 69 = 103 ∧ mC M 70 = 100 ∧ mC M 71 = 100 ∧ mC M 72 = 100 ∧ mC M 73 = 100 ∧ mC M 74 = 4 ∧ mC M 75 = 100 ∧ mC M 76 = 100 ∧ mC M 77 = 100 ∧ mC M 78 = 100 ∧ mC M 79 = 104 ∧ mC M 80 = 6 ∧ mC M 81 = 1 ∧ mC M 82 = 100 ∧ mC M 83 = 100 ∧ mC M 84 = 100 ∧ mC M 85 = 5 ∧ mC M 86 = 100 ∧ mC M 87 = 102 ∧ mC M 88 = 2 ∧ mC M 89 = 6 ∧ mN M 60 = 400 ∧ mN M 62 = 300 ∧ mN M 63 = 24 ∧ mN M 64 = 40 ∧ mN M 65 = 40 ∧ mN M 66 = 40 ∧ mN M 67 = 40 ∧ mN M 69 = 72 ∧ mN M 70 = 4 ∧ mN M 71 = 40 ∧ mN M 72 = 40 ∧ mN M 73 = 24 ∧ mN M 75 = 30 ∧ mN M 76 = 30 ∧ mN M 77 = 30 ∧ mN M 78 = 720 ∧ mN M 79 = 4 ∧ mN M 82 = 500 ∧ mN M 83 = 500 ∧ mN M 84 = 1024 ∧ mN M 86 = 500 ∧ mN M 87 = 500 ∧ mR M 59 0 = some 60 ∧ mR M 59 2 = some 61 ∧ mR M 59 3 = some 68 ∧ mR M 59 4 = some 79 ∧ mR M 59 5 = some 80 ∧ mR M 59 6 = some 81 ∧ mR M 59 7 = some 85 ∧ mR M 59 8 = some 88 ∧ mR M 61 0 = some 60 ∧ mR M 61 5 = some 62 ∧ mR M 61 7 = some 63 ∧ mR M 61 9 = some 64 ∧ mR M 61 13 = some 65 ∧ mR M 61 14 = some 66 ∧ mR M 61 15 = some 67 ∧ mR M 68 0 = some 69 ∧ mR M 68 1 = some 70 ∧ mR M 68 2 = some 71 ∧ mR M 68 3 = some 72 ∧ mR M 68 5 = some 73 ∧ mR M 68 6 = some 74 ∧ mR M 74 1 = some 75 ∧ mR M 74 2 = some 76 ∧ mR M 74 3 = some 77 ∧ mR M 74 4 = some 78 ∧ mR M 81 2 = some 82 ∧ mR M 81 3 = some 83 ∧ mR M 81 4 = some 84 ∧ mR M 85 0 = some 86 ∧ mR M 85 1 = some 87 ∧ mR M 88 0 = some 89
theorem SW.all {M : ej_Mem} (h : SW M) : mC M 59 = 8 ∧ mC M 60 = 100 ∧ mC M 61 = 0 ∧ mC M 62 = 100 ∧ mC M 63 = 100 ∧ mC M 64 = 100 ∧ mC M 65 = 100 ∧ mC M 66 = 100 ∧ mC M 67 = 100 ∧ mC M 68 = 3 ∧ mC M 69 = 103 ∧ mC M 70 = 100 ∧ mC M 71 = 100 ∧ mC M 72 = 100 ∧ mC M 73 = 100 ∧ mC M 74 = 4 ∧ mC M 75 = 100 ∧ mC M 76 = 100 ∧ mC M 77 = 100 ∧ mC M 78 = 100 ∧ mC M 79 = 104 ∧ mC M 80 = 6 ∧ mC M 81 = 1 ∧ mC M 82 = 100 ∧ mC M 83 = 100 ∧ mC M 84 = 100 ∧ mC M 85 = 5 ∧ mC M 86 = 100 ∧ mC M 87 = 102 ∧ mC M 88 = 2 ∧ mC M 89 = 6 ∧ mN M 60 = 400 ∧ mN M 62 = 300 ∧ mN M 63 = 24 ∧ mN M 64 = 40 ∧ mN M 65 = 40 ∧ mN M 66 = 40 ∧ mN M 67 = 40 ∧ mN M 69 = 72 ∧ mN M 70 = 4 ∧ mN M 71 = 40 ∧ mN M 72 = 40 ∧ mN M 73 = 24 ∧ mN M 75 = 30 ∧ mN M 76 = 30 ∧ mN M 77 = 30 ∧ mN M 78 = 720 ∧ mN M 79 = 4 ∧ mN M 82 = 500 ∧ mN M 83 = 500 ∧ mN M 84 = 1024 ∧ mN M 86 = 500 ∧ mN M 87 = 500 ∧ mR M 59 0 = some 60 ∧ mR M 59 2 = some 61 ∧ mR M 59 3 = some 68 ∧ mR M 59 4 = some 79 ∧ mR M 59 5 = some 80 ∧ mR M 59 6 = some 81 ∧ mR M 59 7 = some 85 ∧ mR M 59 8 = some 88 ∧ mR M 61 0 = some 60 ∧ mR M 61 5 = some 62 ∧ mR M 61 7 = some 63 ∧ mR M 61 9 = some 64 ∧ mR M 61 13 = some 65 ∧ mR M 61 14 = some 66 ∧ mR M 61 15 = some 67 ∧ mR M 68 0 = some 69 ∧ mR M 68 1 = some 70 ∧ mR M 68 2 = some 71 ∧ mR M 68 3 = some 72 ∧ mR M 68 5 = some 73 ∧ mR M 68 6 = some 74 ∧ mR M 74 1 = some 75 ∧ mR M 74 2 = some 76 ∧ mR M 74 3 = some 77 ∧ mR M 74 4 = some 78 ∧ mR M 81 2 = some 82 ∧ mR M 81 3 = some 83 ∧ mR M 81 4 = some 84 ∧ mR M 85 0 = some 86 ∧ mR M 85 1 = some 87 ∧ mR M 88 0 = some 89 := h
