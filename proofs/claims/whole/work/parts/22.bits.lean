/-! how many bits: the loop of the reference, and the JDK's bitCount -/
def pcn : Nat → Nat → Nat
  | 0, _ => 0
  | n + 1, x => x % 2 + pcn n (x / 2)
def pc (x : Int32) : Nat := pcn 32 x.toBitVec.toNat
theorem pcn_le : ∀ n x, pcn n x ≤ n
  | 0, _ => Nat.le_refl 0
  | n + 1, x => by
    have := pcn_le n (x / 2)
    unfold pcn
    omega
theorem pc_le (x : Int32) : pc x ≤ 32 := pcn_le 32 _
theorem and2 (a b c d : Nat) (hb : b < 2) (hd : d < 2) : (2 * a + b) &&& (2 * c + d) = 2 * (a &&& c) + b * d := by
  have h1 : ((2 * a + b) &&& (2 * c + d)) / 2 = a &&& c := by
    rw [Nat.and_div_two]
    have e1 : (2 * a + b) / 2 = a := by omega
    have e2 : (2 * c + d) / 2 = c := by omega
    rw [e1, e2]
  have h2 : ((2 * a + b) &&& (2 * c + d)) % 2 = b * d := by
    have h3 := Nat.and_mod_two_eq_one (a := 2 * a + b) (b := 2 * c + d)
    have h4 : b = 0 ∨ b = 1 := by omega
    have h5 : d = 0 ∨ d = 1 := by omega
    clear h1
    generalize (2 * a + b) &&& (2 * c + d) = X at *
    rcases h4 with rfl | rfl <;> rcases h5 with rfl | rfl <;> omega
  omega
theorem pcn_kern : ∀ n x, 0 < x → x < 2 ^ n → pcn n (x &&& (x - 1)) + 1 = pcn n x
  | 0, x, h0, h1 => by simp at h1; omega
  | n + 1, x, h0, h1 => by
    have hx : x = 2 * (x / 2) + x % 2 := by omega
    have h2 : x % 2 < 2 := Nat.mod_lt _ (by decide)
    by_cases hb : x % 2 = 1
    · have e : x - 1 = 2 * (x / 2) + 0 := by omega
      have e2 : x &&& (x - 1) = 2 * (x / 2) := by
        rw [e]
        have := and2 (x / 2) 1 (x / 2) 0 (by decide) (by decide)
        rw [Nat.and_self] at this
        rw [show x &&& (2 * (x / 2) + 0) = (2 * (x / 2) + 1) &&& (2 * (x / 2) + 0) by rw [show 2 * (x / 2) + 1 = x by omega]]
        rw [this]; omega
      rw [e2]
      unfold pcn
      have e3 : 2 * (x / 2) / 2 = x / 2 := by omega
      have e4 : 2 * (x / 2) % 2 = 0 := by omega
      rw [e3, e4, hb]
      omega
    · have hy : 0 < x / 2 := by omega
      have e : x - 1 = 2 * (x / 2 - 1) + 1 := by omega
      have e2 : x &&& (x - 1) = 2 * (x / 2 &&& (x / 2 - 1)) := by
        have := and2 (x / 2) 0 (x / 2 - 1) 1 (by decide) (by decide)
        rw [e, show x &&& (2 * (x / 2 - 1) + 1) = (2 * (x / 2) + 0) &&& (2 * (x / 2 - 1) + 1) by rw [show 2 * (x / 2) + 0 = x by omega]]
        rw [this]; omega
      rw [e2]
      unfold pcn
      have e3 : 2 * (x / 2 &&& (x / 2 - 1)) / 2 = (x / 2 &&& (x / 2 - 1)) := by omega
      have e4 : 2 * (x / 2 &&& (x / 2 - 1)) % 2 = 0 := by omega
      rw [e3, e4]
      have ih := pcn_kern n (x / 2) hy (by rw [Nat.pow_succ] at h1; omega)
      omega
theorem nI_self (x : Int32) : nI x.toBitVec.toNat = x := by
  apply Int32.toBitVec_inj.mp
  apply BitVec.eq_of_toNat_eq
  rw [pk_tn x.toBitVec.isLt]
theorem nI_and {a b : Nat} (ha : a < 2 ^ 32) (hb : b < 2 ^ 32) : nI a &&& nI b = nI (a &&& b) := by
  apply Int32.toBitVec_inj.mp
  apply BitVec.eq_of_toNat_eq
  rw [Int32.toBitVec_and, BitVec.toNat_and, pk_tn ha, pk_tn hb, pk_tn (Nat.and_lt_two_pow _ hb)]
theorem nI_zero {n : Nat} (h : n < 2 ^ 32) : nI n = 0 ↔ n = 0 := by
  constructor
  · intro e
    have := congrArg (fun z : Int32 => z.toBitVec.toNat) e
    simp only [pk_tn h] at this
    simpa using this
  · rintro rfl; rfl
theorem bits_loop (cl : Nat → List Value → ej_Mem → Option ej_R) (l0 : Int32) (M : ej_Mem) : ∀ (n k x : Nat), x < 2 ^ 32 → pcn 32 x = n → rn jm_Ref_bits cl 4 [some (.int l0), some (.int (nI k)), some (.int (nI x))] [] M = some (some (.int (nI (k + n))), M) := by
  intro n
  induction n with
  | zero =>
    intro k x hx hp
    rw [eq_Ref_bits_4]
    by_cases h : x = 0
    · subst h; rw [if_pos nI_0]; rfl
    · have := pcn_kern 32 x (by omega) hx
      omega
  | succ n ih =>
    intro k x hx hp
    rw [eq_Ref_bits_4]
    have h : x ≠ 0 := by
      rintro rfl
      have : pcn 32 0 = 0 := by decide
      omega
    rw [if_neg (fun e => h ((nI_zero hx).mp e))]
    have e1 : nI x - 1 = nI (x - 1) := by
      have := nI_pred (x - 1)
      rw [show x - 1 + 1 = x by omega] at this
      exact this
    have e2 := pcn_kern 32 x (by omega) hx
    rw [e1, nI_and hx (by omega), nI_1, ih (k + 1) (x &&& (x - 1)) (Nat.lt_of_le_of_lt Nat.and_le_left hx) (by omega)]
    rw [show k + 1 + n = k + (n + 1) by omega]
theorem p_Ref_bits {D : Nat} (hD : 1 ≤ D) (x : Int32) (M : ej_Mem) : cal D jm_Ref_bits [.int x] M = some (some (.int (nI (pc x))), M) := by
  obtain ⟨d, rfl⟩ : ∃ d, D = d + 1 := ⟨D - 1, by omega⟩
  rw [ca_Ref_bits, eq_Ref_bits_0]
  have := bits_loop (cal d) x M (pc x) 0 x.toBitVec.toNat x.toBitVec.isLt rfl
  rw [nI_self, Nat.zero_add] at this
  exact this
def M5 : Nat → Nat
  | 0 => 0
  | n + 1 => 4 * M5 n + 1
def M3 : Nat → Nat
  | 0 => 0
  | n + 1 => 16 * M3 n + 3
def MF : Nat → Nat
  | 0 => 0
  | n + 1 => 256 * MF n + 15
def P5 : Nat → Nat → Nat
  | 0, _ => 0
  | n + 1, x => 4 * P5 n (x / 4) + (x % 2 + x / 2 % 2)
def pc4 (x : Nat) : Nat := x % 2 + x / 2 % 2 + x / 4 % 2 + x / 8 % 2
def P3 : Nat → Nat → Nat
  | 0, _ => 0
  | n + 1, x => 16 * P3 n (x / 16) + pc4 x
def PF : Nat → Nat → Nat
  | 0, _ => 0
  | n + 1, x => 256 * PF n (x / 256) + (pc4 x + pc4 (x / 16))
theorem and4 (a m : Nat) : a &&& (4 * m + 1) = 4 * (a / 4 &&& m) + a % 2 := by
  have h1 := Nat.and_div_two_pow (a := a) (b := 4 * m + 1) (n := 2)
  have h2 := Nat.and_mod_two_pow (a := a) (b := 4 * m + 1) (n := 2)
  have e1 : (4 * m + 1) / 2 ^ 2 = m := by omega
  have e2 : (4 * m + 1) % 2 ^ 2 = 2 ^ 1 - 1 := by omega
  rw [e1] at h1
  rw [e2, Nat.and_two_pow_sub_one_eq_mod] at h2
  simp only [show (2 : Nat) ^ 2 = 4 from rfl, show (2 : Nat) ^ 1 = 2 from rfl] at h1 h2
  omega
theorem and16 (a m : Nat) : a &&& (16 * m + 3) = 16 * (a / 16 &&& m) + a % 4 := by
  have h1 := Nat.and_div_two_pow (a := a) (b := 16 * m + 3) (n := 4)
  have h2 := Nat.and_mod_two_pow (a := a) (b := 16 * m + 3) (n := 4)
  have e1 : (16 * m + 3) / 2 ^ 4 = m := by omega
  have e2 : (16 * m + 3) % 2 ^ 4 = 2 ^ 2 - 1 := by omega
  rw [e1] at h1
  rw [e2, Nat.and_two_pow_sub_one_eq_mod] at h2
  simp only [show (2 : Nat) ^ 4 = 16 from rfl, show (2 : Nat) ^ 2 = 4 from rfl] at h1 h2
  omega
theorem and256 (a m : Nat) : a &&& (256 * m + 15) = 256 * (a / 256 &&& m) + a % 16 := by
  have h1 := Nat.and_div_two_pow (a := a) (b := 256 * m + 15) (n := 8)
  have h2 := Nat.and_mod_two_pow (a := a) (b := 256 * m + 15) (n := 8)
  have e1 : (256 * m + 15) / 2 ^ 8 = m := by omega
  have e2 : (256 * m + 15) % 2 ^ 8 = 2 ^ 4 - 1 := by omega
  rw [e1] at h1
  rw [e2, Nat.and_two_pow_sub_one_eq_mod] at h2
  simp only [show (2 : Nat) ^ 8 = 256 from rfl, show (2 : Nat) ^ 4 = 16 from rfl] at h1 h2
  omega
theorem P5_eq : ∀ n x, x < 4 ^ n → (x / 2 &&& M5 n) ≤ x ∧ x - (x / 2 &&& M5 n) = P5 n x
  | 0, x, h => by
    have : x = 0 := by simp at h; exact h
    subst this
    simp [M5, P5]
  | n + 1, x, h => by
    obtain ⟨h1, h2⟩ := P5_eq n (x / 4) (by rw [Nat.pow_succ] at h; omega)
    unfold M5 P5
    rw [and4]
    have e : x / 2 / 4 = x / 4 / 2 := by omega
    rw [e]
    generalize x / 4 / 2 &&& M5 n = u at *
    generalize P5 n (x / 4) = v at *
    omega
theorem P3_eq : ∀ n x, (P5 (2 * n) x &&& M3 n) + (P5 (2 * n) x / 4 &&& M3 n) = P3 n x
  | 0, x => by simp [M3, P3]
  | n + 1, x => by
    have ih := P3_eq n (x / 16)
    have e : 2 * (n + 1) = 2 * n + 1 + 1 := by omega
    rw [e]
    unfold M3 P3
    rw [and16, and16]
    have e2 : P5 (2 * n + 1 + 1) x = 16 * P5 (2 * n) (x / 16) + (4 * (x / 4 % 2 + x / 4 / 2 % 2) + (x % 2 + x / 2 % 2)) := by
      show 4 * (4 * P5 (2 * n) (x / 4 / 4) + (x / 4 % 2 + x / 4 / 2 % 2)) + (x % 2 + x / 2 % 2) = _
      rw [show x / 4 / 4 = x / 16 by omega]
      omega
    rw [e2]
    have hd : x / 4 / 2 = x / 8 := by omega
    rw [hd]
    clear e2
    generalize P5 (2 * n) (x / 16) = y at *
    have k0 : x % 2 < 2 := Nat.mod_lt _ (by decide)
    have k1 : x / 2 % 2 < 2 := Nat.mod_lt _ (by decide)
    have k2 : x / 4 % 2 < 2 := Nat.mod_lt _ (by decide)
    have k3 : x / 8 % 2 < 2 := Nat.mod_lt _ (by decide)
    unfold pc4
    generalize x % 2 = b0 at *
    generalize x / 2 % 2 = b1 at *
    generalize x / 4 % 2 = b2 at *
    generalize x / 8 % 2 = b3 at *
    have f1 : (16 * y + (4 * (b2 + b3) + (b0 + b1))) / 16 = y := by omega
    have f2 : (16 * y + (4 * (b2 + b3) + (b0 + b1))) / 4 = 4 * y + (b2 + b3) := by omega
    have f3 : (4 * y + (b2 + b3)) / 16 = y / 4 := by omega
    rw [f1, f2, f3]
    generalize y &&& M3 n = u at *
    generalize y / 4 &&& M3 n = v at *
    omega
theorem pc4_le (x : Nat) : pc4 x ≤ 4 := by unfold pc4; omega
theorem P3_mod (n x : Nat) : P3 n x % 16 ≤ 4 := by
  cases n with
  | zero => exact Nat.zero_le _
  | succ n =>
    have := pc4_le x
    unfold P3
    omega
theorem PF_eq : ∀ n x, (P3 (2 * n) x + P3 (2 * n) x / 16) &&& MF n = PF n x
  | 0, x => by simp [MF, PF]
  | n + 1, x => by
    have ih := PF_eq n (x / 256)
    have e : 2 * (n + 1) = 2 * n + 1 + 1 := by omega
    rw [e]
    unfold MF PF
    rw [and256]
    have e2 : P3 (2 * n + 1 + 1) x = 256 * P3 (2 * n) (x / 256) + (16 * pc4 (x / 16) + pc4 x) := by
      show 16 * (16 * P3 (2 * n) (x / 16 / 16) + pc4 (x / 16)) + pc4 x = _
      rw [show x / 16 / 16 = x / 256 by omega]
      omega
    rw [e2]
    have g1 := pc4_le x
    have g2 := pc4_le (x / 16)
    have g3 := P3_mod (2 * n) (x / 256)
    generalize P3 (2 * n) (x / 256) = y at *
    generalize pc4 x = a at *
    generalize pc4 (x / 16) = b at *
    have f1 : (256 * y + (16 * b + a) + (256 * y + (16 * b + a)) / 16) / 256 = y + y / 16 := by omega
    rw [f1, ih]
    omega
theorem pcn_4 (n x : Nat) : pcn (n + 4) x = pc4 x + pcn n (x / 16) := by
  show x % 2 + (x / 2 % 2 + (x / 2 / 2 % 2 + (x / 2 / 2 / 2 % 2 + pcn n (x / 2 / 2 / 2 / 2)))) = _
  unfold pc4
  rw [show x / 2 / 2 / 2 / 2 = x / 16 by omega]
  omega
theorem pcn_32 (x : Nat) : pcn 32 x = pc4 x + (pc4 (x / 16) + (pc4 (x / 256) + (pc4 (x / 256 / 16) + (pc4 (x / 256 / 256) + (pc4 (x / 256 / 256 / 16) + (pc4 (x / 256 / 256 / 256) + pc4 (x / 256 / 256 / 256 / 16))))))) := by
  rw [pcn_4 28, pcn_4 24, pcn_4 20, pcn_4 16, pcn_4 12, pcn_4 8, pcn_4 4, pcn_4 0]
  have e1 : x / 16 / 16 = x / 256 := by omega
  have e2 : x / 256 / 16 / 16 = x / 256 / 256 := by omega
  have e3 : x / 256 / 256 / 16 / 16 = x / 256 / 256 / 256 := by omega
  rw [e1, e2, e3]
  show _ + (_ + (_ + (_ + (_ + (_ + (_ + (_ + 0))))))) = _
  rw [Nat.add_zero]
theorem PF_4 (x : Nat) : PF 4 x = 256 * (256 * (256 * (pc4 (x / 256 / 256 / 256) + pc4 (x / 256 / 256 / 256 / 16)) + (pc4 (x / 256 / 256) + pc4 (x / 256 / 256 / 16))) + (pc4 (x / 256) + pc4 (x / 256 / 16))) + (pc4 x + pc4 (x / 16)) := by
  show 256 * (256 * (256 * (256 * 0 + (pc4 (x / 256 / 256 / 256) + pc4 (x / 256 / 256 / 256 / 16))) + (pc4 (x / 256 / 256) + pc4 (x / 256 / 256 / 16))) + (pc4 (x / 256) + pc4 (x / 256 / 16))) + (pc4 x + pc4 (x / 16)) = _
  rw [Nat.mul_zero, Nat.zero_add]
theorem ushr_N {n : Nat} (hn : n < 2 ^ 32) (s : Int32) (k : Nat) (hs : ((s.toUInt32 &&& Int32.toUInt32 31).toBitVec % 32).toNat = k) : ej_bin 8 (nI n) s = nI (n / 2 ^ k) := pk_ushrN hn s k hs
theorem p_bitCount {D : Nat} (hD : 1 ≤ D) (l0 : Int32) (M : ej_Mem) : cal D jm_Intg_bitCount_0f7a4 [.int l0] M = some (some (.int (nI (pc l0))), M) := by
  obtain ⟨d, rfl⟩ : ∃ d, D = d + 1 := ⟨D - 1, by omega⟩
  rw [ca_Intg_bitCount_0f7a4, eq_Intg_bitCount_0f7a4_0]
  have hx := l0.toBitVec.isLt
  have hp : pc l0 = pcn 32 l0.toBitVec.toNat := rfl
  rw [hp]
  rw [show l0 = nI l0.toBitVec.toNat from (nI_self l0).symm]
  rw [pk_tn hx]
  generalize l0.toBitVec.toNat = x at *
  obtain ⟨q1, q2⟩ := P5_eq 16 x hx
  have e1 : nI x - (ej_bin 8 (nI x) 1 &&& 1431655765) = nI (P5 16 x) := by
    rw [ushr_N hx 1 1 (by decide), show (1431655765 : Int32) = nI (M5 16) from by decide, nI_and (by omega) (by decide), pk_sub q1, q2]
  rw [e1]
  have hb1 : P5 16 x < 2 ^ 32 := by omega
  have q3 := P3_eq 8 x
  have e2 : (nI (P5 16 x) &&& 858993459) + (ej_bin 8 (nI (P5 16 x)) 2 &&& 858993459) = nI (P3 8 x) := by
    rw [ushr_N hb1 2 2 (by decide), show (858993459 : Int32) = nI (M3 8) from by decide, nI_and hb1 (by decide), nI_and (by omega) (by decide), nI_add]
    exact congrArg nI q3
  rw [e2]
  have q4 := PF_eq 4 x
  have hb2 : P3 8 x ≤ 2 * M3 8 := by
    rw [← q3]
    have a1 := @Nat.and_le_right (P5 (2 * 8) x) (M3 8)
    have a2 := @Nat.and_le_right (P5 (2 * 8) x / 4) (M3 8)
    omega
  have hm3 : M3 8 = 858993459 := by decide
  have e3 : (nI (P3 8 x) + ej_bin 8 (nI (P3 8 x)) 4) &&& 252645135 = nI (PF 4 x) := by
    rw [ushr_N (by omega) 4 4 (by decide), show (252645135 : Int32) = nI (MF 4) from by decide, nI_add, nI_and (by omega) (by decide)]
    exact congrArg nI q4
  rw [e3]
  have h := PF_4 x
  have hs := pcn_32 x
  have b1 := pc4_le x
  have b2 := pc4_le (x / 16)
  have b3 := pc4_le (x / 256)
  have b4 := pc4_le (x / 256 / 16)
  have b5 := pc4_le (x / 256 / 256)
  have b6 := pc4_le (x / 256 / 256 / 16)
  have b7 := pc4_le (x / 256 / 256 / 256)
  have b8 := pc4_le (x / 256 / 256 / 256 / 16)
  rw [hs]
  generalize PF 4 x = w at *
  generalize pc4 x = c1 at *
  generalize pc4 (x / 16) = c2 at *
  generalize pc4 (x / 256) = c3 at *
  generalize pc4 (x / 256 / 16) = c4 at *
  generalize pc4 (x / 256 / 256) = c5 at *
  generalize pc4 (x / 256 / 256 / 16) = c6 at *
  generalize pc4 (x / 256 / 256 / 256) = c7 at *
  generalize pc4 (x / 256 / 256 / 256 / 16) = c8 at *
  rw [ushr_N (by omega : w < 2 ^ 32) 8 8 (by decide), nI_add, ushr_N (by omega) 16 16 (by decide), nI_add, pk_andN (by omega) 6 (by decide)]
  refine congrArg (fun z => some (some (Value.int (nI z)), M)) ?_
  clear hs hb1 hb2 hm3 q1 q2 q3 q4 e1 e2 e3 hp hx
  have g1 : w / 2 ^ 8 = 65536 * (c7 + c8) + 256 * (c5 + c6) + (c3 + c4) := by omega
  rw [g1]
  have g2 : (w + (65536 * (c7 + c8) + 256 * (c5 + c6) + (c3 + c4))) / 2 ^ 16 = 256 * (c7 + c8) + (c5 + c6) + (c7 + c8) := by omega
  rw [g2]
  omega
