/-! single bits of ints and longs -/
def bI (x : Int32) (k : Nat) : Bool := x.toBitVec.getLsbD k
def bJ (x : Int64) (k : Nat) : Bool := x.toBitVec.getLsbD k
theorem sh64 : ∀ k, k < 64 → ((nI k).toInt64 &&& 63).toBitVec.smod 64 = BitVec.ofNat 64 k := by decide +kernel
theorem sh32 : ∀ k, k < 32 → (nI k &&& 31).toBitVec.smod 32 = BitVec.ofNat 32 k := by decide +kernel
theorem bJ_ext {x y : Int64} (h : ∀ k, k < 64 → bJ x k = bJ y k) : x = y := by
  apply Int64.toBitVec_inj.mp
  apply BitVec.eq_of_getLsbD_eq
  intro i hi
  exact h i hi
theorem bI_ext {x y : Int32} (h : ∀ k, k < 32 → bI x k = bI y k) : x = y := by
  apply Int32.toBitVec_inj.mp
  apply BitVec.eq_of_getLsbD_eq
  intro i hi
  exact h i hi
theorem bJ_or (x y : Int64) (k : Nat) : bJ (x ||| y) k = (bJ x k || bJ y k) := by unfold bJ; simp
theorem bJ_and (x y : Int64) (k : Nat) : bJ (x &&& y) k = (bJ x k && bJ y k) := by unfold bJ; simp
theorem bJ_not {x : Int64} {k : Nat} (hk : k < 64) : bJ (x ^^^ -1) k = !(bJ x k) := by
  unfold bJ
  have e : (-1 : Int64).toBitVec = BitVec.allOnes 64 := by decide
  rw [Int64.toBitVec_xor, e, BitVec.getLsbD_xor, BitVec.getLsbD_allOnes]
  simp [hk]
theorem bI_or (x y : Int32) (k : Nat) : bI (x ||| y) k = (bI x k || bI y k) := by unfold bI; simp
theorem bI_and (x y : Int32) (k : Nat) : bI (x &&& y) k = (bI x k && bI y k) := by unfold bI; simp
theorem bI_not {x : Int32} {k : Nat} (hk : k < 32) : bI (x ^^^ -1) k = !(bI x k) := by
  unfold bI
  have e : (-1 : Int32).toBitVec = BitVec.allOnes 32 := by decide
  rw [Int32.toBitVec_xor, e, BitVec.getLsbD_xor, BitVec.getLsbD_allOnes]
  simp [hk]
theorem bJ_0 (k : Nat) : bJ 0 k = false := by
  unfold bJ
  have e : (0 : Int64).toBitVec = 0#64 := by decide
  rw [e]; simp
theorem bI_0 (k : Nat) : bI 0 k = false := by
  unfold bI
  have e : (0 : Int32).toBitVec = 0#32 := by decide
  rw [e]; simp
theorem bJ_shl {m k : Nat} (hm : m < 64) (hk : k < 64) : bJ (ej_ls 0 1 (nI m)) k = decide (k = m) := by
  unfold bJ ej_ls
  show (1 <<< ((nI m).toInt64 &&& 63) : Int64).toBitVec.getLsbD k = _
  have e : (1 : Int64).toBitVec = 1#64 := by decide
  rw [Int64.toBitVec_shiftLeft, sh64 m hm, e, BitVec.getLsbD_shiftLeft', BitVec.getLsbD_one, BitVec.toNat_ofNat, Nat.mod_eq_of_lt (by omega : m < 2 ^ 64)]
  by_cases h : k = m
  · subst h; simp [hk]
  · by_cases h2 : k < m
    · simp [h, h2]
    · have : ¬ k - m = 0 := by omega
      simp [h, h2, this]
theorem bI_shl {m k : Nat} (hm : m < 32) (hk : k < 32) : bI (1 <<< (nI m &&& 31)) k = decide (k = m) := by
  unfold bI
  have e : (1 : Int32).toBitVec = 1#32 := by decide
  rw [Int32.toBitVec_shiftLeft, sh32 m hm, e, BitVec.getLsbD_shiftLeft', BitVec.getLsbD_one, BitVec.toNat_ofNat, Nat.mod_eq_of_lt (by omega : m < 2 ^ 32)]
  by_cases h : k = m
  · subst h; simp [hk]
  · by_cases h2 : k < m
    · simp [h, h2]
    · have : ¬ k - m = 0 := by omega
      simp [h, h2, this]
theorem bJ_low {x : Int64} {m : Nat} (hm : m < 64) (k : Nat) : bJ (ej_ls 1 x (nI m) &&& 1) k = (decide (k = 0) && bJ x m) := by
  rw [bJ_and]
  unfold bJ ej_ls
  show ((x >>> ((nI m).toInt64 &&& 63) : Int64).toBitVec.getLsbD k && _) = _
  have e : (1 : Int64).toBitVec = 1#64 := by decide
  rw [Int64.toBitVec_shiftRight, sh64 m hm, e, BitVec.getLsbD_one]
  show ((x.toBitVec.sshiftRight (BitVec.ofNat 64 m).toNat).getLsbD k && _) = _
  rw [BitVec.getLsbD_sshiftRight, BitVec.toNat_ofNat, Nat.mod_eq_of_lt (by omega : m < 2 ^ 64)]
  by_cases h : k = 0
  · subst h
    simp [hm]
  · simp [h]
theorem bI_low {x : Int32} {m : Nat} (hm : m < 32) (k : Nat) : bI ((x >>> (nI m &&& 31)) &&& 1) k = (decide (k = 0) && bI x m) := by
  rw [bI_and]
  unfold bI
  have e : (1 : Int32).toBitVec = 1#32 := by decide
  rw [Int32.toBitVec_shiftRight, sh32 m hm, e, BitVec.getLsbD_one]
  show ((x.toBitVec.sshiftRight (BitVec.ofNat 32 m).toNat).getLsbD k && _) = _
  rw [BitVec.getLsbD_sshiftRight, BitVec.toNat_ofNat, Nat.mod_eq_of_lt (by omega : m < 2 ^ 32)]
  by_cases h : k = 0
  · subst h
    simp [hm]
  · simp [h]
theorem bI_1 (k : Nat) : bI 1 k = decide (k = 0) := by
  unfold bI
  have e : (1 : Int32).toBitVec = 1#32 := by decide
  rw [e, BitVec.getLsbD_one]; simp
theorem low_0 {x : Int32} {m : Nat} (hm : m < 32) : (x >>> (nI m &&& 31)) &&& 1 = 0 ↔ bI x m = false := by
  constructor
  · intro e
    have h := bI_low (x := x) hm 0
    rw [e, bI_0] at h
    simpa using h.symm
  · intro e
    apply bI_ext
    intro k hk
    rw [bI_low hm, e, bI_0]; simp
theorem low_1 {x : Int32} {m : Nat} (hm : m < 32) : (x >>> (nI m &&& 31)) &&& 1 = 1 ↔ bI x m = true := by
  constructor
  · intro e
    have h := bI_low (x := x) hm 0
    rw [e, bI_1] at h
    simpa using h.symm
  · intro e
    apply bI_ext
    intro k hk
    rw [bI_low hm, e, bI_1]; simp
theorem bitI_eq {x : Int32} {m : Nat} (hm : m < 32) : bitI x m = bI x m := by
  unfold bitI
  cases h : bI x m
  · rw [decide_eq_false_iff_not, low_1 hm, h]; decide
  · rw [decide_eq_true_iff, low_1 hm, h]
theorem lg_cmp_0 (x : Int64) : lg_cmp x 0 = 0 ↔ x = 0 := lg_cmp_eq x 0
theorem lowJ_0 {x : Int64} {m : Nat} (hm : m < 64) : lg_cmp (ej_ls 1 x (nI m) &&& 1) 0 = 0 ↔ bJ x m = false := by
  rw [lg_cmp_0]
  constructor
  · intro e
    have h := bJ_low (x := x) hm 0
    rw [e, bJ_0] at h
    simpa using h.symm
  · intro e
    apply bJ_ext
    intro k hk
    rw [bJ_low hm, e, bJ_0]; simp
