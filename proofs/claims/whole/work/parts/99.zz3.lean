/-! the loop of the law (written by wip/gen/lw.py) -/
theorem LI.s {L : Nat} {xs : Nat → Int32} {n : Nat} {M : ej_Mem} (h : LI L xs n M) : SCR L xs M ∧ mC M 59 = 8 := by
  obtain ⟨own, V, mk, t, tp, z, s, mn, q, _⟩ := h
  exact ⟨q.sc, q.ci.1.1.1⟩
theorem LI.skip {L : Nat} {xs : Nat → Int32} {n : Nat} {M : ej_Mem} (h : LI L xs n M) : LI L xs (n + 1) M := by
  obtain ⟨own, V, mk, t, tp, z, s, mn, q, h1, h2, h3⟩ := h
  exact ⟨own, V, mk, t, tp, z, s, mn, q, by omega, by omega, by omega⟩
theorem law_cmp {L m : Nat} (hL : L ≤ 3072) (hm : m < 2 ^ 30) : (Int32.ofNat L - 6 < nI m) ↔ L < m + 6 := by
  rw [Int32.lt_iff_toInt_lt, show (Int32.ofNat L - 6) = nI L - nI 6 from rfl, pk_sub_toInt (by omega) (by decide), nI_toInt (by omega)]
  omega
theorem w_b {L n k : Nat} {j : Int32} (hk : k < 6) (hj : j = nI k) (hl : 6 * n + 6 ≤ L) (hL : L ≤ 3072) : (∀ K : Option ej_R, ckb (nI (6 * n) + j) L K = K) ∧ Int32.toNatClampNeg (nI (6 * n) + j) = 6 * n + k := by
  rw [hj, nI_add]
  exact ⟨fun K => ckb_n (by omega) (by omega) K, nI_clamp (by omega)⟩
theorem w_feed {L : Nat} {xs : Nat → Int32} {n : Nat} {M : ej_Mem} (h : LI L xs n M) (hl : 6 * n + 6 ≤ L) (hL : L ≤ 3072) : ∃ M2, rn jm_Law_law (cal 13) 180 [some (.ref 0), some (.ref 59), some (.ref 90), some (.int (nI (6 * n)))] [] M = rn jm_Law_law (cal 13) 1360 [some (.ref 0), some (.ref 59), some (.ref 90), some (.int (nI (6 * n)))] [] M2 ∧ LI L xs (n + 1) M2 := by
  obtain ⟨v, M1, M2, e1, s1, n1, e2, h2⟩ := lc_feed h (by omega) (xs (6 * n + 1)) (xs (6 * n + 2)) (xs (6 * n + 3)) (xs (6 * n + 4)) (xs (6 * n + 5))
  obtain ⟨s0, c0⟩ := h.s
  have B1 := w_b (k := 1) (j := 1) (by decide) rfl hl hL
  have B2 := w_b (k := 2) (j := 2) (by decide) rfl hl hL
  have B3 := w_b (k := 3) (j := 3) (by decide) rfl hl hL
  have B4 := w_b (k := 4) (j := 4) (by decide) rfl hl hL
  have B5 := w_b (k := 5) (j := 5) (by decide) rfl hl hL
  refine ⟨M2, ?_, h2⟩
  rw [eq_Law_law_180]
  simp only [s0.1, s0.2.1, s0.2.2, c0, B1.1, B1.2, B2.1, B2.2, B3.1, B3.2, B4.1, B4.2, B5.1, B5.2, ckk_T, eq_self, e1, bkI_s, s1.1, s1.2.1, s1.2.2, n1, e2, if_true]
theorem w_end {L : Nat} {xs : Nat → Int32} {n : Nat} {M : ej_Mem} (h : LI L xs n M) (hl : 6 * n + 6 ≤ L) (hL : L ≤ 3072) : ∃ M2, rn jm_Law_law (cal 13) 243 [some (.ref 0), some (.ref 59), some (.ref 90), some (.int (nI (6 * n)))] [] M = rn jm_Law_law (cal 13) 1360 [some (.ref 0), some (.ref 59), some (.ref 90), some (.int (nI (6 * n)))] [] M2 ∧ LI L xs (n + 1) M2 := by
  obtain ⟨v, M1, M2, e1, s1, n1, e2, h2⟩ := lc_end h (by omega) (xs (6 * n + 1))
  obtain ⟨s0, c0⟩ := h.s
  have B1 := w_b (k := 1) (j := 1) (by decide) rfl hl hL
  refine ⟨M2, ?_, h2⟩
  rw [eq_Law_law_243]
  simp only [s0.1, s0.2.1, s0.2.2, c0, B1.1, B1.2, ckk_T, eq_self, e1, bkI_s, s1.1, s1.2.1, s1.2.2, n1, e2, if_true]
theorem w_text {L : Nat} {xs : Nat → Int32} {n : Nat} {M : ej_Mem} (h : LI L xs n M) (hl : 6 * n + 6 ≤ L) (hL : L ≤ 3072) : ∃ M2, rn jm_Law_law (cal 13) 266 [some (.ref 0), some (.ref 59), some (.ref 90), some (.int (nI (6 * n)))] [] M = rn jm_Law_law (cal 13) 1360 [some (.ref 0), some (.ref 59), some (.ref 90), some (.int (nI (6 * n)))] [] M2 ∧ LI L xs (n + 1) M2 := by
  obtain ⟨v, M1, M2, e1, s1, n1, e2, h2⟩ := lc_text h (by omega) (xs (6 * n + 1))
  obtain ⟨s0, c0⟩ := h.s
  have B1 := w_b (k := 1) (j := 1) (by decide) rfl hl hL
  refine ⟨M2, ?_, h2⟩
  rw [eq_Law_law_266]
  simp only [s0.1, s0.2.1, s0.2.2, c0, B1.1, B1.2, ckk_T, eq_self, e1, bkI_s, s1.1, s1.2.1, s1.2.2, n1, e2, if_true]
theorem w_open {L : Nat} {xs : Nat → Int32} {n : Nat} {M : ej_Mem} (h : LI L xs n M) (hl : 6 * n + 6 ≤ L) (hL : L ≤ 3072) : ∃ M2, rn jm_Law_law (cal 13) 289 [some (.ref 0), some (.ref 59), some (.ref 90), some (.int (nI (6 * n)))] [] M = rn jm_Law_law (cal 13) 1360 [some (.ref 0), some (.ref 59), some (.ref 90), some (.int (nI (6 * n)))] [] M2 ∧ LI L xs (n + 1) M2 := by
  obtain ⟨v, M1, M2, e1, s1, n1, e2, h2⟩ := lc_open h (by omega) (xs (6 * n + 1)) (xs (6 * n + 2)) (xs (6 * n + 3))
  obtain ⟨s0, c0⟩ := h.s
  have B1 := w_b (k := 1) (j := 1) (by decide) rfl hl hL
  have B2 := w_b (k := 2) (j := 2) (by decide) rfl hl hL
  have B3 := w_b (k := 3) (j := 3) (by decide) rfl hl hL
  refine ⟨M2, ?_, h2⟩
  rw [eq_Law_law_289]
  simp only [s0.1, s0.2.1, s0.2.2, c0, B1.1, B1.2, B2.1, B2.2, B3.1, B3.2, ckk_T, eq_self, e1, bkI_s, s1.1, s1.2.1, s1.2.2, n1, e2, if_true]
theorem w_force {L : Nat} {xs : Nat → Int32} {n : Nat} {M : ej_Mem} (h : LI L xs n M) (hl : 6 * n + 6 ≤ L) (hL : L ≤ 3072) : ∃ M2, rn jm_Law_law (cal 13) 332 [some (.ref 0), some (.ref 59), some (.ref 90), some (.int (nI (6 * n)))] [] M = rn jm_Law_law (cal 13) 1360 [some (.ref 0), some (.ref 59), some (.ref 90), some (.int (nI (6 * n)))] [] M2 ∧ LI L xs (n + 1) M2 := by
  obtain ⟨v, M1, M2, e1, s1, n1, e2, h2⟩ := lc_force h (by omega) (xs (6 * n + 1))
  obtain ⟨s0, c0⟩ := h.s
  have B1 := w_b (k := 1) (j := 1) (by decide) rfl hl hL
  refine ⟨M2, ?_, h2⟩
  rw [eq_Law_law_332]
  simp only [s0.1, s0.2.1, s0.2.2, c0, B1.1, B1.2, ckk_T, eq_self, e1, bkI_s, s1.1, s1.2.1, s1.2.2, n1, e2, if_true]
theorem w_holds {L : Nat} {xs : Nat → Int32} {n : Nat} {M : ej_Mem} (h : LI L xs n M) (hl : 6 * n + 6 ≤ L) (hL : L ≤ 3072) : ∃ M2, rn jm_Law_law (cal 13) 355 [some (.ref 0), some (.ref 59), some (.ref 90), some (.int (nI (6 * n)))] [] M = rn jm_Law_law (cal 13) 1360 [some (.ref 0), some (.ref 59), some (.ref 90), some (.int (nI (6 * n)))] [] M2 ∧ LI L xs (n + 1) M2 := by
  obtain ⟨v, M1, M2, e1, s1, n1, e2, h2⟩ := lc_holds h (by omega) (xs (6 * n + 1)) (xs (6 * n + 2))
  obtain ⟨s0, c0⟩ := h.s
  have B1 := w_b (k := 1) (j := 1) (by decide) rfl hl hL
  have B2 := w_b (k := 2) (j := 2) (by decide) rfl hl hL
  refine ⟨M2, ?_, h2⟩
  rw [eq_Law_law_355]
  simp only [s0.1, s0.2.1, s0.2.2, c0, B1.1, B1.2, B2.1, B2.2, ckk_T, eq_self, e1, bkI_s, s1.1, s1.2.1, s1.2.2, n1, e2, if_true]
theorem w_first {L : Nat} {xs : Nat → Int32} {n : Nat} {M : ej_Mem} (h : LI L xs n M) (hl : 6 * n + 6 ≤ L) (hL : L ≤ 3072) : ∃ M2, rn jm_Law_law (cal 13) 388 [some (.ref 0), some (.ref 59), some (.ref 90), some (.int (nI (6 * n)))] [] M = rn jm_Law_law (cal 13) 1360 [some (.ref 0), some (.ref 59), some (.ref 90), some (.int (nI (6 * n)))] [] M2 ∧ LI L xs (n + 1) M2 := by
  obtain ⟨v, M1, M2, e1, s1, n1, e2, h2⟩ := lc_first h (by omega) (xs (6 * n + 1))
  obtain ⟨s0, c0⟩ := h.s
  have B1 := w_b (k := 1) (j := 1) (by decide) rfl hl hL
  refine ⟨M2, ?_, h2⟩
  rw [eq_Law_law_388]
  simp only [s0.1, s0.2.1, s0.2.2, c0, B1.1, B1.2, ckk_T, eq_self, e1, bkI_s, s1.1, s1.2.1, s1.2.2, n1, e2, if_true]
theorem w_wished {L : Nat} {xs : Nat → Int32} {n : Nat} {M : ej_Mem} (h : LI L xs n M) (hl : 6 * n + 6 ≤ L) (hL : L ≤ 3072) : ∃ M2, rn jm_Law_law (cal 13) 411 [some (.ref 0), some (.ref 59), some (.ref 90), some (.int (nI (6 * n)))] [] M = rn jm_Law_law (cal 13) 1360 [some (.ref 0), some (.ref 59), some (.ref 90), some (.int (nI (6 * n)))] [] M2 ∧ LI L xs (n + 1) M2 := by
  obtain ⟨v, M1, M2, e1, s1, n1, e2, h2⟩ := lc_wished h (by omega) (xs (6 * n + 1)) (xs (6 * n + 2))
  obtain ⟨s0, c0⟩ := h.s
  have B1 := w_b (k := 1) (j := 1) (by decide) rfl hl hL
  have B2 := w_b (k := 2) (j := 2) (by decide) rfl hl hL
  refine ⟨M2, ?_, h2⟩
  rw [eq_Law_law_411]
  simp only [s0.1, s0.2.1, s0.2.2, c0, B1.1, B1.2, B2.1, B2.2, ckk_T, eq_self, e1, bkI_s, s1.1, s1.2.1, s1.2.2, n1, e2, if_true]
theorem w_may {L : Nat} {xs : Nat → Int32} {n : Nat} {M : ej_Mem} (h : LI L xs n M) (hl : 6 * n + 6 ≤ L) (hL : L ≤ 3072) : ∃ M2, rn jm_Law_law (cal 13) 444 [some (.ref 0), some (.ref 59), some (.ref 90), some (.int (nI (6 * n)))] [] M = rn jm_Law_law (cal 13) 1360 [some (.ref 0), some (.ref 59), some (.ref 90), some (.int (nI (6 * n)))] [] M2 ∧ LI L xs (n + 1) M2 := by
  obtain ⟨v, M1, M2, e1, s1, n1, e2, h2⟩ := lc_may h (by omega) (xs (6 * n + 1)) (xs (6 * n + 2)) (xs (6 * n + 3)) (xs (6 * n + 4))
  obtain ⟨s0, c0⟩ := h.s
  have B1 := w_b (k := 1) (j := 1) (by decide) rfl hl hL
  have B2 := w_b (k := 2) (j := 2) (by decide) rfl hl hL
  have B3 := w_b (k := 3) (j := 3) (by decide) rfl hl hL
  have B4 := w_b (k := 4) (j := 4) (by decide) rfl hl hL
  refine ⟨M2, ?_, h2⟩
  rw [eq_Law_law_444]
  simp only [s0.1, s0.2.1, s0.2.2, c0, B1.1, B1.2, B2.1, B2.2, B3.1, B3.2, B4.1, B4.2, ckk_T, eq_self, e1, bkI_s, s1.1, s1.2.1, s1.2.2, n1, e2, if_true]
theorem w_after {L : Nat} {xs : Nat → Int32} {n : Nat} {M : ej_Mem} (h : LI L xs n M) (hl : 6 * n + 6 ≤ L) (hL : L ≤ 3072) : ∃ M2, rn jm_Law_law (cal 13) 497 [some (.ref 0), some (.ref 59), some (.ref 90), some (.int (nI (6 * n)))] [] M = rn jm_Law_law (cal 13) 1360 [some (.ref 0), some (.ref 59), some (.ref 90), some (.int (nI (6 * n)))] [] M2 ∧ LI L xs (n + 1) M2 := by
  obtain ⟨v, M1, M2, e1, s1, n1, e2, h2⟩ := lc_after h (by omega) (xs (6 * n + 1)) (xs (6 * n + 2))
  obtain ⟨s0, c0⟩ := h.s
  have B1 := w_b (k := 1) (j := 1) (by decide) rfl hl hL
  have B2 := w_b (k := 2) (j := 2) (by decide) rfl hl hL
  refine ⟨M2, ?_, h2⟩
  rw [eq_Law_law_497]
  simp only [s0.1, s0.2.1, s0.2.2, c0, B1.1, B1.2, B2.1, B2.2, ckk_T, eq_self, e1, bkI_s, s1.1, s1.2.1, s1.2.2, n1, e2, if_true]
theorem w_turned {L : Nat} {xs : Nat → Int32} {n : Nat} {M : ej_Mem} (h : LI L xs n M) (hl : 6 * n + 6 ≤ L) (hL : L ≤ 3072) : ∃ M2, rn jm_Law_law (cal 13) 530 [some (.ref 0), some (.ref 59), some (.ref 90), some (.int (nI (6 * n)))] [] M = rn jm_Law_law (cal 13) 1360 [some (.ref 0), some (.ref 59), some (.ref 90), some (.int (nI (6 * n)))] [] M2 ∧ LI L xs (n + 1) M2 := by
  obtain ⟨v, M1, M2, e1, s1, n1, e2, h2⟩ := lc_turned h (by omega) (xs (6 * n + 1)) (xs (6 * n + 2))
  obtain ⟨s0, c0⟩ := h.s
  have B1 := w_b (k := 1) (j := 1) (by decide) rfl hl hL
  have B2 := w_b (k := 2) (j := 2) (by decide) rfl hl hL
  refine ⟨M2, ?_, h2⟩
  rw [eq_Law_law_530]
  simp only [s0.1, s0.2.1, s0.2.2, c0, B1.1, B1.2, B2.1, B2.2, ckk_T, eq_self, e1, bkI_s, s1.1, s1.2.1, s1.2.2, n1, e2, if_true]
theorem w_search {L : Nat} {xs : Nat → Int32} {n : Nat} {M : ej_Mem} (h : LI L xs n M) (hl : 6 * n + 6 ≤ L) (hL : L ≤ 3072) : ∃ M2, rn jm_Law_law (cal 13) 563 [some (.ref 0), some (.ref 59), some (.ref 90), some (.int (nI (6 * n)))] [] M = rn jm_Law_law (cal 13) 1360 [some (.ref 0), some (.ref 59), some (.ref 90), some (.int (nI (6 * n)))] [] M2 ∧ LI L xs (n + 1) M2 := by
  obtain ⟨v, M1, M2, e1, s1, n1, e2, h2⟩ := lc_search h (by omega) (xs (6 * n + 1)) (xs (6 * n + 2)) (xs (6 * n + 3)) (xs (6 * n + 4))
  obtain ⟨s0, c0⟩ := h.s
  have B1 := w_b (k := 1) (j := 1) (by decide) rfl hl hL
  have B2 := w_b (k := 2) (j := 2) (by decide) rfl hl hL
  have B3 := w_b (k := 3) (j := 3) (by decide) rfl hl hL
  have B4 := w_b (k := 4) (j := 4) (by decide) rfl hl hL
  refine ⟨M2, ?_, h2⟩
  rw [eq_Law_law_563]
  simp only [s0.1, s0.2.1, s0.2.2, c0, B1.1, B1.2, B2.1, B2.2, B3.1, B3.2, B4.1, B4.2, ckk_T, eq_self, e1, bkI_s, s1.1, s1.2.1, s1.2.2, n1, e2, if_true]
theorem w_go {L : Nat} {xs : Nat → Int32} {n : Nat} {M : ej_Mem} (h : LI L xs n M) (hl : 6 * n + 6 ≤ L) (hL : L ≤ 3072) : ∃ M2, rn jm_Law_law (cal 13) 616 [some (.ref 0), some (.ref 59), some (.ref 90), some (.int (nI (6 * n)))] [] M = rn jm_Law_law (cal 13) 1360 [some (.ref 0), some (.ref 59), some (.ref 90), some (.int (nI (6 * n)))] [] M2 ∧ LI L xs (n + 1) M2 := by
  obtain ⟨v, M1, M2, e1, s1, n1, e2, h2⟩ := lc_go h (by omega) (xs (6 * n + 1))
  obtain ⟨s0, c0⟩ := h.s
  have B1 := w_b (k := 1) (j := 1) (by decide) rfl hl hL
  refine ⟨M2, ?_, h2⟩
  rw [eq_Law_law_616]
  simp only [s0.1, s0.2.1, s0.2.2, c0, B1.1, B1.2, ckk_T, eq_self, e1, bkI_s, s1.1, s1.2.1, s1.2.2, n1, e2, if_true]
theorem w_sought {L : Nat} {xs : Nat → Int32} {n : Nat} {M : ej_Mem} (h : LI L xs n M) (hl : 6 * n + 6 ≤ L) (hL : L ≤ 3072) : ∃ M2, rn jm_Law_law (cal 13) 639 [some (.ref 0), some (.ref 59), some (.ref 90), some (.int (nI (6 * n)))] [] M = rn jm_Law_law (cal 13) 1360 [some (.ref 0), some (.ref 59), some (.ref 90), some (.int (nI (6 * n)))] [] M2 ∧ LI L xs (n + 1) M2 := by
  obtain ⟨v, M1, M2, e1, s1, n1, e2, h2⟩ := lc_sought h (by omega) (xs (6 * n + 1))
  obtain ⟨s0, c0⟩ := h.s
  have B1 := w_b (k := 1) (j := 1) (by decide) rfl hl hL
  refine ⟨M2, ?_, h2⟩
  rw [eq_Law_law_639]
  simp only [s0.1, s0.2.1, s0.2.2, c0, B1.1, B1.2, ckk_T, eq_self, e1, bkI_s, s1.1, s1.2.1, s1.2.2, n1, e2, if_true]
theorem w_row {L : Nat} {xs : Nat → Int32} {n : Nat} {M : ej_Mem} (h : LI L xs n M) (hl : 6 * n + 6 ≤ L) (hL : L ≤ 3072) : ∃ M2, rn jm_Law_law (cal 13) 662 [some (.ref 0), some (.ref 59), some (.ref 90), some (.int (nI (6 * n)))] [] M = rn jm_Law_law (cal 13) 1360 [some (.ref 0), some (.ref 59), some (.ref 90), some (.int (nI (6 * n)))] [] M2 ∧ LI L xs (n + 1) M2 := by
  obtain ⟨v, M1, M2, e1, s1, n1, e2, h2⟩ := lc_row h (by omega) (xs (6 * n + 1))
  obtain ⟨s0, c0⟩ := h.s
  have B1 := w_b (k := 1) (j := 1) (by decide) rfl hl hL
  refine ⟨M2, ?_, h2⟩
  rw [eq_Law_law_662]
  simp only [s0.1, s0.2.1, s0.2.2, c0, B1.1, B1.2, ckk_T, eq_self, e1, bkI_s, s1.1, s1.2.1, s1.2.2, n1, e2, if_true]
theorem w_met {L : Nat} {xs : Nat → Int32} {n : Nat} {M : ej_Mem} (h : LI L xs n M) (hl : 6 * n + 6 ≤ L) (hL : L ≤ 3072) : ∃ M2, rn jm_Law_law (cal 13) 685 [some (.ref 0), some (.ref 59), some (.ref 90), some (.int (nI (6 * n)))] [] M = rn jm_Law_law (cal 13) 1360 [some (.ref 0), some (.ref 59), some (.ref 90), some (.int (nI (6 * n)))] [] M2 ∧ LI L xs (n + 1) M2 := by
  obtain ⟨v, M1, M2, e1, s1, n1, e2, h2⟩ := lc_met h (by omega) (xs (6 * n + 1))
  obtain ⟨s0, c0⟩ := h.s
  have B1 := w_b (k := 1) (j := 1) (by decide) rfl hl hL
  refine ⟨M2, ?_, h2⟩
  rw [eq_Law_law_685]
  simp only [s0.1, s0.2.1, s0.2.2, c0, B1.1, B1.2, ckk_T, eq_self, e1, bkI_s, s1.1, s1.2.1, s1.2.2, n1, e2, if_true]
theorem w_reached {L : Nat} {xs : Nat → Int32} {n : Nat} {M : ej_Mem} (h : LI L xs n M) (hl : 6 * n + 6 ≤ L) (hL : L ≤ 3072) : ∃ M2, rn jm_Law_law (cal 13) 708 [some (.ref 0), some (.ref 59), some (.ref 90), some (.int (nI (6 * n)))] [] M = rn jm_Law_law (cal 13) 1360 [some (.ref 0), some (.ref 59), some (.ref 90), some (.int (nI (6 * n)))] [] M2 ∧ LI L xs (n + 1) M2 := by
  obtain ⟨v, M1, M2, e1, s1, n1, e2, h2⟩ := lc_reached h (by omega) (xs (6 * n + 1)) (xs (6 * n + 2)) (xs (6 * n + 3))
  obtain ⟨s0, c0⟩ := h.s
  have B1 := w_b (k := 1) (j := 1) (by decide) rfl hl hL
  have B2 := w_b (k := 2) (j := 2) (by decide) rfl hl hL
  have B3 := w_b (k := 3) (j := 3) (by decide) rfl hl hL
  refine ⟨M2, ?_, h2⟩
  rw [eq_Law_law_708]
  simp only [s0.1, s0.2.1, s0.2.2, c0, B1.1, B1.2, B2.1, B2.2, B3.1, B3.2, ckk_T, eq_self, e1, bkI_s, s1.1, s1.2.1, s1.2.2, n1, e2, if_true]
theorem w_fewest {L : Nat} {xs : Nat → Int32} {n : Nat} {M : ej_Mem} (h : LI L xs n M) (hl : 6 * n + 6 ≤ L) (hL : L ≤ 3072) : ∃ M2, rn jm_Law_law (cal 13) 751 [some (.ref 0), some (.ref 59), some (.ref 90), some (.int (nI (6 * n)))] [] M = rn jm_Law_law (cal 13) 1360 [some (.ref 0), some (.ref 59), some (.ref 90), some (.int (nI (6 * n)))] [] M2 ∧ LI L xs (n + 1) M2 := by
  obtain ⟨v, M1, M2, e1, s1, n1, e2, h2⟩ := lc_fewest h (by omega) (xs (6 * n + 1)) (xs (6 * n + 2)) (xs (6 * n + 3)) (xs (6 * n + 4))
  obtain ⟨s0, c0⟩ := h.s
  have B1 := w_b (k := 1) (j := 1) (by decide) rfl hl hL
  have B2 := w_b (k := 2) (j := 2) (by decide) rfl hl hL
  have B3 := w_b (k := 3) (j := 3) (by decide) rfl hl hL
  have B4 := w_b (k := 4) (j := 4) (by decide) rfl hl hL
  refine ⟨M2, ?_, h2⟩
  rw [eq_Law_law_751]
  simp only [s0.1, s0.2.1, s0.2.2, c0, B1.1, B1.2, B2.1, B2.2, B3.1, B3.2, B4.1, B4.2, ckk_T, eq_self, e1, bkI_s, s1.1, s1.2.1, s1.2.2, n1, e2, if_true]
theorem w_least {L : Nat} {xs : Nat → Int32} {n : Nat} {M : ej_Mem} (h : LI L xs n M) (hl : 6 * n + 6 ≤ L) (hL : L ≤ 3072) : ∃ M2, rn jm_Law_law (cal 13) 804 [some (.ref 0), some (.ref 59), some (.ref 90), some (.int (nI (6 * n)))] [] M = rn jm_Law_law (cal 13) 1360 [some (.ref 0), some (.ref 59), some (.ref 90), some (.int (nI (6 * n)))] [] M2 ∧ LI L xs (n + 1) M2 := by
  obtain ⟨v, M1, M2, e1, s1, n1, e2, h2⟩ := lc_least h (by omega) (xs (6 * n + 1)) (xs (6 * n + 2)) (xs (6 * n + 3)) (xs (6 * n + 4))
  obtain ⟨s0, c0⟩ := h.s
  have B1 := w_b (k := 1) (j := 1) (by decide) rfl hl hL
  have B2 := w_b (k := 2) (j := 2) (by decide) rfl hl hL
  have B3 := w_b (k := 3) (j := 3) (by decide) rfl hl hL
  have B4 := w_b (k := 4) (j := 4) (by decide) rfl hl hL
  refine ⟨M2, ?_, h2⟩
  rw [eq_Law_law_804]
  simp only [s0.1, s0.2.1, s0.2.2, c0, B1.1, B1.2, B2.1, B2.2, B3.1, B3.2, B4.1, B4.2, ckk_T, eq_self, e1, bkI_s, s1.1, s1.2.1, s1.2.2, n1, e2, if_true]
theorem w_safe {L : Nat} {xs : Nat → Int32} {n : Nat} {M : ej_Mem} (h : LI L xs n M) (hl : 6 * n + 6 ≤ L) (hL : L ≤ 3072) : ∃ M2, rn jm_Law_law (cal 13) 857 [some (.ref 0), some (.ref 59), some (.ref 90), some (.int (nI (6 * n)))] [] M = rn jm_Law_law (cal 13) 1360 [some (.ref 0), some (.ref 59), some (.ref 90), some (.int (nI (6 * n)))] [] M2 ∧ LI L xs (n + 1) M2 := by
  obtain ⟨v, M1, M2, e1, s1, n1, e2, h2⟩ := lc_safe h (by omega) (xs (6 * n + 1)) (xs (6 * n + 2)) (xs (6 * n + 3)) (xs (6 * n + 4))
  obtain ⟨s0, c0⟩ := h.s
  have B1 := w_b (k := 1) (j := 1) (by decide) rfl hl hL
  have B2 := w_b (k := 2) (j := 2) (by decide) rfl hl hL
  have B3 := w_b (k := 3) (j := 3) (by decide) rfl hl hL
  have B4 := w_b (k := 4) (j := 4) (by decide) rfl hl hL
  refine ⟨M2, ?_, h2⟩
  rw [eq_Law_law_857]
  simp only [s0.1, s0.2.1, s0.2.2, c0, B1.1, B1.2, B2.1, B2.2, B3.1, B3.2, B4.1, B4.2, ckk_T, eq_self, e1, bkI_s, s1.1, s1.2.1, s1.2.2, n1, e2, if_true]
theorem w_keys {L : Nat} {xs : Nat → Int32} {n : Nat} {M : ej_Mem} (h : LI L xs n M) (hl : 6 * n + 6 ≤ L) (hL : L ≤ 3072) : ∃ M2, rn jm_Law_law (cal 13) 910 [some (.ref 0), some (.ref 59), some (.ref 90), some (.int (nI (6 * n)))] [] M = rn jm_Law_law (cal 13) 1360 [some (.ref 0), some (.ref 59), some (.ref 90), some (.int (nI (6 * n)))] [] M2 ∧ LI L xs (n + 1) M2 := by
  obtain ⟨v, M1, M2, e1, s1, n1, e2, h2⟩ := lc_keys h (by omega) (xs (6 * n + 1)) (xs (6 * n + 2)) (xs (6 * n + 3))
  obtain ⟨s0, c0⟩ := h.s
  have B1 := w_b (k := 1) (j := 1) (by decide) rfl hl hL
  have B2 := w_b (k := 2) (j := 2) (by decide) rfl hl hL
  have B3 := w_b (k := 3) (j := 3) (by decide) rfl hl hL
  refine ⟨M2, ?_, h2⟩
  rw [eq_Law_law_910]
  simp only [s0.1, s0.2.1, s0.2.2, c0, B1.1, B1.2, B2.1, B2.2, B3.1, B3.2, ckk_T, eq_self, e1, bkJ_s, s1.1, s1.2.1, s1.2.2, n1, e2, if_true]
  rw [if_pos ((lg_cmp_eq v v).mpr rfl)]
theorem w_last {L : Nat} {xs : Nat → Int32} {n : Nat} {M : ej_Mem} (h : LI L xs n M) (hl : 6 * n + 6 ≤ L) (hL : L ≤ 3072) : ∃ M2, rn jm_Law_law (cal 13) 954 [some (.ref 0), some (.ref 59), some (.ref 90), some (.int (nI (6 * n)))] [] M = rn jm_Law_law (cal 13) 1360 [some (.ref 0), some (.ref 59), some (.ref 90), some (.int (nI (6 * n)))] [] M2 ∧ LI L xs (n + 1) M2 := by
  obtain ⟨v, M1, M2, e1, s1, n1, e2, h2⟩ := lc_last h (by omega) (xs (6 * n + 1)) (xs (6 * n + 2)) (xs (6 * n + 3)) (xs (6 * n + 4))
  obtain ⟨s0, c0⟩ := h.s
  have B1 := w_b (k := 1) (j := 1) (by decide) rfl hl hL
  have B2 := w_b (k := 2) (j := 2) (by decide) rfl hl hL
  have B3 := w_b (k := 3) (j := 3) (by decide) rfl hl hL
  have B4 := w_b (k := 4) (j := 4) (by decide) rfl hl hL
  refine ⟨M2, ?_, h2⟩
  rw [eq_Law_law_954]
  simp only [s0.1, s0.2.1, s0.2.2, c0, B1.1, B1.2, B2.1, B2.2, B3.1, B3.2, B4.1, B4.2, ckk_T, eq_self, e1, bkI_s, s1.1, s1.2.1, s1.2.2, n1, e2, if_true]
theorem w_roll {L : Nat} {xs : Nat → Int32} {n : Nat} {M : ej_Mem} (h : LI L xs n M) (hl : 6 * n + 6 ≤ L) (hL : L ≤ 3072) : ∃ M2, rn jm_Law_law (cal 13) 1007 [some (.ref 0), some (.ref 59), some (.ref 90), some (.int (nI (6 * n)))] [] M = rn jm_Law_law (cal 13) 1360 [some (.ref 0), some (.ref 59), some (.ref 90), some (.int (nI (6 * n)))] [] M2 ∧ LI L xs (n + 1) M2 := by
  obtain ⟨v, M1, M2, e1, s1, n1, e2, h2⟩ := lc_roll h (by omega) (xs (6 * n + 1)) (xs (6 * n + 2))
  obtain ⟨s0, c0⟩ := h.s
  have B1 := w_b (k := 1) (j := 1) (by decide) rfl hl hL
  have B2 := w_b (k := 2) (j := 2) (by decide) rfl hl hL
  refine ⟨M2, ?_, h2⟩
  rw [eq_Law_law_1007]
  simp only [s0.1, s0.2.1, s0.2.2, c0, B1.1, B1.2, B2.1, B2.2, ckk_T, eq_self, e1, bkI_s, s1.1, s1.2.1, s1.2.2, n1, e2, if_true]
theorem w_enter {L : Nat} {xs : Nat → Int32} {n : Nat} {M : ej_Mem} (h : LI L xs n M) (hl : 6 * n + 6 ≤ L) (hL : L ≤ 3072) : ∃ M2, rn jm_Law_law (cal 13) 1040 [some (.ref 0), some (.ref 59), some (.ref 90), some (.int (nI (6 * n)))] [] M = rn jm_Law_law (cal 13) 1360 [some (.ref 0), some (.ref 59), some (.ref 90), some (.int (nI (6 * n)))] [] M2 ∧ LI L xs (n + 1) M2 := by
  obtain ⟨v, M1, M2, e1, s1, n1, e2, h2⟩ := lc_enter h (by omega) (xs (6 * n + 1)) (xs (6 * n + 2))
  obtain ⟨s0, c0⟩ := h.s
  have B1 := w_b (k := 1) (j := 1) (by decide) rfl hl hL
  have B2 := w_b (k := 2) (j := 2) (by decide) rfl hl hL
  refine ⟨M2, ?_, h2⟩
  rw [eq_Law_law_1040]
  simp only [s0.1, s0.2.1, s0.2.2, c0, B1.1, B1.2, B2.1, B2.2, ckk_T, eq_self, e1, bkI_s, s1.1, s1.2.1, s1.2.2, n1, e2, if_true]
theorem w_judged {L : Nat} {xs : Nat → Int32} {n : Nat} {M : ej_Mem} (h : LI L xs n M) (hl : 6 * n + 6 ≤ L) (hL : L ≤ 3072) : ∃ M2, rn jm_Law_law (cal 13) 1073 [some (.ref 0), some (.ref 59), some (.ref 90), some (.int (nI (6 * n)))] [] M = rn jm_Law_law (cal 13) 1360 [some (.ref 0), some (.ref 59), some (.ref 90), some (.int (nI (6 * n)))] [] M2 ∧ LI L xs (n + 1) M2 := by
  obtain ⟨v, M1, M2, e1, s1, n1, e2, h2⟩ := lc_judged h (by omega) (xs (6 * n + 1)) (xs (6 * n + 2))
  obtain ⟨s0, c0⟩ := h.s
  have B1 := w_b (k := 1) (j := 1) (by decide) rfl hl hL
  have B2 := w_b (k := 2) (j := 2) (by decide) rfl hl hL
  refine ⟨M2, ?_, h2⟩
  rw [eq_Law_law_1073]
  simp only [s0.1, s0.2.1, s0.2.2, c0, B1.1, B1.2, B2.1, B2.2, ckk_T, eq_self, e1, bkI_s, s1.1, s1.2.1, s1.2.2, n1, e2, if_true]
theorem w_feigned {L : Nat} {xs : Nat → Int32} {n : Nat} {M : ej_Mem} (h : LI L xs n M) (hl : 6 * n + 6 ≤ L) (hL : L ≤ 3072) : ∃ M2, rn jm_Law_law (cal 13) 1106 [some (.ref 0), some (.ref 59), some (.ref 90), some (.int (nI (6 * n)))] [] M = rn jm_Law_law (cal 13) 1360 [some (.ref 0), some (.ref 59), some (.ref 90), some (.int (nI (6 * n)))] [] M2 ∧ LI L xs (n + 1) M2 := by
  obtain ⟨v, M1, M2, e1, s1, n1, e2, h2⟩ := lc_feigned h (by omega) (xs (6 * n + 1))
  obtain ⟨s0, c0⟩ := h.s
  have B1 := w_b (k := 1) (j := 1) (by decide) rfl hl hL
  refine ⟨M2, ?_, h2⟩
  rw [eq_Law_law_1106]
  simp only [s0.1, s0.2.1, s0.2.2, c0, B1.1, B1.2, ckk_T, eq_self, e1, bkI_s, s1.1, s1.2.1, s1.2.2, n1, e2, if_true]
theorem w_claims {L : Nat} {xs : Nat → Int32} {n : Nat} {M : ej_Mem} (h : LI L xs n M) (hl : 6 * n + 6 ≤ L) (hL : L ≤ 3072) : ∃ M2, rn jm_Law_law (cal 13) 1129 [some (.ref 0), some (.ref 59), some (.ref 90), some (.int (nI (6 * n)))] [] M = rn jm_Law_law (cal 13) 1360 [some (.ref 0), some (.ref 59), some (.ref 90), some (.int (nI (6 * n)))] [] M2 ∧ LI L xs (n + 1) M2 := by
  obtain ⟨v, M1, M2, e1, s1, n1, e2, h2⟩ := lc_claims h (by omega) (xs (6 * n + 1)) (xs (6 * n + 2))
  obtain ⟨s0, c0⟩ := h.s
  have B1 := w_b (k := 1) (j := 1) (by decide) rfl hl hL
  have B2 := w_b (k := 2) (j := 2) (by decide) rfl hl hL
  refine ⟨M2, ?_, h2⟩
  rw [eq_Law_law_1129]
  simp only [s0.1, s0.2.1, s0.2.2, c0, B1.1, B1.2, B2.1, B2.2, ckk_T, eq_self, e1, bkI_s, s1.1, s1.2.1, s1.2.2, n1, e2, if_true]
theorem w_risk {L : Nat} {xs : Nat → Int32} {n : Nat} {M : ej_Mem} (h : LI L xs n M) (hl : 6 * n + 6 ≤ L) (hL : L ≤ 3072) : ∃ M2, rn jm_Law_law (cal 13) 1162 [some (.ref 0), some (.ref 59), some (.ref 90), some (.int (nI (6 * n)))] [] M = rn jm_Law_law (cal 13) 1360 [some (.ref 0), some (.ref 59), some (.ref 90), some (.int (nI (6 * n)))] [] M2 ∧ LI L xs (n + 1) M2 := by
  obtain ⟨v, M1, M2, e1, s1, n1, e2, h2⟩ := lc_risk h (by omega) (xs (6 * n + 1)) (xs (6 * n + 2))
  obtain ⟨s0, c0⟩ := h.s
  have B1 := w_b (k := 1) (j := 1) (by decide) rfl hl hL
  have B2 := w_b (k := 2) (j := 2) (by decide) rfl hl hL
  refine ⟨M2, ?_, h2⟩
  rw [eq_Law_law_1162]
  simp only [s0.1, s0.2.1, s0.2.2, c0, B1.1, B1.2, B2.1, B2.2, ckk_T, eq_self, e1, bkI_s, s1.1, s1.2.1, s1.2.2, n1, e2, if_true]
theorem w_costs {L : Nat} {xs : Nat → Int32} {n : Nat} {M : ej_Mem} (h : LI L xs n M) (hl : 6 * n + 6 ≤ L) (hL : L ≤ 3072) : ∃ M2, rn jm_Law_law (cal 13) 1195 [some (.ref 0), some (.ref 59), some (.ref 90), some (.int (nI (6 * n)))] [] M = rn jm_Law_law (cal 13) 1360 [some (.ref 0), some (.ref 59), some (.ref 90), some (.int (nI (6 * n)))] [] M2 ∧ LI L xs (n + 1) M2 := by
  obtain ⟨v, M1, M2, e1, s1, n1, e2, h2⟩ := lc_costs h (by omega) (xs (6 * n + 1)) (xs (6 * n + 2))
  obtain ⟨s0, c0⟩ := h.s
  have B1 := w_b (k := 1) (j := 1) (by decide) rfl hl hL
  have B2 := w_b (k := 2) (j := 2) (by decide) rfl hl hL
  refine ⟨M2, ?_, h2⟩
  rw [eq_Law_law_1195]
  simp only [s0.1, s0.2.1, s0.2.2, c0, B1.1, B1.2, B2.1, B2.2, ckk_T, eq_self, e1, bkI_s, s1.1, s1.2.1, s1.2.2, n1, e2, if_true]
theorem w_words {L : Nat} {xs : Nat → Int32} {n : Nat} {M : ej_Mem} (h : LI L xs n M) (hl : 6 * n + 6 ≤ L) (hL : L ≤ 3072) : ∃ M2, rn jm_Law_law (cal 13) 1228 [some (.ref 0), some (.ref 59), some (.ref 90), some (.int (nI (6 * n)))] [] M = rn jm_Law_law (cal 13) 1360 [some (.ref 0), some (.ref 59), some (.ref 90), some (.int (nI (6 * n)))] [] M2 ∧ LI L xs (n + 1) M2 := by
  obtain ⟨v, M1, M2, e1, s1, n1, e2, h2⟩ := lc_words h (by omega) (xs (6 * n + 1)) (xs (6 * n + 2)) (xs (6 * n + 3)) (xs (6 * n + 4)) (xs (6 * n + 5))
  obtain ⟨s0, c0⟩ := h.s
  have B1 := w_b (k := 1) (j := 1) (by decide) rfl hl hL
  have B2 := w_b (k := 2) (j := 2) (by decide) rfl hl hL
  have B3 := w_b (k := 3) (j := 3) (by decide) rfl hl hL
  have B4 := w_b (k := 4) (j := 4) (by decide) rfl hl hL
  have B5 := w_b (k := 5) (j := 5) (by decide) rfl hl hL
  refine ⟨M2, ?_, h2⟩
  rw [eq_Law_law_1228]
  simp only [s0.1, s0.2.1, s0.2.2, c0, B1.1, B1.2, B2.1, B2.2, B3.1, B3.2, B4.1, B4.2, B5.1, B5.2, ckk_T, eq_self, e1, bkI_s, s1.1, s1.2.1, s1.2.2, n1, e2, if_true]
theorem w_mark {L : Nat} {xs : Nat → Int32} {n : Nat} {M : ej_Mem} (h : LI L xs n M) (hl : 6 * n + 6 ≤ L) (hL : L ≤ 3072) : ∃ M2, rn jm_Law_law (cal 13) 1291 [some (.ref 0), some (.ref 59), some (.ref 90), some (.int (nI (6 * n)))] [] M = rn jm_Law_law (cal 13) 1360 [some (.ref 0), some (.ref 59), some (.ref 90), some (.int (nI (6 * n)))] [] M2 ∧ LI L xs (n + 1) M2 := by
  obtain ⟨v, M1, M2, e1, s1, n1, e2, h2⟩ := lc_mark h (by omega) (xs (6 * n + 1))
  obtain ⟨s0, c0⟩ := h.s
  have B1 := w_b (k := 1) (j := 1) (by decide) rfl hl hL
  refine ⟨M2, ?_, h2⟩
  rw [eq_Law_law_1291]
  simp only [s0.1, s0.2.1, s0.2.2, c0, B1.1, B1.2, ckk_T, eq_self, e1, bkI_s, s1.1, s1.2.1, s1.2.2, n1, e2, if_true]
theorem w_back {L : Nat} {xs : Nat → Int32} {n : Nat} {M : ej_Mem} (h : LI L xs n M) (hl : 6 * n + 6 ≤ L) (hL : L ≤ 3072) : ∃ M2, rn jm_Law_law (cal 13) 1314 [some (.ref 0), some (.ref 59), some (.ref 90), some (.int (nI (6 * n)))] [] M = rn jm_Law_law (cal 13) 1360 [some (.ref 0), some (.ref 59), some (.ref 90), some (.int (nI (6 * n)))] [] M2 ∧ LI L xs (n + 1) M2 := by
  obtain ⟨v, M1, M2, e1, s1, n1, e2, h2⟩ := lc_back h (by omega) (xs (6 * n + 1))
  obtain ⟨s0, c0⟩ := h.s
  have B1 := w_b (k := 1) (j := 1) (by decide) rfl hl hL
  refine ⟨M2, ?_, h2⟩
  rw [eq_Law_law_1314]
  simp only [s0.1, s0.2.1, s0.2.2, c0, B1.1, B1.2, ckk_T, eq_self, e1, bkI_s, s1.1, s1.2.1, s1.2.2, n1, e2, if_true]
theorem w_count {L : Nat} {xs : Nat → Int32} {n : Nat} {M : ej_Mem} (h : LI L xs n M) (hl : 6 * n + 6 ≤ L) (hL : L ≤ 3072) : ∃ M2, rn jm_Law_law (cal 13) 1337 [some (.ref 0), some (.ref 59), some (.ref 90), some (.int (nI (6 * n)))] [] M = rn jm_Law_law (cal 13) 1360 [some (.ref 0), some (.ref 59), some (.ref 90), some (.int (nI (6 * n)))] [] M2 ∧ LI L xs (n + 1) M2 := by
  obtain ⟨v, M1, M2, e1, s1, n1, e2, h2⟩ := lc_count h (by omega) (xs (6 * n + 1))
  obtain ⟨s0, c0⟩ := h.s
  have B1 := w_b (k := 1) (j := 1) (by decide) rfl hl hL
  refine ⟨M2, ?_, h2⟩
  rw [eq_Law_law_1337]
  simp only [s0.1, s0.2.1, s0.2.2, c0, B1.1, B1.2, ckk_T, eq_self, e1, bkI_s, s1.1, s1.2.1, s1.2.2, n1, e2, if_true]
theorem law_step {L : Nat} {xs : Nat → Int32} {n : Nat} {M : ej_Mem} (h : LI L xs n M) (hl : 6 * n + 6 ≤ L) (hL : L ≤ 3072) : ∃ M2, rn jm_Law_law (cal 13) 18 [some (.ref 0), some (.ref 59), some (.ref 90), some (.int (nI (6 * n)))] [] M = rn jm_Law_law (cal 13) 18 [some (.ref 0), some (.ref 59), some (.ref 90), some (.int (nI (6 * (n + 1))))] [] M2 ∧ LI L xs (n + 1) M2 := by
  obtain ⟨s0, c0⟩ := h.s
  have nx : ∀ M2, rn jm_Law_law (cal 13) 1360 [some (.ref 0), some (.ref 59), some (.ref 90), some (.int (nI (6 * n)))] [] M2 = rn jm_Law_law (cal 13) 18 [some (.ref 0), some (.ref 59), some (.ref 90), some (.int (nI (6 * (n + 1))))] [] M2 := fun M2 => by
    rw [eq_Law_law_1360, show nI (6 * n) + 6 = nI (6 * (n + 1)) from nI_add (6 * n) 6]
  have go : ∀ {pc : Nat}, (∃ M2, rn jm_Law_law (cal 13) pc [some (.ref 0), some (.ref 59), some (.ref 90), some (.int (nI (6 * n)))] [] M = rn jm_Law_law (cal 13) 1360 [some (.ref 0), some (.ref 59), some (.ref 90), some (.int (nI (6 * n)))] [] M2 ∧ LI L xs (n + 1) M2) → ∃ M2, rn jm_Law_law (cal 13) pc [some (.ref 0), some (.ref 59), some (.ref 90), some (.int (nI (6 * n)))] [] M = rn jm_Law_law (cal 13) 18 [some (.ref 0), some (.ref 59), some (.ref 90), some (.int (nI (6 * (n + 1))))] [] M2 ∧ LI L xs (n + 1) M2 := fun ⟨M2, a, b⟩ => ⟨M2, by rw [a, nx], b⟩
  rw [eq_Law_law_18, s0.1, s0.2.1, s0.2.2, ckk_t (by decide), if_neg (fun q => by have := (law_cmp hL (by omega)).1 q; omega), ckk_t rfl, ckb_n (by omega) (by omega), nI_clamp (by omega)]
  by_cases x0 : xs (6 * n) &&& 63 = 0
  · rw [if_pos x0]; exact go (w_feed h hl hL)
  rw [if_neg x0]
  by_cases x1 : xs (6 * n) &&& 63 = 1
  · rw [if_pos x1]; exact go (w_end h hl hL)
  rw [if_neg x1]
  by_cases x2 : xs (6 * n) &&& 63 = 2
  · rw [if_pos x2]; exact go (w_text h hl hL)
  rw [if_neg x2]
  by_cases x3 : xs (6 * n) &&& 63 = 3
  · rw [if_pos x3]; exact go (w_open h hl hL)
  rw [if_neg x3]
  by_cases x4 : xs (6 * n) &&& 63 = 4
  · rw [if_pos x4]; exact go (w_force h hl hL)
  rw [if_neg x4]
  by_cases x5 : xs (6 * n) &&& 63 = 5
  · rw [if_pos x5]; exact go (w_holds h hl hL)
  rw [if_neg x5]
  by_cases x6 : xs (6 * n) &&& 63 = 6
  · rw [if_pos x6]; exact go (w_first h hl hL)
  rw [if_neg x6]
  by_cases x7 : xs (6 * n) &&& 63 = 7
  · rw [if_pos x7]; exact go (w_wished h hl hL)
  rw [if_neg x7]
  by_cases x8 : xs (6 * n) &&& 63 = 8
  · rw [if_pos x8]; exact go (w_may h hl hL)
  rw [if_neg x8]
  by_cases x9 : xs (6 * n) &&& 63 = 9
  · rw [if_pos x9]; exact go (w_after h hl hL)
  rw [if_neg x9]
  by_cases x10 : xs (6 * n) &&& 63 = 10
  · rw [if_pos x10]; exact go (w_turned h hl hL)
  rw [if_neg x10]
  by_cases x11 : xs (6 * n) &&& 63 = 11
  · rw [if_pos x11]; exact go (w_search h hl hL)
  rw [if_neg x11]
  by_cases x12 : xs (6 * n) &&& 63 = 12
  · rw [if_pos x12]; exact go (w_go h hl hL)
  rw [if_neg x12]
  by_cases x13 : xs (6 * n) &&& 63 = 13
  · rw [if_pos x13]; exact go (w_sought h hl hL)
  rw [if_neg x13]
  by_cases x14 : xs (6 * n) &&& 63 = 14
  · rw [if_pos x14]; exact go (w_row h hl hL)
  rw [if_neg x14]
  by_cases x15 : xs (6 * n) &&& 63 = 15
  · rw [if_pos x15]; exact go (w_met h hl hL)
  rw [if_neg x15]
  by_cases x16 : xs (6 * n) &&& 63 = 16
  · rw [if_pos x16]; exact go (w_reached h hl hL)
  rw [if_neg x16]
  by_cases x17 : xs (6 * n) &&& 63 = 17
  · rw [if_pos x17]; exact go (w_fewest h hl hL)
  rw [if_neg x17]
  by_cases x18 : xs (6 * n) &&& 63 = 18
  · rw [if_pos x18]; exact go (w_least h hl hL)
  rw [if_neg x18]
  by_cases x19 : xs (6 * n) &&& 63 = 19
  · rw [if_pos x19]; exact go (w_safe h hl hL)
  rw [if_neg x19]
  by_cases x20 : xs (6 * n) &&& 63 = 20
  · rw [if_pos x20]; exact go (w_keys h hl hL)
  rw [if_neg x20]
  by_cases x21 : xs (6 * n) &&& 63 = 21
  · rw [if_pos x21]; exact go (w_last h hl hL)
  rw [if_neg x21]
  by_cases x22 : xs (6 * n) &&& 63 = 22
  · rw [if_pos x22]; exact go (w_roll h hl hL)
  rw [if_neg x22]
  by_cases x23 : xs (6 * n) &&& 63 = 23
  · rw [if_pos x23]; exact go (w_enter h hl hL)
  rw [if_neg x23]
  by_cases x24 : xs (6 * n) &&& 63 = 24
  · rw [if_pos x24]; exact go (w_judged h hl hL)
  rw [if_neg x24]
  by_cases x25 : xs (6 * n) &&& 63 = 25
  · rw [if_pos x25]; exact go (w_feigned h hl hL)
  rw [if_neg x25]
  by_cases x26 : xs (6 * n) &&& 63 = 26
  · rw [if_pos x26]; exact go (w_claims h hl hL)
  rw [if_neg x26]
  by_cases x27 : xs (6 * n) &&& 63 = 27
  · rw [if_pos x27]; exact go (w_risk h hl hL)
  rw [if_neg x27]
  by_cases x28 : xs (6 * n) &&& 63 = 28
  · rw [if_pos x28]; exact go (w_costs h hl hL)
  rw [if_neg x28]
  by_cases x29 : xs (6 * n) &&& 63 = 29
  · rw [if_pos x29]; exact go (w_words h hl hL)
  rw [if_neg x29]
  by_cases x30 : xs (6 * n) &&& 63 = 30
  · rw [if_pos x30]; exact go (w_mark h hl hL)
  rw [if_neg x30]
  by_cases x31 : xs (6 * n) &&& 63 = 31
  · rw [if_pos x31]; exact go (w_back h hl hL)
  rw [if_neg x31]
  by_cases x32 : xs (6 * n) &&& 63 = 32
  · rw [if_pos x32]; exact go (w_count h hl hL)
  rw [if_neg x32]
  exact go ⟨M, rfl, h.skip⟩
theorem law_end {L : Nat} {xs : Nat → Int32} {n : Nat} {M : ej_Mem} (h : LI L xs n M) (hn : n ≤ 512) (hl : L < 6 * n + 6) (hL : L ≤ 3072) : rn jm_Law_law (cal 13) 18 [some (.ref 0), some (.ref 59), some (.ref 90), some (.int (nI (6 * n)))] [] M = some (some (.int 1), M) ∧ mZ M ≤ 600059 ∧ mS M ≤ 7302250 := by
  obtain ⟨s0, c0⟩ := h.s
  obtain ⟨own, V, mk, t, tp, z, s, mn, q, h1, h2, h3⟩ := h
  refine ⟨?_, ?_⟩
  · rw [eq_Law_law_18, s0.1, s0.2.1, ckk_t (by decide), if_pos ((law_cmp hL (by omega)).2 hl), ckk_t (by decide)]
  · have a : lz M 68 ≤ 4 ∧ ls M 68 ≤ 16200 := by unfold lz ls; split <;> omega
    have lz4 : ∀ l, lz M l ≤ 4 := fun l => by unfold lz; split <;> omega
    have ls4 : ∀ l, ls M l ≤ 16200 := fun l => by unfold ls; split <;> omega
    have b : ∀ k, mkz M k ≤ 15 := fun k => by
      unfold mkz
      cases aR M 79 k with
      | none => exact Nat.zero_le _
      | some l => have := lz4 l; show 11 + lz M l ≤ 15; omega
    have c : ∀ k, mks M k ≤ 17206 := fun k => by
      unfold mks
      cases aR M 79 k with
      | none => exact Nat.zero_le _
      | some l => have := ls4 l; show 1006 + ls M l ≤ 17206; omega
    obtain ⟨r1, r2⟩ := q.rm
    have b0 := b 0
    have b1 := b 1
    have b2 := b 2
    have b3 := b 3
    have c0 := c 0
    have c1 := c 1
    have c2 := c 2
    have c3 := c 3
    omega
theorem law_loop {L : Nat} {xs : Nat → Int32} (hL : L ≤ 3072) : ∀ (r n : Nat) (M : ej_Mem), LI L xs n M → n ≤ 512 → L < 6 * (n + r) + 6 → ∃ Mf, rn jm_Law_law (cal 13) 18 [some (.ref 0), some (.ref 59), some (.ref 90), some (.int (nI (6 * n)))] [] M = some (some (.int 1), Mf) ∧ mZ Mf ≤ 600059 ∧ mS Mf ≤ 7302250
  | 0, n, M, h, hn, hl => ⟨M, law_end h hn (by omega) hL⟩
  | r + 1, n, M, h, hn, hl => by
    rcases Nat.lt_or_ge L (6 * n + 6) with q | q
    · exact ⟨M, law_end h hn q hL⟩
    · obtain ⟨M2, e, h2⟩ := law_step h q hL
      rw [e]
      exact law_loop hL r (n + 1) M2 h2 (by omega) (by omega)
