/-! the class: a writ's tests, the land's reading methods -/
/-- what stands there from the start: two rows of numbers -/
def ST (M : ej_Mem) : Prop := (mC M 1 = 110 ∧ mN M 1 = 4 ∧ mC M 2 = 110 ∧ mN M 2 = 4) ∧ (aI M 1 0 = 40 ∧ aI M 1 1 = 8 ∧ aI M 1 2 = 16 ∧ aI M 1 3 = 8) ∧ (aI M 2 0 = 0 ∧ aI M 2 1 = 40 ∧ aI M 2 2 = 48 ∧ aI M 2 3 = 64)
def tgt (K : Nat) (x : Int32) : Prop := x = -1 ∨ x = -2 ∨ ∃ j, j < K ∧ x = nI (5 * j)
def CodeOK (F : Nat → Int32) (K : Nat) : Prop := ∀ i, i < K → tgt K (F (5 * i + 3)) ∧ tgt K (F (5 * i + 4))
/-- a test of the class, from a place on, with so many facts at most -/
def evC (F : Nat → Int32) (s : Int32) : Nat → Int32 → Bool
  | 0, x => decide (x = -1)
  | k + 1, x => if x < 0 then decide (x = -1) else
    evC F s k (if F (x.toNatClampNeg + 1) ≤ nI (pc (s &&& F x.toNatClampNeg)) ∧ nI (pc (s &&& F x.toNatClampNeg)) ≤ F (x.toNatClampNeg + 2) then F (x.toNatClampNeg + 3) else F (x.toNatClampNeg + 4))
abbrev Txt : Type := Int32 × Int32 × Int32 × Int32 × Int32 × (Int32 → Bool) × (Int32 → Int32)
def wFc (M : ej_Mem) (w : Nat) : Nat := (mR M w 6).getD 0
def wTn (M : ej_Mem) (w : Nat) : Nat := (mR M w 7).getD 0
def cTst (M : ej_Mem) (w : Nat) (e s : Int32) : Bool := evC (aI M (wFc M w)) s (mN M (wFc M w) / 5) e
def tnC (M : ej_Mem) (w : Nat) (s : Int32) : Nat → Nat → Int32 → Int32
  | 0, _, acc => acc
  | n + 1, j, acc => tnC M w s n (j + 1) (if cTst M w (aI M (wTn M w) (2 * j + 1)) s then acc ||| (1 <<< (aI M (wTn M w) (2 * j) &&& 31)) else acc)
def cTxt (M : ej_Mem) (w : Nat) : Txt := (mI M w 0, mI M w 1, mI M w 2, mI M w 3, mI M w 4, fun s => cTst M w (mI M w 5) s, fun s => tnC M w s (mN M (wTn M w) / 2) 0 0)
def WA (M : ej_Mem) (w : Nat) : Prop := mC M w = 7 ∧ mR M w 6 = some (wFc M w) ∧ mR M w 7 = some (wTn M w) ∧ mC M (wFc M w) = 100 ∧ mC M (wTn M w) = 100 ∧ bI (mI M w 0) 31 = false ∧
  (∃ K, mN M (wFc M w) = 5 * K ∧ K ≤ 60 ∧ CodeOK (aI M (wFc M w)) K ∧ tgt K (mI M w 5) ∧ ∃ J, mN M (wTn M w) = 2 * J ∧ J ≤ 12 ∧ ∀ j, j < J → tgt K (aI M (wTn M w) (2 * j + 1)))
theorem nI_add5 (a : Nat) : nI a + 5 = nI (a + 5) := nI_add a 5
theorem nI_add4 (a : Nat) : nI a + 4 = nI (a + 4) := nI_add a 4
theorem nI_add3 (a : Nat) : nI a + 3 = nI (a + 3) := nI_add a 3
theorem nI_add2 (a : Nat) : nI a + 2 = nI (a + 2) := nI_add a 2
theorem nI_m5 (a : Nat) : nI (a + 5) + -5 = nI a := by
  rw [← nI_add5, Int32.add_assoc, show (5 : Int32) + -5 = 0 from by decide, Int32.add_zero]
theorem ofNat_nI (n : Nat) : Int32.ofNat n = nI n := rfl
theorem isTrue_end {cl : Nat → List Value → ej_Mem → Option ej_R} {M : ej_Mem} {w : Nat} {l1 l2 l3 l4 : Int32} {o5 o6 : Option Value} : rn jm_Writ_isTrue cl 124 [some (.ref w), some (.int l1), some (.int l2), some (.int l3), some (.int l4), o5, o6] [] M = some (some (.int (b2i (decide (l3 = -1)))), M) := by
  rw [eq_Writ_isTrue_124]
  by_cases h : l3 = -1
  · rw [if_pos h, eq_Writ_isTrue_134, decide_eq_true h, ckk_t (Or.inr rfl)]; rfl
  · rw [if_neg h, eq_Writ_isTrue_134, decide_eq_false h, ckk_t (Or.inl rfl)]; rfl
theorem isTrueC_loop {cl : Nat → List Value → ej_Mem → Option ej_R} {M : ej_Mem} {w f K : Nat} {l1 s : Int32} (hcl : ∀ x M, cl jm_Intg_bitCount_0f7a4 [.int x] M = some (some (.int (nI (pc x))), M))
    (hw : mC M w = 7) (hf : mR M w 6 = some f) (hfc : mC M f = 100) (hn : mN M f = 5 * K) (hK : K ≤ 60) (hC : CodeOK (aI M f) K) : ∀ (k : Nat) (x : Int32) (o5 o6 : Option Value), k ≤ K → tgt K x →
    rn jm_Writ_isTrue cl 27 [some (.ref w), some (.int l1), some (.int s), some (.int x), some (.int (nI (5 * k))), o5, o6] [] M = some (some (.int (b2i (evC (aI M f) s k x))), M)
  | 0, x, o5, o6, hk, hx => by
    rw [eq_Writ_isTrue_27, if_pos (by decide), isTrue_end]; rfl
  | k + 1, x, o5, o6, hk, hx => by
    rw [eq_Writ_isTrue_27, if_neg (nI_nle (by omega) (by omega))]
    by_cases h0 : x < 0
    · rw [if_pos h0, isTrue_end]
      unfold evC
      rw [if_pos h0]
    · rw [if_neg h0]
      obtain ⟨j, hj, rfl⟩ : ∃ j, j < K ∧ x = nI (5 * j) := by
        rcases hx with rfl | rfl | hx
        · exact absurd (by decide) h0
        · exact absurd (by decide) h0
        · exact hx
      have hev : evC (aI M f) s (k + 1) (nI (5 * j)) = evC (aI M f) s k (if aI M f (5 * j + 1) ≤ nI (pc (s &&& aI M f (5 * j))) ∧ nI (pc (s &&& aI M f (5 * j))) ≤ aI M f (5 * j + 2) then aI M f (5 * j + 3) else aI M f (5 * j + 4)) := by
        show (if nI (5 * j) < 0 then _ else _) = _
        rw [if_neg h0, nI_clamp (by omega)]
      rw [hev]
      simp only [hw, hf, hfc, hn, hcl, MR, ckk_T, deR_s, deQ_s, deQ_n, bkV_s, bkI_s, bkJ_s, bkQ_s, bkQ_n, ckb0, ckb1, ckb2, ckb3, eq_self, Nat.reduceEqDiff, Nat.reduceLeDiff, Nat.reduceLT, reduceIte, true_or, or_true, not_false_eq_true, not_true_eq_false, and_self, and_true, true_and, LIT, Int32.reduceLT, Int32.reduceLE, Int32.reduceToNatClampNeg, nI_add5, nI_add4, nI_add3, nI_add2, nI_1, ofNat_nI, ckb_n (show 5 * j < 5 * K by omega) (show 5 * K < 2 ^ 31 by omega), ckb_n (show 5 * j + 1 < 5 * K by omega) (show 5 * K < 2 ^ 31 by omega), ckb_n (show 5 * j + 2 < 5 * K by omega) (show 5 * K < 2 ^ 31 by omega), nI_clamp (show 5 * j < 2 ^ 31 by omega), nI_clamp (show 5 * j + 1 < 2 ^ 31 by omega), nI_clamp (show 5 * j + 2 < 2 ^ 31 by omega)]
      rw [if_neg (nI_nlt (by omega) (by omega))]
      have e5 : nI (5 * (k + 1)) + -5 = nI (5 * k) := nI_m5 (5 * k)
      have ih := fun x o5 o6 hx => isTrueC_loop (l1 := l1) (s := s) hcl hw hf hfc hn hK hC k x o5 o6 (by omega) hx
      have yes : ∀ v : Int32, rn jm_Writ_isTrue cl 91 [some (.ref w), some (.int l1), some (.int s), some (.int (nI (5 * j))), some (.int (nI (5 * (k + 1)))), some (.int v), o6] [.int 1] M = some (some (.int (b2i (evC (aI M f) s k (aI M f (5 * j + 3))))), M) := by
        intro v
        rw [eq_Writ_isTrue_91, if_neg (by decide)]
        simp only [hw, hf, hfc, hn, MR, ckk_T, deR_s, deQ_s, deQ_n, bkV_s, bkI_s, bkJ_s, bkQ_s, bkQ_n, ckb0, ckb1, ckb2, ckb3, eq_self, Nat.reduceEqDiff, Nat.reduceLeDiff, Nat.reduceLT, reduceIte, true_or, or_true, not_false_eq_true, not_true_eq_false, and_self, and_true, true_and, LIT, Int32.reduceLT, Int32.reduceLE, Int32.reduceToNatClampNeg, nI_add3, ckb_n (show 5 * j + 3 < 5 * K by omega) (show 5 * K < 2 ^ 31 by omega), nI_clamp (show 5 * j + 3 < 2 ^ 31 by omega)]
        rw [eq_Writ_isTrue_117, e5]
        exact ih _ _ _ (hC j hj).1
      have no : ∀ v : Int32, rn jm_Writ_isTrue cl 90 [some (.ref w), some (.int l1), some (.int s), some (.int (nI (5 * j))), some (.int (nI (5 * (k + 1)))), some (.int v), o6] [] M = some (some (.int (b2i (evC (aI M f) s k (aI M f (5 * j + 4))))), M) := by
        intro v
        rw [eq_Writ_isTrue_90, eq_Writ_isTrue_91, if_pos rfl]
        simp only [hw, hf, hfc, hn, MR, ckk_T, deR_s, deQ_s, deQ_n, bkV_s, bkI_s, bkJ_s, bkQ_s, bkQ_n, ckb0, ckb1, ckb2, ckb3, eq_self, Nat.reduceEqDiff, Nat.reduceLeDiff, Nat.reduceLT, reduceIte, true_or, or_true, not_false_eq_true, not_true_eq_false, and_self, and_true, true_and, LIT, Int32.reduceLT, Int32.reduceLE, Int32.reduceToNatClampNeg, nI_add4, ckb_n (show 5 * j + 4 < 5 * K by omega) (show 5 * K < 2 ^ 31 by omega), nI_clamp (show 5 * j + 4 < 2 ^ 31 by omega)]
        rw [eq_Writ_isTrue_117, e5]
        exact ih _ _ _ (hC j hj).2
      generalize nI (pc (s &&& aI M f (5 * j))) = c at *
      by_cases h1 : c < aI M f (5 * j + 1)
      · rw [if_pos h1, no, if_neg (fun q => absurd h1 (Int32.not_lt.mpr q.1))]
      · rw [if_neg h1]
        by_cases h2 : aI M f (5 * j + 2) < c
        · rw [if_pos h2, no, if_neg (fun q => absurd h2 (Int32.not_lt.mpr q.2))]
        · rw [if_neg h2, yes, if_pos ⟨Int32.not_lt.mp h1, Int32.not_lt.mp h2⟩]
theorem p_isTrueC {D : Nat} (hD : 2 ≤ D) {M : ej_Mem} {w : Nat} (h : WA M w) {e : Int32} (he : tgt (mN M (wFc M w) / 5) e) (s : Int32) : cal D jm_Writ_isTrue [.ref w, .int e, .int s] M = some (some (.int (b2i (cTst M w e s))), M) := by
  obtain ⟨d, rfl⟩ : ∃ d, D = d + 1 := ⟨D - 1, by omega⟩
  obtain ⟨hw, hf, ht, hfc, htc, hg0, K, hK, hK2, hC, _, _⟩ := h
  have h5 : mN M (wFc M w) / 5 = K := by omega
  rw [h5] at he
  rw [ca_Writ_isTrue, eq_Writ_isTrue_0]
  simp only [hw, hf, hfc, MR, ckk_T, deR_s, deQ_s, deQ_n, bkV_s, bkI_s, bkJ_s, bkQ_s, bkQ_n, ckb0, ckb1, ckb2, ckb3, eq_self, Nat.reduceEqDiff, Nat.reduceLeDiff, Nat.reduceLT, reduceIte, true_or, or_true, not_false_eq_true, not_true_eq_false, and_self, and_true, true_and, LIT, Int32.reduceLT, Int32.reduceLE, Int32.reduceToNatClampNeg]
  rw [ofNat_nI, hK]
  unfold cTst
  rw [h5]
  exact isTrueC_loop (fun x M => p_bitCount (by omega) x M) hw hf hfc hK hK2 hC K e none none (Nat.le_refl K) he
theorem WA.ent {M : ej_Mem} {w : Nat} (h : WA M w) : tgt (mN M (wFc M w) / 5) (mI M w 5) := by
  obtain ⟨hw, hf, ht, hfc, htc, hg0, K, hK, hK2, hC, he, _⟩ := h
  rw [show mN M (wFc M w) / 5 = K by omega]; exact he
theorem p_changed {D : Nat} (hD : 1 ≤ D) {M : ej_Mem} {w : Nat} (h : mC M w = 7) (s : Int32) : cal D jm_Writ_changed [.ref w, .int s] M = some (some (.int ((s &&& (mI M w 1 ^^^ -1)) ||| mI M w 0)), M) := by
  obtain ⟨d, rfl⟩ : ∃ d, D = d + 1 := ⟨D - 1, by omega⟩
  rw [ca_Writ_changed, eq_Writ_changed_0]
  simp only [h, MR, ckk_T, deR_s, deQ_s, deQ_n, bkV_s, bkI_s, bkJ_s, bkQ_s, bkQ_n, ckb0, ckb1, ckb2, ckb3, eq_self, Nat.reduceEqDiff, Nat.reduceLeDiff, Nat.reduceLT, reduceIte, true_or, or_true, not_false_eq_true, not_true_eq_false, and_self, and_true, true_and, LIT, Int32.reduceLT, Int32.reduceLE, Int32.reduceToNatClampNeg]
theorem turnersC_loop {cl : Nat → List Value → ej_Mem → Option ej_R} {M : ej_Mem} {w : Nat} {s : Int32} (h : WA M w)
    (hcl : ∀ e, tgt (mN M (wFc M w) / 5) e → cl jm_Writ_isTrue [.ref w, .int e, .int s] M = some (some (.int (b2i (cTst M w e s))), M)) : ∀ (n j : Nat) (acc : Int32), j + n = mN M (wTn M w) / 2 →
    rn jm_Writ_turners cl 13 [some (.ref w), some (.int s), some (.int acc), some (.int (nI (2 * j)))] [] M = some (some (.int (tnC M w s n j acc)), M)
  | 0, j, acc, hj => by
    obtain ⟨hw, hf, ht, hfc, htc, hg0, K, hK, hK2, hC, _, J, hJ, hJ2, _⟩ := h
    rw [eq_Writ_turners_13]
    simp only [hw, ht, htc, MR, ckk_T, deR_s, deQ_s, deQ_n, bkV_s, bkI_s, bkJ_s, bkQ_s, bkQ_n, ckb0, ckb1, ckb2, ckb3, eq_self, Nat.reduceEqDiff, Nat.reduceLeDiff, Nat.reduceLT, reduceIte, true_or, or_true, not_false_eq_true, not_true_eq_false, and_self, and_true, true_and, LIT, Int32.reduceLT, Int32.reduceLE, Int32.reduceToNatClampNeg, nI_1, ofNat_nI]
    rw [hJ, if_pos (nI_le (by omega) (by omega))]
    rfl
  | n + 1, j, acc, hj => by
    have ih := turnersC_loop h hcl n (j + 1)
    obtain ⟨hw, hf, ht, hfc, htc, hg0, K, hK, hK2, hC, _, J, hJ, hJ2, hT⟩ := h
    rw [eq_Writ_turners_13]
    simp only [hw, ht, htc, MR, ckk_T, deR_s, deQ_s, deQ_n, bkV_s, bkI_s, bkJ_s, bkQ_s, bkQ_n, ckb0, ckb1, ckb2, ckb3, eq_self, Nat.reduceEqDiff, Nat.reduceLeDiff, Nat.reduceLT, reduceIte, true_or, or_true, not_false_eq_true, not_true_eq_false, and_self, and_true, true_and, LIT, Int32.reduceLT, Int32.reduceLE, Int32.reduceToNatClampNeg, nI_1, nI_add2, ofNat_nI]
    rw [hJ, if_neg (nI_ge (by omega) (by omega)), ckb_n (by omega) (by omega), nI_clamp (by omega), hcl _ (by rw [show mN M (wFc M w) / 5 = K by omega]; exact hT j (by omega))]
    simp only [hw, ht, htc, hJ, MR, ckk_T, deR_s, deQ_s, deQ_n, bkV_s, bkI_s, bkJ_s, bkQ_s, bkQ_n, ckb0, ckb1, ckb2, ckb3, eq_self, Nat.reduceEqDiff, Nat.reduceLeDiff, Nat.reduceLT, reduceIte, true_or, or_true, not_false_eq_true, not_true_eq_false, and_self, and_true, true_and, LIT, Int32.reduceLT, Int32.reduceLE, Int32.reduceToNatClampNeg]
    rw [ckb_n (by omega : 2 * j < 2 * J) (by omega), nI_clamp (by omega : 2 * j < 2 ^ 31)]
    show (_ : Option ej_R) = some (some (.int (tnC M w s n (j + 1) (if cTst M w (aI M (wTn M w) (2 * j + 1)) s then acc ||| (1 <<< (aI M (wTn M w) (2 * j) &&& 31)) else acc))), M)
    rw [show 2 * j + 2 = 2 * (j + 1) by omega]
    cases cTst M w (aI M (wTn M w) (2 * j + 1)) s
    · rw [if_pos b2i_f]; exact ih _ (by omega)
    · rw [if_neg (by decide)]; exact ih _ (by omega)
theorem p_turnersC {D : Nat} (hD : 3 ≤ D) {M : ej_Mem} {w : Nat} (h : WA M w) (s : Int32) : cal D jm_Writ_turners [.ref w, .int s] M = some (some (.int ((cTxt M w).2.2.2.2.2.2 s)), M) := by
  obtain ⟨d, rfl⟩ : ∃ d, D = d + 1 := ⟨D - 1, by omega⟩
  rw [ca_Writ_turners, eq_Writ_turners_0]
  have L := turnersC_loop (cl := cal d) h (fun e he => p_isTrueC (by omega) h he s) (mN M (wTn M w) / 2) 0 0 (by omega)
  obtain ⟨hw, hf, ht, hfc, htc, _⟩ := h
  simp only [hw, ht, MR, ckk_T, deR_s, deQ_s, deQ_n, bkV_s, bkI_s, bkJ_s, bkQ_s, bkQ_n, ckb0, ckb1, ckb2, ckb3, eq_self, Nat.reduceEqDiff, Nat.reduceLeDiff, Nat.reduceLT, reduceIte, true_or, or_true, not_false_eq_true, not_true_eq_false, and_self, and_true, true_and, LIT, Int32.reduceLT, Int32.reduceLE, Int32.reduceToNatClampNeg]
  exact L
/-- a land: its cells lie side by side -/
def LA (M : ej_Mem) (l : Nat) : Prop := (mC M l = 3 ∧ mR M l 0 = some (l + 1) ∧ mR M l 1 = some (l + 2) ∧ mR M l 2 = some (l + 3) ∧ mR M l 3 = some (l + 4) ∧ mR M l 5 = some (l + 5) ∧ mR M l 6 = some (l + 6)) ∧
  (mC M (l + 1) = 103 ∧ mC M (l + 2) = 100 ∧ mC M (l + 3) = 100 ∧ mC M (l + 4) = 100 ∧ mC M (l + 5) = 100 ∧ mC M (l + 6) = 4) ∧ (mN M (l + 1) = 72 ∧ mN M (l + 2) = 4 ∧ mN M (l + 3) = 40 ∧ mN M (l + 4) = 40 ∧ mN M (l + 5) = 24) ∧
  (mR M (l + 6) 1 = some (l + 7) ∧ mR M (l + 6) 2 = some (l + 8) ∧ mR M (l + 6) 3 = some (l + 9) ∧ mR M (l + 6) 4 = some (l + 10)) ∧ (mC M (l + 7) = 100 ∧ mC M (l + 8) = 100 ∧ mC M (l + 9) = 100 ∧ mC M (l + 10) = 100) ∧
  (mN M (l + 7) = 30 ∧ mN M (l + 8) = 30 ∧ mN M (l + 9) = 30 ∧ mN M (l + 10) = 720)
def pl (k : Nat) : Nat := if k = 0 then 0 else if k = 1 then 40 else if k = 2 then 48 else 64
def mst (k : Nat) : Nat := if k = 0 then 40 else if k = 1 then 8 else if k = 2 then 16 else 8
def nL (M : ej_Mem) (l k : Nat) : Nat := (aI M (l + 2) k).toNatClampNeg
def wL (M : ej_Mem) (l k i : Nat) : Nat := (aR M (l + 1) (pl k + i)).getD 0
/-- its writs are there -/
def LT (M : ej_Mem) (l : Nat) : Prop := ∀ k, k < 4 → aI M (l + 2) k = nI (nL M l k) ∧ nL M l k ≤ mst k ∧ ∀ i, i < nL M l k → aR M (l + 1) (pl k + i) = some (wL M l k i) ∧ WA M (wL M l k i)
theorem mst_le {k : Nat} : mst k ≤ 40 := by unfold mst; split <;> (try split) <;> (try split) <;> omega
theorem pl_mst {k i : Nat} (hk : k < 4) (hi : i < mst k) : pl k + i < 72 := by
  have : k = 0 ∨ k = 1 ∨ k = 2 ∨ k = 3 := by omega
  rcases this with rfl | rfl | rfl | rfl <;> simp [pl, mst] at * <;> omega
theorem ST_pl {M : ej_Mem} (h : ST M) {k : Nat} (hk : k < 4) : aI M 2 k = nI (pl k) := by
  obtain ⟨_, _, h0, h1, h2, h3⟩ := h
  have : k = 0 ∨ k = 1 ∨ k = 2 ∨ k = 3 := by omega
  rcases this with rfl | rfl | rfl | rfl
  · rw [h0]; rfl
  · rw [h1]; rfl
  · rw [h2]; rfl
  · rw [h3]; rfl
theorem p_writ_s {D : Nat} (hD : 1 ≤ D) {M : ej_Mem} (hs : ST M) {l : Nat} (h : LA M l) (ht : LT M l) {k : Int32} {kn : Nat} (hk : k = nI kn) (hk4 : kn < 4) {i : Nat} (hi : i < nL M l kn) :
    cal D jm_Land_writ [.ref l, .int k, .int (nI i)] M = some (some (.ref (wL M l kn i)), M) := by
  obtain ⟨d, rfl⟩ : ∃ d, D = d + 1 := ⟨D - 1, by omega⟩
  obtain ⟨h1, h2, h3⟩ := ht kn hk4
  have hm := mst_le (k := kn)
  have hp := pl_mst hk4 (show i < mst kn by omega)
  subst hk
  rw [ca_Land_writ, eq_Land_writ_0, if_neg (nI_pos (by omega))]
  simp only [h.1, h.2.1, h.2.2.1, hs.1, MR, ckk_T, deR_s, deQ_s, deQ_n, bkV_s, bkI_s, bkJ_s, bkQ_s, bkQ_n, ckb0, ckb1, ckb2, ckb3, eq_self, Nat.reduceEqDiff, Nat.reduceLeDiff, Nat.reduceLT, reduceIte, true_or, or_true, not_false_eq_true, not_true_eq_false, and_self, and_true, true_and, LIT, Int32.reduceLT, Int32.reduceLE, Int32.reduceToNatClampNeg, ckb_n hk4 (show 4 < 2 ^ 31 by decide), nI_clamp (show kn < 2 ^ 31 by omega), h1, ST_pl hs hk4, nI_add, ckb_n hp (show 72 < 2 ^ 31 by decide), nI_clamp (show pl kn + i < 2 ^ 31 by omega), (h3 i hi).1]
  rw [if_pos (nI_lt hi (by omega))]
theorem p_writ_n {D : Nat} (hD : 1 ≤ D) {M : ej_Mem} {l : Nat} (h : LA M l) (ht : LT M l) {k : Int32} {kn : Nat} (hk : k = nI kn) (hk4 : kn < 4) {x : Int32} (hx : hasB (nL M l kn) x = false) :
    cal D jm_Land_writ [.ref l, .int k, .int x] M = some (some .null, M) := by
  obtain ⟨d, rfl⟩ : ∃ d, D = d + 1 := ⟨D - 1, by omega⟩
  obtain ⟨h1, h2, h3⟩ := ht kn hk4
  have hm := mst_le (k := kn)
  subst hk
  rw [ca_Land_writ, eq_Land_writ_0]
  by_cases h0 : x < 0
  · rw [if_pos h0]
  · rw [if_neg h0]
    simp only [h.1, h.2.1, h.2.2.1, MR, ckk_T, deR_s, deQ_s, deQ_n, bkV_s, bkI_s, bkJ_s, bkQ_s, bkQ_n, ckb0, ckb1, ckb2, ckb3, eq_self, Nat.reduceEqDiff, Nat.reduceLeDiff, Nat.reduceLT, reduceIte, true_or, or_true, not_false_eq_true, not_true_eq_false, and_self, and_true, true_and, LIT, Int32.reduceLT, Int32.reduceLE, Int32.reduceToNatClampNeg, ckb_n hk4 (show 4 < 2 ^ 31 by decide), nI_clamp (show kn < 2 ^ 31 by omega), h1]
    rw [if_neg]
    intro q
    unfold hasB at hx
    rw [decide_eq_false_iff_not] at hx
    exact hx ⟨Int32.not_lt.mp h0, q⟩
