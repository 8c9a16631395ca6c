theorem ckb_l {j : Int32} {m n : Nat} (e : j = nI m) (h : m < n) (hn : n < 2 ^ 31) (k : Option ej_R) : ckb j n k = k := by rw [e]; exact ckb_n h hn k
/-- the row of scalars is filled -/
theorem mark_fill (cl : Nat → List Value → ej_Mem → Option ej_R) {M : ej_Mem} (h : RW M) (l1 : Int32) : ∃ M', rn jm_Ref_mark cl 64 [some (.ref 90), some (.int l1)] [] M = rn jm_Ref_mark cl 107 [some (.ref 90), some (.int l1)] [] M' ∧ Fr (fun o _ => o = 120) M M' ∧ (∀ j, j < 5 → aI M' 120 j = aI M 120 j) ∧ aI M' 120 5 = mI M 90 35 ∧ aI M' 120 6 = mI M 90 36 ∧ aI M' 120 7 = mI M 90 37 ∧ aI M' 120 8 = mI M 90 47 := by
  rw [eq_Ref_mark_64]
  simp only [RW.all h, MR, ckk_T, deR_s, deQ_s, deQ_n, bkV_s, bkI_s, bkJ_s, bkQ_s, bkQ_n, ckb0, ckb1, ckb2, ckb3, eq_self, Nat.reduceEqDiff, Nat.reduceLeDiff, Nat.reduceLT, reduceIte, true_or, or_true, not_false_eq_true, not_true_eq_false, and_self, and_true, true_and, LIT, Int32.reduceLT, Int32.reduceLE, Int32.reduceToNatClampNeg]
  rw [ckb_l (show (5 : Int32) = nI 5 from rfl) (by decide) (by decide), eq_Ref_mark_74]
  simp only [RW.all h, MR, ckk_T, deR_s, deQ_s, deQ_n, bkV_s, bkI_s, bkJ_s, bkQ_s, bkQ_n, ckb0, ckb1, ckb2, ckb3, eq_self, Nat.reduceEqDiff, Nat.reduceLeDiff, Nat.reduceLT, reduceIte, true_or, or_true, not_false_eq_true, not_true_eq_false, and_self, and_true, true_and, LIT, Int32.reduceLT, Int32.reduceLE, Int32.reduceToNatClampNeg]
  rw [ckb_l (show (6 : Int32) = nI 6 from rfl) (by decide) (by decide), eq_Ref_mark_85]
  simp only [RW.all h, MR, ckk_T, deR_s, deQ_s, deQ_n, bkV_s, bkI_s, bkJ_s, bkQ_s, bkQ_n, ckb0, ckb1, ckb2, ckb3, eq_self, Nat.reduceEqDiff, Nat.reduceLeDiff, Nat.reduceLT, reduceIte, true_or, or_true, not_false_eq_true, not_true_eq_false, and_self, and_true, true_and, LIT, Int32.reduceLT, Int32.reduceLE, Int32.reduceToNatClampNeg]
  rw [ckb_l (show (7 : Int32) = nI 7 from rfl) (by decide) (by decide), eq_Ref_mark_96]
  simp only [RW.all h, MR, ckk_T, deR_s, deQ_s, deQ_n, bkV_s, bkI_s, bkJ_s, bkQ_s, bkQ_n, ckb0, ckb1, ckb2, ckb3, eq_self, Nat.reduceEqDiff, Nat.reduceLeDiff, Nat.reduceLT, reduceIte, true_or, or_true, not_false_eq_true, not_true_eq_false, and_self, and_true, true_and, LIT, Int32.reduceLT, Int32.reduceLE, Int32.reduceToNatClampNeg]
  rw [ckb_l (show (8 : Int32) = nI 8 from rfl) (by decide) (by decide)]
  refine ⟨_, rfl, (((Fr.setA (P := fun o _ => o = 120) M _ rfl).trans (Fr.setA (P := fun o _ => o = 120) _ _ rfl)).trans (Fr.setA (P := fun o _ => o = 120) _ _ rfl)).trans (Fr.setA (P := fun o _ => o = 120) _ _ rfl), fun j hj => ?_, rfl, rfl, rfl, rfl⟩
  have : j = 0 ∨ j = 1 ∨ j = 2 ∨ j = 3 ∨ j = 4 := by omega
  rcases this with rfl | rfl | rfl | rfl | rfl <;> rfl
