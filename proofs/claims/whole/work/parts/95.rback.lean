theorem back_fill (cl : Nat → List Value → ej_Mem → Option ej_R) {M : ej_Mem} (h : RW M) (l1 : Int32) : ∃ M', rn jm_Ref_back cl 43 [some (.ref 90), some (.int l1)] [] (setI M 90 9 (aI M 120 0)) = rn jm_Ref_back cl 126 [some (.ref 90), some (.int l1)] [] M' ∧ Fr (fun o k => o = 90 ∧ (k = 9 ∨ (31 ≤ k ∧ k ≤ 37) ∨ k = 47)) M M' ∧ aI M' = aI M ∧ ∀ i, i = 9 ∨ (31 ≤ i ∧ i ≤ 37) ∨ i = 47 → mI M' 90 i = aI M 120 (scl i) := by
  rw [eq_Ref_back_43]
  simp only [RW.all h, MR, ckk_T, deR_s, deQ_s, deQ_n, bkV_s, bkI_s, bkJ_s, bkQ_s, bkQ_n, ckb0, ckb1, ckb2, ckb3, eq_self, Nat.reduceEqDiff, Nat.reduceLeDiff, Nat.reduceLT, reduceIte, true_or, or_true, not_false_eq_true, not_true_eq_false, and_self, and_true, true_and, LIT, Int32.reduceLT, Int32.reduceLE, Int32.reduceToNatClampNeg]
  rw [eq_Ref_back_53]
  simp only [RW.all h, MR, ckk_T, deR_s, deQ_s, deQ_n, bkV_s, bkI_s, bkJ_s, bkQ_s, bkQ_n, ckb0, ckb1, ckb2, ckb3, eq_self, Nat.reduceEqDiff, Nat.reduceLeDiff, Nat.reduceLT, reduceIte, true_or, or_true, not_false_eq_true, not_true_eq_false, and_self, and_true, true_and, LIT, Int32.reduceLT, Int32.reduceLE, Int32.reduceToNatClampNeg]
  rw [eq_Ref_back_63]
  simp only [RW.all h, MR, ckk_T, deR_s, deQ_s, deQ_n, bkV_s, bkI_s, bkJ_s, bkQ_s, bkQ_n, ckb0, ckb1, ckb2, ckb3, eq_self, Nat.reduceEqDiff, Nat.reduceLeDiff, Nat.reduceLT, reduceIte, true_or, or_true, not_false_eq_true, not_true_eq_false, and_self, and_true, true_and, LIT, Int32.reduceLT, Int32.reduceLE, Int32.reduceToNatClampNeg]
  rw [eq_Ref_back_73]
  simp only [RW.all h, MR, ckk_T, deR_s, deQ_s, deQ_n, bkV_s, bkI_s, bkJ_s, bkQ_s, bkQ_n, ckb0, ckb1, ckb2, ckb3, eq_self, Nat.reduceEqDiff, Nat.reduceLeDiff, Nat.reduceLT, reduceIte, true_or, or_true, not_false_eq_true, not_true_eq_false, and_self, and_true, true_and, LIT, Int32.reduceLT, Int32.reduceLE, Int32.reduceToNatClampNeg]
  rw [ckb_l (show (4 : Int32) = nI 4 from rfl) (by decide) (by decide), eq_Ref_back_83]
  simp only [RW.all h, MR, ckk_T, deR_s, deQ_s, deQ_n, bkV_s, bkI_s, bkJ_s, bkQ_s, bkQ_n, ckb0, ckb1, ckb2, ckb3, eq_self, Nat.reduceEqDiff, Nat.reduceLeDiff, Nat.reduceLT, reduceIte, true_or, or_true, not_false_eq_true, not_true_eq_false, and_self, and_true, true_and, LIT, Int32.reduceLT, Int32.reduceLE, Int32.reduceToNatClampNeg]
  rw [ckb_l (show (5 : Int32) = nI 5 from rfl) (by decide) (by decide), eq_Ref_back_93]
  simp only [RW.all h, MR, ckk_T, deR_s, deQ_s, deQ_n, bkV_s, bkI_s, bkJ_s, bkQ_s, bkQ_n, ckb0, ckb1, ckb2, ckb3, eq_self, Nat.reduceEqDiff, Nat.reduceLeDiff, Nat.reduceLT, reduceIte, true_or, or_true, not_false_eq_true, not_true_eq_false, and_self, and_true, true_and, LIT, Int32.reduceLT, Int32.reduceLE, Int32.reduceToNatClampNeg]
  rw [ckb_l (show (6 : Int32) = nI 6 from rfl) (by decide) (by decide), eq_Ref_back_104]
  simp only [RW.all h, MR, ckk_T, deR_s, deQ_s, deQ_n, bkV_s, bkI_s, bkJ_s, bkQ_s, bkQ_n, ckb0, ckb1, ckb2, ckb3, eq_self, Nat.reduceEqDiff, Nat.reduceLeDiff, Nat.reduceLT, reduceIte, true_or, or_true, not_false_eq_true, not_true_eq_false, and_self, and_true, true_and, LIT, Int32.reduceLT, Int32.reduceLE, Int32.reduceToNatClampNeg]
  rw [ckb_l (show (7 : Int32) = nI 7 from rfl) (by decide) (by decide), eq_Ref_back_115]
  simp only [RW.all h, MR, ckk_T, deR_s, deQ_s, deQ_n, bkV_s, bkI_s, bkJ_s, bkQ_s, bkQ_n, ckb0, ckb1, ckb2, ckb3, eq_self, Nat.reduceEqDiff, Nat.reduceLeDiff, Nat.reduceLT, reduceIte, true_or, or_true, not_false_eq_true, not_true_eq_false, and_self, and_true, true_and, LIT, Int32.reduceLT, Int32.reduceLE, Int32.reduceToNatClampNeg]
  rw [ckb_l (show (8 : Int32) = nI 8 from rfl) (by decide) (by decide)]
  have st : ∀ (M : ej_Mem) (k : Nat) (v : Int32), (k = 9 ∨ (31 ≤ k ∧ k ≤ 37) ∨ k = 47) → Fr (fun o k => o = 90 ∧ (k = 9 ∨ (31 ≤ k ∧ k ≤ 37) ∨ k = 47)) M (setI M 90 k v) := fun M k v hk => Fr.setI M v ⟨rfl, hk⟩
  refine ⟨_, rfl, ((((((((st M 9 _ (by omega)).trans (st _ 31 _ (by omega))).trans (st _ 32 _ (by omega))).trans (st _ 33 _ (by omega))).trans (st _ 34 _ (by omega))).trans (st _ 35 _ (by omega))).trans (st _ 36 _ (by omega))).trans (st _ 37 _ (by omega))).trans (st _ 47 _ (by omega)), rfl, fun i hi => ?_⟩
  have : i = 9 ∨ i = 31 ∨ i = 32 ∨ i = 33 ∨ i = 34 ∨ i = 35 ∨ i = 36 ∨ i = 37 ∨ i = 47 := by omega
  rcases this with q | q | q | q | q | q | q | q | q <;> subst q <;> rfl
