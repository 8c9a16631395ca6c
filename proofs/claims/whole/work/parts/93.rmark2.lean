theorem mark_fill2 (cl : Nat → List Value → ej_Mem → Option ej_R) {M : ej_Mem} (h : RW M) (l1 : Int32) : ∃ M', rn jm_Ref_mark cl 24 [some (.ref 90), some (.int l1)] [] (setA M 120 0 (mI M 90 9)) = rn jm_Ref_mark cl 107 [some (.ref 90), some (.int l1)] [] M' ∧ Fr (fun o _ => o = 120) M M' ∧ ∀ i, i = 9 ∨ (31 ≤ i ∧ i ≤ 37) ∨ i = 47 → aI M' 120 (scl i) = mI M 90 i := by
  rw [eq_Ref_mark_24]
  simp only [RW.all h, MR, ckk_T, deR_s, deQ_s, deQ_n, bkV_s, bkI_s, bkJ_s, bkQ_s, bkQ_n, ckb0, ckb1, ckb2, ckb3, eq_self, Nat.reduceEqDiff, Nat.reduceLeDiff, Nat.reduceLT, reduceIte, true_or, or_true, not_false_eq_true, not_true_eq_false, and_self, and_true, true_and, LIT, Int32.reduceLT, Int32.reduceLE, Int32.reduceToNatClampNeg]
  rw [eq_Ref_mark_34]
  simp only [RW.all h, MR, ckk_T, deR_s, deQ_s, deQ_n, bkV_s, bkI_s, bkJ_s, bkQ_s, bkQ_n, ckb0, ckb1, ckb2, ckb3, eq_self, Nat.reduceEqDiff, Nat.reduceLeDiff, Nat.reduceLT, reduceIte, true_or, or_true, not_false_eq_true, not_true_eq_false, and_self, and_true, true_and, LIT, Int32.reduceLT, Int32.reduceLE, Int32.reduceToNatClampNeg]
  rw [eq_Ref_mark_44]
  simp only [RW.all h, MR, ckk_T, deR_s, deQ_s, deQ_n, bkV_s, bkI_s, bkJ_s, bkQ_s, bkQ_n, ckb0, ckb1, ckb2, ckb3, eq_self, Nat.reduceEqDiff, Nat.reduceLeDiff, Nat.reduceLT, reduceIte, true_or, or_true, not_false_eq_true, not_true_eq_false, and_self, and_true, true_and, LIT, Int32.reduceLT, Int32.reduceLE, Int32.reduceToNatClampNeg]
  rw [eq_Ref_mark_54]
  simp only [RW.all h, MR, ckk_T, deR_s, deQ_s, deQ_n, bkV_s, bkI_s, bkJ_s, bkQ_s, bkQ_n, ckb0, ckb1, ckb2, ckb3, eq_self, Nat.reduceEqDiff, Nat.reduceLeDiff, Nat.reduceLT, reduceIte, true_or, or_true, not_false_eq_true, not_true_eq_false, and_self, and_true, true_and, LIT, Int32.reduceLT, Int32.reduceLE, Int32.reduceToNatClampNeg]
  rw [ckb_l (show (4 : Int32) = nI 4 from rfl) (by decide) (by decide)]
  have f : Fr (fun o _ => o = 120) M (setA (setA (setA (setA (setA M 120 0 (mI M 90 9)) 120 1 (mI M 90 31)) 120 2 (mI M 90 32)) 120 3 (mI M 90 33)) 120 4 (mI M 90 34)) := ((((Fr.setA (P := fun o _ => o = 120) M _ rfl).trans (Fr.setA (P := fun o _ => o = 120) _ _ rfl)).trans (Fr.setA (P := fun o _ => o = 120) _ _ rfl)).trans (Fr.setA (P := fun o _ => o = 120) _ _ rfl)).trans (Fr.setA (P := fun o _ => o = 120) _ _ rfl)
  obtain ⟨M', e, f2, r, r5, r6, r7, r8⟩ := mark_fill cl (f.rw h) l1
  refine ⟨M', e, f.trans f2, fun i hi => ?_⟩
  have : i = 9 ∨ i = 31 ∨ i = 32 ∨ i = 33 ∨ i = 34 ∨ i = 35 ∨ i = 36 ∨ i = 37 ∨ i = 47 := by omega
  rcases this with q | q | q | q | q | q | q | q | q <;> subst q
  · exact (r 0 (by decide)).trans rfl
  · exact (r 1 (by decide)).trans rfl
  · exact (r 2 (by decide)).trans rfl
  · exact (r 3 (by decide)).trans rfl
  · exact (r 4 (by decide)).trans rfl
  · exact r5
  · exact r6
  · exact r7
  · exact r8
