/-! a whole land of the reference, to its slice and from it -/
def sl19 : List (Nat × Nat × Nat) := [(118, 44536, 720), (117, 44506, 30), (116, 44476, 30), (115, 44446, 30), (110, 40446, 4000), (109, 36446, 4000), (108, 32446, 4000), (103, 32422, 24), (102, 32382, 40), (101, 32342, 40), (99, 31478, 864), (98, 30614, 864), (97, 29750, 864), (96, 28886, 864), (95, 28814, 72), (94, 14414, 14400), (93, 14, 14400), (92, 10, 4), (120, 0, 10)]
theorem p_carriesS {D : Nat} (hD : 2 ≤ D) {M : ej_Mem} (h : RW M) {k : Nat} (hk : k < 4) (h58 : mI M 90 58 = 0) : ∃ M', cal D jm_Ref_carries [.ref 90, .int (nI k)] M = some (none, M') ∧ CS (setI M 90 57 (nI (46000 * k))) M' (46000 * k) 45256 sl19 := by
  obtain ⟨d, rfl⟩ : ∃ d, D = d + 1 := ⟨D - 1, by omega⟩
  have f0 : Fr (fun o j => o = 90 ∧ j = 57) M (setI M 90 57 (nI (46000 * k))) := Fr.setI M _ ⟨rfl, rfl⟩
  have R0 := f0.rw h
  have e0 : (46000 : Int32) * nI k = nI (46000 * k) := by rw [show (46000 : Int32) = nI 46000 from rfl, pk_mul]
  have C0 : CS (setI M 90 57 (nI (46000 * k))) (setI M 90 57 (nI (46000 * k))) (46000 * k) 0 [] := ⟨R0, by rw [gI_n (by omega)]; exact h58, gI_s _ _ _ _, Fr.refl _ _, fun x hx => (by cases hx), fun j _ => rfl⟩
  have S := RW.all R0
  rw [ca_Ref_carries, eq_Ref_carries_0, e0]
  generalize setI M 90 57 (nI (46000 * k)) = M0 at *
  obtain ⟨M1, e1, C1⟩ := C0.step (by omega : 1 ≤ d) 120 10 (by decide) (by omega) (by simp only [S]) (by simp only [S])
  obtain ⟨M2, e2, C2⟩ := C1.step (by omega : 1 ≤ d) 92 4 (by decide) (by omega) (by simp only [S]) (by simp only [S])
  obtain ⟨M3, e3, C3⟩ := C2.step (by omega : 1 ≤ d) 93 14400 (by decide) (by omega) (by simp only [S]) (by simp only [S])
  obtain ⟨M4, e4, C4⟩ := C3.step (by omega : 1 ≤ d) 94 14400 (by decide) (by omega) (by simp only [S]) (by simp only [S])
  obtain ⟨M5, e5, C5⟩ := C4.step (by omega : 1 ≤ d) 95 72 (by decide) (by omega) (by simp only [S]) (by simp only [S])
  obtain ⟨M6, e6, C6⟩ := C5.step (by omega : 1 ≤ d) 96 864 (by decide) (by omega) (by simp only [S]) (by simp only [S])
  obtain ⟨M7, e7, C7⟩ := C6.step (by omega : 1 ≤ d) 97 864 (by decide) (by omega) (by simp only [S]) (by simp only [S])
  obtain ⟨M8, e8, C8⟩ := C7.step (by omega : 1 ≤ d) 98 864 (by decide) (by omega) (by simp only [S]) (by simp only [S])
  obtain ⟨M9, e9, C9⟩ := C8.step (by omega : 1 ≤ d) 99 864 (by decide) (by omega) (by simp only [S]) (by simp only [S])
  obtain ⟨M10, e10, C10⟩ := C9.step (by omega : 1 ≤ d) 101 40 (by decide) (by omega) (by simp only [S]) (by simp only [S])
  obtain ⟨M11, e11, C11⟩ := C10.step (by omega : 1 ≤ d) 102 40 (by decide) (by omega) (by simp only [S]) (by simp only [S])
  obtain ⟨M12, e12, C12⟩ := C11.step (by omega : 1 ≤ d) 103 24 (by decide) (by omega) (by simp only [S]) (by simp only [S])
  obtain ⟨M13, e13, C13⟩ := C12.step (by omega : 1 ≤ d) 108 4000 (by decide) (by omega) (by simp only [S]) (by simp only [S])
  obtain ⟨M14, e14, C14⟩ := C13.step (by omega : 1 ≤ d) 109 4000 (by decide) (by omega) (by simp only [S]) (by simp only [S])
  obtain ⟨M15, e15, C15⟩ := C14.step (by omega : 1 ≤ d) 110 4000 (by decide) (by omega) (by simp only [S]) (by simp only [S])
  obtain ⟨M16, e16, C16⟩ := C15.step (by omega : 1 ≤ d) 115 30 (by decide) (by omega) (by simp only [S]) (by simp only [S])
  obtain ⟨M17, e17, C17⟩ := C16.step (by omega : 1 ≤ d) 116 30 (by decide) (by omega) (by simp only [S]) (by simp only [S])
  obtain ⟨M18, e18, C18⟩ := C17.step (by omega : 1 ≤ d) 117 30 (by decide) (by omega) (by simp only [S]) (by simp only [S])
  obtain ⟨M19, e19, C19⟩ := C18.step (by omega : 1 ≤ d) 118 720 (by decide) (by omega) (by simp only [S]) (by simp only [S])
  simp only [RW.all h, S, MR, ckk_T, deR_s, deQ_s, deQ_n, bkV_s, bkI_s, bkJ_s, bkQ_s, bkQ_n, ckb0, ckb1, ckb2, ckb3, eq_self, Nat.reduceEqDiff, Nat.reduceLeDiff, Nat.reduceLT, reduceIte, true_or, or_true, not_false_eq_true, not_true_eq_false, and_self, and_true, true_and, LIT, Int32.reduceLT, Int32.reduceLE, Int32.reduceToNatClampNeg]
  rw [e1]
  simp only [RW.all C1.1, MR, ckk_T, deR_s, deQ_s, deQ_n, bkV_s, bkI_s, bkJ_s, bkQ_s, bkQ_n, ckb0, ckb1, ckb2, ckb3, eq_self, Nat.reduceEqDiff, Nat.reduceLeDiff, Nat.reduceLT, reduceIte, true_or, or_true, not_false_eq_true, not_true_eq_false, and_self, and_true, true_and, LIT, Int32.reduceLT, Int32.reduceLE, Int32.reduceToNatClampNeg]
  rw [e2]
  simp only [RW.all C2.1, MR, ckk_T, deR_s, deQ_s, deQ_n, bkV_s, bkI_s, bkJ_s, bkQ_s, bkQ_n, ckb0, ckb1, ckb2, ckb3, eq_self, Nat.reduceEqDiff, Nat.reduceLeDiff, Nat.reduceLT, reduceIte, true_or, or_true, not_false_eq_true, not_true_eq_false, and_self, and_true, true_and, LIT, Int32.reduceLT, Int32.reduceLE, Int32.reduceToNatClampNeg]
  rw [e3]
  simp only [RW.all C3.1, MR, ckk_T, deR_s, deQ_s, deQ_n, bkV_s, bkI_s, bkJ_s, bkQ_s, bkQ_n, ckb0, ckb1, ckb2, ckb3, eq_self, Nat.reduceEqDiff, Nat.reduceLeDiff, Nat.reduceLT, reduceIte, true_or, or_true, not_false_eq_true, not_true_eq_false, and_self, and_true, true_and, LIT, Int32.reduceLT, Int32.reduceLE, Int32.reduceToNatClampNeg]
  rw [e4]
  simp only [RW.all C4.1, MR, ckk_T, deR_s, deQ_s, deQ_n, bkV_s, bkI_s, bkJ_s, bkQ_s, bkQ_n, ckb0, ckb1, ckb2, ckb3, eq_self, Nat.reduceEqDiff, Nat.reduceLeDiff, Nat.reduceLT, reduceIte, true_or, or_true, not_false_eq_true, not_true_eq_false, and_self, and_true, true_and, LIT, Int32.reduceLT, Int32.reduceLE, Int32.reduceToNatClampNeg]
  rw [e5]
  simp only [RW.all C5.1, MR, ckk_T, deR_s, deQ_s, deQ_n, bkV_s, bkI_s, bkJ_s, bkQ_s, bkQ_n, ckb0, ckb1, ckb2, ckb3, eq_self, Nat.reduceEqDiff, Nat.reduceLeDiff, Nat.reduceLT, reduceIte, true_or, or_true, not_false_eq_true, not_true_eq_false, and_self, and_true, true_and, LIT, Int32.reduceLT, Int32.reduceLE, Int32.reduceToNatClampNeg]
  rw [e6]
  simp only [RW.all C6.1, MR, ckk_T, deR_s, deQ_s, deQ_n, bkV_s, bkI_s, bkJ_s, bkQ_s, bkQ_n, ckb0, ckb1, ckb2, ckb3, eq_self, Nat.reduceEqDiff, Nat.reduceLeDiff, Nat.reduceLT, reduceIte, true_or, or_true, not_false_eq_true, not_true_eq_false, and_self, and_true, true_and, LIT, Int32.reduceLT, Int32.reduceLE, Int32.reduceToNatClampNeg]
  rw [e7]
  simp only [RW.all C7.1, MR, ckk_T, deR_s, deQ_s, deQ_n, bkV_s, bkI_s, bkJ_s, bkQ_s, bkQ_n, ckb0, ckb1, ckb2, ckb3, eq_self, Nat.reduceEqDiff, Nat.reduceLeDiff, Nat.reduceLT, reduceIte, true_or, or_true, not_false_eq_true, not_true_eq_false, and_self, and_true, true_and, LIT, Int32.reduceLT, Int32.reduceLE, Int32.reduceToNatClampNeg]
  rw [e8]
  simp only [RW.all C8.1, MR, ckk_T, deR_s, deQ_s, deQ_n, bkV_s, bkI_s, bkJ_s, bkQ_s, bkQ_n, ckb0, ckb1, ckb2, ckb3, eq_self, Nat.reduceEqDiff, Nat.reduceLeDiff, Nat.reduceLT, reduceIte, true_or, or_true, not_false_eq_true, not_true_eq_false, and_self, and_true, true_and, LIT, Int32.reduceLT, Int32.reduceLE, Int32.reduceToNatClampNeg]
  rw [e9]
  simp only [RW.all C9.1, MR, ckk_T, deR_s, deQ_s, deQ_n, bkV_s, bkI_s, bkJ_s, bkQ_s, bkQ_n, ckb0, ckb1, ckb2, ckb3, eq_self, Nat.reduceEqDiff, Nat.reduceLeDiff, Nat.reduceLT, reduceIte, true_or, or_true, not_false_eq_true, not_true_eq_false, and_self, and_true, true_and, LIT, Int32.reduceLT, Int32.reduceLE, Int32.reduceToNatClampNeg]
  rw [e10]
  simp only [RW.all C10.1, MR, ckk_T, deR_s, deQ_s, deQ_n, bkV_s, bkI_s, bkJ_s, bkQ_s, bkQ_n, ckb0, ckb1, ckb2, ckb3, eq_self, Nat.reduceEqDiff, Nat.reduceLeDiff, Nat.reduceLT, reduceIte, true_or, or_true, not_false_eq_true, not_true_eq_false, and_self, and_true, true_and, LIT, Int32.reduceLT, Int32.reduceLE, Int32.reduceToNatClampNeg]
  rw [e11]
  simp only [RW.all C11.1, MR, ckk_T, deR_s, deQ_s, deQ_n, bkV_s, bkI_s, bkJ_s, bkQ_s, bkQ_n, ckb0, ckb1, ckb2, ckb3, eq_self, Nat.reduceEqDiff, Nat.reduceLeDiff, Nat.reduceLT, reduceIte, true_or, or_true, not_false_eq_true, not_true_eq_false, and_self, and_true, true_and, LIT, Int32.reduceLT, Int32.reduceLE, Int32.reduceToNatClampNeg]
  rw [e12]
  simp only [RW.all C12.1, MR, ckk_T, deR_s, deQ_s, deQ_n, bkV_s, bkI_s, bkJ_s, bkQ_s, bkQ_n, ckb0, ckb1, ckb2, ckb3, eq_self, Nat.reduceEqDiff, Nat.reduceLeDiff, Nat.reduceLT, reduceIte, true_or, or_true, not_false_eq_true, not_true_eq_false, and_self, and_true, true_and, LIT, Int32.reduceLT, Int32.reduceLE, Int32.reduceToNatClampNeg]
  rw [e13]
  simp only [RW.all C13.1, MR, ckk_T, deR_s, deQ_s, deQ_n, bkV_s, bkI_s, bkJ_s, bkQ_s, bkQ_n, ckb0, ckb1, ckb2, ckb3, eq_self, Nat.reduceEqDiff, Nat.reduceLeDiff, Nat.reduceLT, reduceIte, true_or, or_true, not_false_eq_true, not_true_eq_false, and_self, and_true, true_and, LIT, Int32.reduceLT, Int32.reduceLE, Int32.reduceToNatClampNeg]
  rw [e14]
  simp only [RW.all C14.1, MR, ckk_T, deR_s, deQ_s, deQ_n, bkV_s, bkI_s, bkJ_s, bkQ_s, bkQ_n, ckb0, ckb1, ckb2, ckb3, eq_self, Nat.reduceEqDiff, Nat.reduceLeDiff, Nat.reduceLT, reduceIte, true_or, or_true, not_false_eq_true, not_true_eq_false, and_self, and_true, true_and, LIT, Int32.reduceLT, Int32.reduceLE, Int32.reduceToNatClampNeg]
  rw [e15]
  simp only [RW.all C15.1, MR, ckk_T, deR_s, deQ_s, deQ_n, bkV_s, bkI_s, bkJ_s, bkQ_s, bkQ_n, ckb0, ckb1, ckb2, ckb3, eq_self, Nat.reduceEqDiff, Nat.reduceLeDiff, Nat.reduceLT, reduceIte, true_or, or_true, not_false_eq_true, not_true_eq_false, and_self, and_true, true_and, LIT, Int32.reduceLT, Int32.reduceLE, Int32.reduceToNatClampNeg]
  rw [e16]
  simp only [RW.all C16.1, MR, ckk_T, deR_s, deQ_s, deQ_n, bkV_s, bkI_s, bkJ_s, bkQ_s, bkQ_n, ckb0, ckb1, ckb2, ckb3, eq_self, Nat.reduceEqDiff, Nat.reduceLeDiff, Nat.reduceLT, reduceIte, true_or, or_true, not_false_eq_true, not_true_eq_false, and_self, and_true, true_and, LIT, Int32.reduceLT, Int32.reduceLE, Int32.reduceToNatClampNeg]
  rw [e17]
  simp only [RW.all C17.1, MR, ckk_T, deR_s, deQ_s, deQ_n, bkV_s, bkI_s, bkJ_s, bkQ_s, bkQ_n, ckb0, ckb1, ckb2, ckb3, eq_self, Nat.reduceEqDiff, Nat.reduceLeDiff, Nat.reduceLT, reduceIte, true_or, or_true, not_false_eq_true, not_true_eq_false, and_self, and_true, true_and, LIT, Int32.reduceLT, Int32.reduceLE, Int32.reduceToNatClampNeg]
  rw [e18]
  simp only [RW.all C18.1, MR, ckk_T, deR_s, deQ_s, deQ_n, bkV_s, bkI_s, bkJ_s, bkQ_s, bkQ_n, ckb0, ckb1, ckb2, ckb3, eq_self, Nat.reduceEqDiff, Nat.reduceLeDiff, Nat.reduceLT, reduceIte, true_or, or_true, not_false_eq_true, not_true_eq_false, and_self, and_true, true_and, LIT, Int32.reduceLT, Int32.reduceLE, Int32.reduceToNatClampNeg]
  rw [e19]
  simp only [RW.all C19.1, MR, ckk_T, deR_s, deQ_s, deQ_n, bkV_s, bkI_s, bkJ_s, bkQ_s, bkQ_n, ckb0, ckb1, ckb2, ckb3, eq_self, Nat.reduceEqDiff, Nat.reduceLeDiff, Nat.reduceLT, reduceIte, true_or, or_true, not_false_eq_true, not_true_eq_false, and_self, and_true, true_and, LIT, Int32.reduceLT, Int32.reduceLE, Int32.reduceToNatClampNeg]
  exact ⟨M19, rfl, C19⟩
theorem p_carriesL {D : Nat} (hD : 2 ≤ D) {M : ej_Mem} (h : RW M) {k : Nat} (hk : k < 4) (h58 : ¬ mI M 90 58 = 0) : ∃ M', cal D jm_Ref_carries [.ref 90, .int (nI k)] M = some (none, M') ∧ CL (setI M 90 57 (nI (46000 * k))) M' (46000 * k) 45256 sl19 := by
  obtain ⟨d, rfl⟩ : ∃ d, D = d + 1 := ⟨D - 1, by omega⟩
  have f0 : Fr (fun o j => o = 90 ∧ j = 57) M (setI M 90 57 (nI (46000 * k))) := Fr.setI M _ ⟨rfl, rfl⟩
  have R0 := f0.rw h
  have e0 : (46000 : Int32) * nI k = nI (46000 * k) := by rw [show (46000 : Int32) = nI 46000 from rfl, pk_mul]
  have C0 : CL (setI M 90 57 (nI (46000 * k))) (setI M 90 57 (nI (46000 * k))) (46000 * k) 0 [] := ⟨R0, by rw [gI_n (by omega)]; exact h58, gI_s _ _ _ _, Fr.refl _ _, rfl, fun x hx => (by cases hx)⟩
  have S := RW.all R0
  rw [ca_Ref_carries, eq_Ref_carries_0, e0]
  generalize setI M 90 57 (nI (46000 * k)) = M0 at *
  obtain ⟨M1, e1, C1⟩ := C0.step (by omega : 1 ≤ d) 120 10 (by decide) (by omega) (by simp only [S]) (by simp only [S]) (by decide)
  obtain ⟨M2, e2, C2⟩ := C1.step (by omega : 1 ≤ d) 92 4 (by decide) (by omega) (by simp only [S]) (by simp only [S]) (by decide)
  obtain ⟨M3, e3, C3⟩ := C2.step (by omega : 1 ≤ d) 93 14400 (by decide) (by omega) (by simp only [S]) (by simp only [S]) (by decide)
  obtain ⟨M4, e4, C4⟩ := C3.step (by omega : 1 ≤ d) 94 14400 (by decide) (by omega) (by simp only [S]) (by simp only [S]) (by decide)
  obtain ⟨M5, e5, C5⟩ := C4.step (by omega : 1 ≤ d) 95 72 (by decide) (by omega) (by simp only [S]) (by simp only [S]) (by decide)
  obtain ⟨M6, e6, C6⟩ := C5.step (by omega : 1 ≤ d) 96 864 (by decide) (by omega) (by simp only [S]) (by simp only [S]) (by decide)
  obtain ⟨M7, e7, C7⟩ := C6.step (by omega : 1 ≤ d) 97 864 (by decide) (by omega) (by simp only [S]) (by simp only [S]) (by decide)
  obtain ⟨M8, e8, C8⟩ := C7.step (by omega : 1 ≤ d) 98 864 (by decide) (by omega) (by simp only [S]) (by simp only [S]) (by decide)
  obtain ⟨M9, e9, C9⟩ := C8.step (by omega : 1 ≤ d) 99 864 (by decide) (by omega) (by simp only [S]) (by simp only [S]) (by decide)
  obtain ⟨M10, e10, C10⟩ := C9.step (by omega : 1 ≤ d) 101 40 (by decide) (by omega) (by simp only [S]) (by simp only [S]) (by decide)
  obtain ⟨M11, e11, C11⟩ := C10.step (by omega : 1 ≤ d) 102 40 (by decide) (by omega) (by simp only [S]) (by simp only [S]) (by decide)
  obtain ⟨M12, e12, C12⟩ := C11.step (by omega : 1 ≤ d) 103 24 (by decide) (by omega) (by simp only [S]) (by simp only [S]) (by decide)
  obtain ⟨M13, e13, C13⟩ := C12.step (by omega : 1 ≤ d) 108 4000 (by decide) (by omega) (by simp only [S]) (by simp only [S]) (by decide)
  obtain ⟨M14, e14, C14⟩ := C13.step (by omega : 1 ≤ d) 109 4000 (by decide) (by omega) (by simp only [S]) (by simp only [S]) (by decide)
  obtain ⟨M15, e15, C15⟩ := C14.step (by omega : 1 ≤ d) 110 4000 (by decide) (by omega) (by simp only [S]) (by simp only [S]) (by decide)
  obtain ⟨M16, e16, C16⟩ := C15.step (by omega : 1 ≤ d) 115 30 (by decide) (by omega) (by simp only [S]) (by simp only [S]) (by decide)
  obtain ⟨M17, e17, C17⟩ := C16.step (by omega : 1 ≤ d) 116 30 (by decide) (by omega) (by simp only [S]) (by simp only [S]) (by decide)
  obtain ⟨M18, e18, C18⟩ := C17.step (by omega : 1 ≤ d) 117 30 (by decide) (by omega) (by simp only [S]) (by simp only [S]) (by decide)
  obtain ⟨M19, e19, C19⟩ := C18.step (by omega : 1 ≤ d) 118 720 (by decide) (by omega) (by simp only [S]) (by simp only [S]) (by decide)
  simp only [RW.all h, S, MR, ckk_T, deR_s, deQ_s, deQ_n, bkV_s, bkI_s, bkJ_s, bkQ_s, bkQ_n, ckb0, ckb1, ckb2, ckb3, eq_self, Nat.reduceEqDiff, Nat.reduceLeDiff, Nat.reduceLT, reduceIte, true_or, or_true, not_false_eq_true, not_true_eq_false, and_self, and_true, true_and, LIT, Int32.reduceLT, Int32.reduceLE, Int32.reduceToNatClampNeg]
  rw [e1]
  simp only [RW.all C1.1, MR, ckk_T, deR_s, deQ_s, deQ_n, bkV_s, bkI_s, bkJ_s, bkQ_s, bkQ_n, ckb0, ckb1, ckb2, ckb3, eq_self, Nat.reduceEqDiff, Nat.reduceLeDiff, Nat.reduceLT, reduceIte, true_or, or_true, not_false_eq_true, not_true_eq_false, and_self, and_true, true_and, LIT, Int32.reduceLT, Int32.reduceLE, Int32.reduceToNatClampNeg]
  rw [e2]
  simp only [RW.all C2.1, MR, ckk_T, deR_s, deQ_s, deQ_n, bkV_s, bkI_s, bkJ_s, bkQ_s, bkQ_n, ckb0, ckb1, ckb2, ckb3, eq_self, Nat.reduceEqDiff, Nat.reduceLeDiff, Nat.reduceLT, reduceIte, true_or, or_true, not_false_eq_true, not_true_eq_false, and_self, and_true, true_and, LIT, Int32.reduceLT, Int32.reduceLE, Int32.reduceToNatClampNeg]
  rw [e3]
  simp only [RW.all C3.1, MR, ckk_T, deR_s, deQ_s, deQ_n, bkV_s, bkI_s, bkJ_s, bkQ_s, bkQ_n, ckb0, ckb1, ckb2, ckb3, eq_self, Nat.reduceEqDiff, Nat.reduceLeDiff, Nat.reduceLT, reduceIte, true_or, or_true, not_false_eq_true, not_true_eq_false, and_self, and_true, true_and, LIT, Int32.reduceLT, Int32.reduceLE, Int32.reduceToNatClampNeg]
  rw [e4]
  simp only [RW.all C4.1, MR, ckk_T, deR_s, deQ_s, deQ_n, bkV_s, bkI_s, bkJ_s, bkQ_s, bkQ_n, ckb0, ckb1, ckb2, ckb3, eq_self, Nat.reduceEqDiff, Nat.reduceLeDiff, Nat.reduceLT, reduceIte, true_or, or_true, not_false_eq_true, not_true_eq_false, and_self, and_true, true_and, LIT, Int32.reduceLT, Int32.reduceLE, Int32.reduceToNatClampNeg]
  rw [e5]
  simp only [RW.all C5.1, MR, ckk_T, deR_s, deQ_s, deQ_n, bkV_s, bkI_s, bkJ_s, bkQ_s, bkQ_n, ckb0, ckb1, ckb2, ckb3, eq_self, Nat.reduceEqDiff, Nat.reduceLeDiff, Nat.reduceLT, reduceIte, true_or, or_true, not_false_eq_true, not_true_eq_false, and_self, and_true, true_and, LIT, Int32.reduceLT, Int32.reduceLE, Int32.reduceToNatClampNeg]
  rw [e6]
  simp only [RW.all C6.1, MR, ckk_T, deR_s, deQ_s, deQ_n, bkV_s, bkI_s, bkJ_s, bkQ_s, bkQ_n, ckb0, ckb1, ckb2, ckb3, eq_self, Nat.reduceEqDiff, Nat.reduceLeDiff, Nat.reduceLT, reduceIte, true_or, or_true, not_false_eq_true, not_true_eq_false, and_self, and_true, true_and, LIT, Int32.reduceLT, Int32.reduceLE, Int32.reduceToNatClampNeg]
  rw [e7]
  simp only [RW.all C7.1, MR, ckk_T, deR_s, deQ_s, deQ_n, bkV_s, bkI_s, bkJ_s, bkQ_s, bkQ_n, ckb0, ckb1, ckb2, ckb3, eq_self, Nat.reduceEqDiff, Nat.reduceLeDiff, Nat.reduceLT, reduceIte, true_or, or_true, not_false_eq_true, not_true_eq_false, and_self, and_true, true_and, LIT, Int32.reduceLT, Int32.reduceLE, Int32.reduceToNatClampNeg]
  rw [e8]
  simp only [RW.all C8.1, MR, ckk_T, deR_s, deQ_s, deQ_n, bkV_s, bkI_s, bkJ_s, bkQ_s, bkQ_n, ckb0, ckb1, ckb2, ckb3, eq_self, Nat.reduceEqDiff, Nat.reduceLeDiff, Nat.reduceLT, reduceIte, true_or, or_true, not_false_eq_true, not_true_eq_false, and_self, and_true, true_and, LIT, Int32.reduceLT, Int32.reduceLE, Int32.reduceToNatClampNeg]
  rw [e9]
  simp only [RW.all C9.1, MR, ckk_T, deR_s, deQ_s, deQ_n, bkV_s, bkI_s, bkJ_s, bkQ_s, bkQ_n, ckb0, ckb1, ckb2, ckb3, eq_self, Nat.reduceEqDiff, Nat.reduceLeDiff, Nat.reduceLT, reduceIte, true_or, or_true, not_false_eq_true, not_true_eq_false, and_self, and_true, true_and, LIT, Int32.reduceLT, Int32.reduceLE, Int32.reduceToNatClampNeg]
  rw [e10]
  simp only [RW.all C10.1, MR, ckk_T, deR_s, deQ_s, deQ_n, bkV_s, bkI_s, bkJ_s, bkQ_s, bkQ_n, ckb0, ckb1, ckb2, ckb3, eq_self, Nat.reduceEqDiff, Nat.reduceLeDiff, Nat.reduceLT, reduceIte, true_or, or_true, not_false_eq_true, not_true_eq_false, and_self, and_true, true_and, LIT, Int32.reduceLT, Int32.reduceLE, Int32.reduceToNatClampNeg]
  rw [e11]
  simp only [RW.all C11.1, MR, ckk_T, deR_s, deQ_s, deQ_n, bkV_s, bkI_s, bkJ_s, bkQ_s, bkQ_n, ckb0, ckb1, ckb2, ckb3, eq_self, Nat.reduceEqDiff, Nat.reduceLeDiff, Nat.reduceLT, reduceIte, true_or, or_true, not_false_eq_true, not_true_eq_false, and_self, and_true, true_and, LIT, Int32.reduceLT, Int32.reduceLE, Int32.reduceToNatClampNeg]
  rw [e12]
  simp only [RW.all C12.1, MR, ckk_T, deR_s, deQ_s, deQ_n, bkV_s, bkI_s, bkJ_s, bkQ_s, bkQ_n, ckb0, ckb1, ckb2, ckb3, eq_self, Nat.reduceEqDiff, Nat.reduceLeDiff, Nat.reduceLT, reduceIte, true_or, or_true, not_false_eq_true, not_true_eq_false, and_self, and_true, true_and, LIT, Int32.reduceLT, Int32.reduceLE, Int32.reduceToNatClampNeg]
  rw [e13]
  simp only [RW.all C13.1, MR, ckk_T, deR_s, deQ_s, deQ_n, bkV_s, bkI_s, bkJ_s, bkQ_s, bkQ_n, ckb0, ckb1, ckb2, ckb3, eq_self, Nat.reduceEqDiff, Nat.reduceLeDiff, Nat.reduceLT, reduceIte, true_or, or_true, not_false_eq_true, not_true_eq_false, and_self, and_true, true_and, LIT, Int32.reduceLT, Int32.reduceLE, Int32.reduceToNatClampNeg]
  rw [e14]
  simp only [RW.all C14.1, MR, ckk_T, deR_s, deQ_s, deQ_n, bkV_s, bkI_s, bkJ_s, bkQ_s, bkQ_n, ckb0, ckb1, ckb2, ckb3, eq_self, Nat.reduceEqDiff, Nat.reduceLeDiff, Nat.reduceLT, reduceIte, true_or, or_true, not_false_eq_true, not_true_eq_false, and_self, and_true, true_and, LIT, Int32.reduceLT, Int32.reduceLE, Int32.reduceToNatClampNeg]
  rw [e15]
  simp only [RW.all C15.1, MR, ckk_T, deR_s, deQ_s, deQ_n, bkV_s, bkI_s, bkJ_s, bkQ_s, bkQ_n, ckb0, ckb1, ckb2, ckb3, eq_self, Nat.reduceEqDiff, Nat.reduceLeDiff, Nat.reduceLT, reduceIte, true_or, or_true, not_false_eq_true, not_true_eq_false, and_self, and_true, true_and, LIT, Int32.reduceLT, Int32.reduceLE, Int32.reduceToNatClampNeg]
  rw [e16]
  simp only [RW.all C16.1, MR, ckk_T, deR_s, deQ_s, deQ_n, bkV_s, bkI_s, bkJ_s, bkQ_s, bkQ_n, ckb0, ckb1, ckb2, ckb3, eq_self, Nat.reduceEqDiff, Nat.reduceLeDiff, Nat.reduceLT, reduceIte, true_or, or_true, not_false_eq_true, not_true_eq_false, and_self, and_true, true_and, LIT, Int32.reduceLT, Int32.reduceLE, Int32.reduceToNatClampNeg]
  rw [e17]
  simp only [RW.all C17.1, MR, ckk_T, deR_s, deQ_s, deQ_n, bkV_s, bkI_s, bkJ_s, bkQ_s, bkQ_n, ckb0, ckb1, ckb2, ckb3, eq_self, Nat.reduceEqDiff, Nat.reduceLeDiff, Nat.reduceLT, reduceIte, true_or, or_true, not_false_eq_true, not_true_eq_false, and_self, and_true, true_and, LIT, Int32.reduceLT, Int32.reduceLE, Int32.reduceToNatClampNeg]
  rw [e18]
  simp only [RW.all C18.1, MR, ckk_T, deR_s, deQ_s, deQ_n, bkV_s, bkI_s, bkJ_s, bkQ_s, bkQ_n, ckb0, ckb1, ckb2, ckb3, eq_self, Nat.reduceEqDiff, Nat.reduceLeDiff, Nat.reduceLT, reduceIte, true_or, or_true, not_false_eq_true, not_true_eq_false, and_self, and_true, true_and, LIT, Int32.reduceLT, Int32.reduceLE, Int32.reduceToNatClampNeg]
  rw [e19]
  simp only [RW.all C19.1, MR, ckk_T, deR_s, deQ_s, deQ_n, bkV_s, bkI_s, bkJ_s, bkQ_s, bkQ_n, ckb0, ckb1, ckb2, ckb3, eq_self, Nat.reduceEqDiff, Nat.reduceLeDiff, Nat.reduceLT, reduceIte, true_or, or_true, not_false_eq_true, not_true_eq_false, and_self, and_true, true_and, LIT, Int32.reduceLT, Int32.reduceLE, Int32.reduceToNatClampNeg]
  exact ⟨M19, rfl, C19⟩
