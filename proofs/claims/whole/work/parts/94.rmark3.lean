def Pmk (o j : Nat) : Prop := (119 ≤ o ∧ o ≤ 121) ∨ (o = 90 ∧ (j = 57 ∨ j = 58))
theorem KR.fmk {M M' : ej_Mem} {V : View} {mk : Nat} (h : KR M V mk) (f : Fr Pmk M M') : KR M' V mk := by
  obtain ⟨h1, h2, h3, h4, h5⟩ := h
  exact ⟨f.rw h1, h2.fr h3 f (fun o k q z => by unfold Pmk at z; omega) (fun k q z => by unfold Pmk at z; omega), h3, ⟨by rw [f.i (by unfold Pmk; omega)]; exact h4.1, by rw [f.i (by unfold Pmk; omega)]; exact h4.2.1, by rw [f.i (by unfold Pmk; omega)]; exact h4.2.2⟩, h5.fr f (fun j => by unfold Pmk; omega) (by unfold Pmk; omega)⟩
def a_mark (V : View) (x : Int32) : Int32 := if inB x 0 3 = true then nI (vN V 0) else -1
theorem r_mark {D : Nat} (hD : 4 ≤ D) {M : ej_Mem} {V : View} {mk : Nat} (h : KR M V mk) {k : Nat} (hk : k < 4) : ∃ M', cal D jm_Ref_mark [.ref 90, .int (nI k)] M = some (some (.int (a_mark V (nI k))), M') ∧ Fr Pmk M M' ∧ KR M' V mk ∧ SV M' k V ∧ (∀ i, (i < 46000 * k ∨ 46000 * k + 45256 ≤ i) → aI M' 119 i = aI M 119 i) ∧ aI M' 121 = va_up (aI M 121) k 1 := by
  obtain ⟨d, rfl⟩ : ∃ d, D = d + 1 := ⟨D - 1, by omega⟩
  have hin : inB (nI k) 0 3 = true := by
    have : k = 0 ∨ k = 1 ∨ k = 2 ∨ k = 3 := by omega
    rcases this with rfl | rfl | rfl | rfl <;> decide
  have E := p_inI (by omega : 1 ≤ d) (nI k) 0 3 M
  rw [show Int32.toInt64 0 = 0 from by decide, show Int32.toInt64 3 = 3 from by decide, hin] at E
  rw [ca_Ref_mark, eq_Ref_mark_0, E]
  simp only [RW.all h.1, MR, ckk_T, deR_s, deQ_s, deQ_n, bkV_s, bkI_s, bkJ_s, bkQ_s, bkQ_n, ckb0, ckb1, ckb2, ckb3, eq_self, Nat.reduceEqDiff, Nat.reduceLeDiff, Nat.reduceLT, reduceIte, true_or, or_true, not_false_eq_true, not_true_eq_false, and_self, and_true, true_and, LIT, Int32.reduceLT, Int32.reduceLE, Int32.reduceToNatClampNeg, b2i_t]
  obtain ⟨M2, e2, f2, h120⟩ := mark_fill2 (cal d) h.1 (nI k)
  rw [e2, eq_Ref_mark_107]
  have R2 := f2.rw h.1
  simp only [RW.all R2, MR, ckk_T, deR_s, deQ_s, deQ_n, bkV_s, bkI_s, bkJ_s, bkQ_s, bkQ_n, ckb0, ckb1, ckb2, ckb3, eq_self, Nat.reduceEqDiff, Nat.reduceLeDiff, Nat.reduceLT, reduceIte, true_or, or_true, not_false_eq_true, not_true_eq_false, and_self, and_true, true_and, LIT, Int32.reduceLT, Int32.reduceLE, Int32.reduceToNatClampNeg, nar_1]
  rw [ckb_n (by omega) (by decide), nI_clamp (by omega), eq_Ref_mark_114]
  simp only [RW.all R2, MR, ckk_T, deR_s, deQ_s, deQ_n, bkV_s, bkI_s, bkJ_s, bkQ_s, bkQ_n, ckb0, ckb1, ckb2, ckb3, eq_self, Nat.reduceEqDiff, Nat.reduceLeDiff, Nat.reduceLT, reduceIte, true_or, or_true, not_false_eq_true, not_true_eq_false, and_self, and_true, true_and, LIT, Int32.reduceLT, Int32.reduceLE, Int32.reduceToNatClampNeg]
  rw [eq_Ref_mark_119]
  generalize hM3 : setI (setA M2 121 k 1) 90 58 0 = M3
  have f3 : Fr Pmk M2 M3 := by
    rw [← hM3]
    exact (Fr.setA (P := Pmk) M2 _ (Or.inl ⟨by omega, by omega⟩)).trans (Fr.setI (P := Pmk) _ _ (Or.inr ⟨rfl, Or.inr rfl⟩))
  have R3 := f3.rw R2
  have F3 : Fr Pmk M M3 := (f2.mono (fun o j q => Or.inl ⟨by omega, by omega⟩)).trans f3
  have s58 : mI M3 90 58 = 0 := by rw [← hM3, gI_s]
  have a121 : aI M3 121 = va_up (aI M 121) k 1 := by
    rw [← hM3, show aI M 121 = aI M2 121 from (f2.af (fun j q => by omega)).symm]; rfl
  have a120 : aI M3 120 = aI M2 120 := by rw [← hM3]; rfl
  have a119 : aI M3 119 = aI M 119 := by rw [← hM3]; exact f2.af (fun j q => by omega)
  obtain ⟨M4, e4, C⟩ := p_carriesS (by omega : 2 ≤ d) R3 hk s58
  have f4 : Fr Pmk M3 (setI M3 90 57 (nI (46000 * k))) := Fr.setI (P := Pmk) _ _ (Or.inr ⟨rfl, Or.inl rfl⟩)
  have f5 : Fr Pmk (setI M3 90 57 (nI (46000 * k))) M4 := C.2.2.2.1.mono (fun o j q => by unfold Pca at q; unfold Pmk; omega)
  have K0 := h.fmk (F3.trans f4)
  have F := (F3.trans f4).trans f5
  have K4 := h.fmk F
  simp only [RW.all R3, MR, ckk_T, deR_s, deQ_s, deQ_n, bkV_s, bkI_s, bkJ_s, bkQ_s, bkQ_n, ckb0, ckb1, ckb2, ckb3, eq_self, Nat.reduceEqDiff, Nat.reduceLeDiff, Nat.reduceLT, reduceIte, true_or, or_true, not_false_eq_true, not_true_eq_false, and_self, and_true, true_and, LIT, Int32.reduceLT, Int32.reduceLE, Int32.reduceToNatClampNeg]
  rw [e4]
  simp only [RW.all K4.1, MR, ckk_T, deR_s, deQ_s, deQ_n, bkV_s, bkI_s, bkJ_s, bkQ_s, bkQ_n, ckb0, ckb1, ckb2, ckb3, eq_self, Nat.reduceEqDiff, Nat.reduceLeDiff, Nat.reduceLT, reduceIte, true_or, or_true, not_false_eq_true, not_true_eq_false, and_self, and_true, true_and, LIT, Int32.reduceLT, Int32.reduceLE, Int32.reduceToNatClampNeg]
  unfold a_mark
  rw [hin, if_pos rfl, (K4.2.1.1 0 (by decide)).1, K4.2.1.2.1 0 (by decide)]
  refine ⟨M4, rfl, F, K4, SV.store h.2.2.1 K0.2.1 C (fun i hi => ?_), fun i hi => ?_, ?_⟩
  · show aI M3 120 (scl i) = _
    rw [a120, h120 i hi, (F3.trans f4).i (by unfold Pmk; omega)]
  · rw [C.2.2.2.2.2 i hi]
    show aI M3 119 i = _
    rw [a119]
  · rw [C.2.2.2.1.af (o := 121) (fun j q => by unfold Pca at q; omega)]
    exact a121
