def Pbk (o j : Nat) : Prop := (∃ x, x ∈ sl19 ∧ x.1 = o) ∨ (o = 90 ∧ (j = 57 ∨ j = 58 ∨ j = 9 ∨ (31 ≤ j ∧ j ≤ 37) ∨ j = 47))
theorem Pbk_o {o j : Nat} (h : Pbk o j) : o = 120 ∨ (92 ≤ o ∧ o ≤ 99) ∨ (101 ≤ o ∧ o ≤ 103) ∨ (108 ≤ o ∧ o ≤ 110) ∨ (115 ≤ o ∧ o ≤ 118) ∨ (o = 90 ∧ (j = 57 ∨ j = 58 ∨ j = 9 ∨ (31 ≤ j ∧ j ≤ 37) ∨ j = 47)) := by
  rcases h with ⟨x, hx, rfl⟩ | q
  · have : ∀ x, x ∈ sl19 → x.1 = 120 ∨ (92 ≤ x.1 ∧ x.1 ≤ 99) ∨ (101 ≤ x.1 ∧ x.1 ≤ 103) ∨ (108 ≤ x.1 ∧ x.1 ≤ 110) ∨ (115 ≤ x.1 ∧ x.1 ≤ 118) := by decide
    have := this x hx
    omega
  · omega
theorem r_back {D : Nat} (hD : 4 ≤ D) {M : ej_Mem} {V W : View} {mk : Nat} (h : KR M V mk) {k : Nat} (hk : k < 4) (hm : ¬ aI M 121 k = 0) (hW : VOK W) (s : SV M k W) : ∃ M', cal D jm_Ref_back [.ref 90, .int (nI k)] M = some (some (.int (nI (vN W 0))), M') ∧ Fr Pbk M M' ∧ KR M' W mk := by
  obtain ⟨d, rfl⟩ : ∃ d, D = d + 1 := ⟨D - 1, by omega⟩
  have hin : inB (nI k) 0 3 = true := by
    have : k = 0 ∨ k = 1 ∨ k = 2 ∨ k = 3 := by omega
    rcases this with rfl | rfl | rfl | rfl <;> decide
  have E := p_inI (by omega : 1 ≤ d) (nI k) 0 3 M
  rw [show Int32.toInt64 0 = 0 from by decide, show Int32.toInt64 3 = 3 from by decide, hin] at E
  rw [ca_Ref_back, eq_Ref_back_0, E]
  simp only [RW.all h.1, MR, ckk_T, deR_s, deQ_s, deQ_n, bkV_s, bkI_s, bkJ_s, bkQ_s, bkQ_n, ckb0, ckb1, ckb2, ckb3, eq_self, Nat.reduceEqDiff, Nat.reduceLeDiff, Nat.reduceLT, reduceIte, true_or, or_true, not_false_eq_true, not_true_eq_false, and_self, and_true, true_and, LIT, Int32.reduceLT, Int32.reduceLE, Int32.reduceToNatClampNeg, b2i_t]
  rw [ckb_n (by omega) (by decide), nI_clamp (by omega), if_neg hm, eq_Ref_back_28]
  have f1 : Fr Pbk M (setI M 90 58 1) := Fr.setI (P := Pbk) M _ (Or.inr ⟨rfl, by omega⟩)
  have R1 := f1.rw h.1
  obtain ⟨M4, e4, C⟩ := p_carriesL (by omega : 2 ≤ d) R1 hk (by rw [gI_s]; decide)
  have f2 : Fr Pbk (setI M 90 58 1) (setI (setI M 90 58 1) 90 57 (nI (46000 * k))) := Fr.setI (P := Pbk) _ _ (Or.inr ⟨rfl, by omega⟩)
  have f3 : Fr Pbk (setI (setI M 90 58 1) 90 57 (nI (46000 * k))) M4 := C.2.2.2.1.mono (fun o j q => by
    rcases q with q | q
    · exact Or.inl q
    · exact Or.inr ⟨q.1, by omega⟩)
  simp only [RW.all h.1, MR, ckk_T, deR_s, deQ_s, deQ_n, bkV_s, bkI_s, bkJ_s, bkQ_s, bkQ_n, ckb0, ckb1, ckb2, ckb3, eq_self, Nat.reduceEqDiff, Nat.reduceLeDiff, Nat.reduceLT, reduceIte, true_or, or_true, not_false_eq_true, not_true_eq_false, and_self, and_true, true_and, LIT, Int32.reduceLT, Int32.reduceLE, Int32.reduceToNatClampNeg]
  rw [e4]
  simp only [RW.all C.1, MR, ckk_T, deR_s, deQ_s, deQ_n, bkV_s, bkI_s, bkJ_s, bkQ_s, bkQ_n, ckb0, ckb1, ckb2, ckb3, eq_self, Nat.reduceEqDiff, Nat.reduceLeDiff, Nat.reduceLT, reduceIte, true_or, or_true, not_false_eq_true, not_true_eq_false, and_self, and_true, true_and, LIT, Int32.reduceLT, Int32.reduceLE, Int32.reduceToNatClampNeg]
  obtain ⟨M5, e5, f5, a5, i5⟩ := back_fill (cal d) C.1 (nI k)
  rw [e5, eq_Ref_back_126]
  have F : Fr Pbk M M5 := ((f1.trans f2).trans f3).trans (f5.mono (fun o j q => Or.inr ⟨q.1, by omega⟩))
  have s2 : SV (setI (setI M 90 58 1) 90 57 (nI (46000 * k))) k W := s
  have r : RV (aI M5) (mI M5 90) W := SV.load hW s2 C a5 i5
  have K : KR M5 W mk := ⟨F.rw h.1, r, hW, ⟨by rw [F.i (fun q => by have := Pbk_o q; omega)]; exact h.2.2.2.1.1, by rw [F.i (fun q => by have := Pbk_o q; omega)]; exact h.2.2.2.1.2.1, by rw [F.i (fun q => by have := Pbk_o q; omega)]; exact h.2.2.2.1.2.2⟩, h.2.2.2.2.fr F (fun j q => by have := Pbk_o q; omega) (fun q => by have := Pbk_o q; omega)⟩
  simp only [RW.all K.1, MR, ckk_T, deR_s, deQ_s, deQ_n, bkV_s, bkI_s, bkJ_s, bkQ_s, bkQ_n, ckb0, ckb1, ckb2, ckb3, eq_self, Nat.reduceEqDiff, Nat.reduceLeDiff, Nat.reduceLT, reduceIte, true_or, or_true, not_false_eq_true, not_true_eq_false, and_self, and_true, true_and, LIT, Int32.reduceLT, Int32.reduceLE, Int32.reduceToNatClampNeg]
  rw [(r.1 0 (by decide)).1, r.2.1 0 (by decide)]
  exact ⟨M5, rfl, F, K⟩
