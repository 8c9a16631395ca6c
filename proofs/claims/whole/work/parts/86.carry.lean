/-! carrying a row of the reference to a mark and back -/
def Pca (a : Nat) (o k : Nat) : Prop := o = a ∨ (o = 90 ∧ k = 57)
theorem carryS_loop (cl : Nat → List Value → ej_Mem → Option ej_R) {a n pos : Nat} (ha : a ≠ 119 ∧ a ≠ 90) (hb : pos + n ≤ 184000) : ∀ (r k : Nat) (M : ej_Mem), k + r = n → RW M → mC M a = 100 → mN M a = n → mI M 90 58 = 0 → mI M 90 57 = nI (pos + k) →
    ∃ M', rn jm_Ref_carry cl 2 [some (.ref 90), some (.ref a), some (.int (nI k))] [] M = some (none, M') ∧ Fr (Pca 119) M M' ∧ mI M' 90 57 = nI (pos + n) ∧ (∀ j, k ≤ j → j < n → aI M' 119 (pos + j) = aI M a j) ∧ ∀ j, (j < pos + k ∨ pos + n ≤ j) → aI M' 119 j = aI M 119 j
  | 0, k, M, hk, h, hc, hn, h58, h57 => by
    rw [eq_Ref_carry_2]
    simp only [RW.all h, hc, hn, MR, ckk_T, deR_s, deQ_s, deQ_n, bkV_s, bkI_s, bkJ_s, bkQ_s, bkQ_n, ckb0, ckb1, ckb2, ckb3, eq_self, Nat.reduceEqDiff, Nat.reduceLeDiff, Nat.reduceLT, reduceIte, true_or, or_true, not_false_eq_true, not_true_eq_false, and_self, and_true, true_and, LIT, Int32.reduceLT, Int32.reduceLE, Int32.reduceToNatClampNeg]
    have e : Int32.ofNat n ≤ nI k := nI_le (a := n) (by omega) (by omega)
    rw [if_pos e]
    exact ⟨M, rfl, Fr.refl _ M, by rw [h57, show k = n by omega], fun j a b => by omega, fun j _ => rfl⟩
  | r + 1, k, M, hk, h, hc, hn, h58, h57 => by
    rw [eq_Ref_carry_2]
    simp only [RW.all h, hc, hn, h58, h57, MR, ckk_T, deR_s, deQ_s, deQ_n, bkV_s, bkI_s, bkJ_s, bkQ_s, bkQ_n, ckb0, ckb1, ckb2, ckb3, eq_self, Nat.reduceEqDiff, Nat.reduceLeDiff, Nat.reduceLT, reduceIte, true_or, or_true, not_false_eq_true, not_true_eq_false, and_self, and_true, true_and, LIT, Int32.reduceLT, Int32.reduceLE, Int32.reduceToNatClampNeg]
    have e : ¬ Int32.ofNat n ≤ nI k := nI_ge (b := n) (by omega) (by omega)
    rw [if_neg e, ckb_n (by omega) (by omega), ckb_n (by omega) (by decide), nI_clamp (by omega), nI_clamp (by omega), nI_1, nI_1]
    generalize hM1 : setI (setA M 119 (pos + k) (aI M a k)) 90 57 (nI (pos + k + 1)) = M1
    have f1 : Fr (Pca 119) M M1 := by
      rw [← hM1]
      exact (Fr.setA (P := Pca 119) M _ (Or.inl rfl)).trans (Fr.setI (P := Pca 119) _ _ (Or.inr ⟨rfl, rfl⟩))
    have a119 : aI M1 119 = va_up (aI M 119) (pos + k) (aI M a k) := by rw [← hM1]; rfl
    obtain ⟨M2, e2, f2, r1, r2, r3⟩ := carryS_loop cl ha hb r (k + 1) M1 (by omega) (f1.rw h) (by rw [f1.c]; exact hc) (by rw [f1.n]; exact hn) (by rw [f1.i (by unfold Pca; omega)]; exact h58) (by rw [← hM1, gI_s]; rfl)
    have af : aI M1 a = aI M a := f1.af (fun k q => by unfold Pca at q; omega)
    refine ⟨M2, e2, f1.trans f2, r1, fun j j1 j2 => ?_, fun j hj => ?_⟩
    · by_cases q : j = k
      · subst q
        rw [r3 (pos + j) (by omega), a119, up_s]
      · rw [r2 j (by omega) j2, af]
    · rw [r3 j (by omega), a119, up_n (by omega)]
theorem carryL_loop (cl : Nat → List Value → ej_Mem → Option ej_R) {a n pos : Nat} (ha : a ≠ 119 ∧ a ≠ 90) (hb : pos + n ≤ 184000) : ∀ (r k : Nat) (M : ej_Mem), k + r = n → RW M → mC M a = 100 → mN M a = n → ¬ mI M 90 58 = 0 → mI M 90 57 = nI (pos + k) →
    ∃ M', rn jm_Ref_carry cl 2 [some (.ref 90), some (.ref a), some (.int (nI k))] [] M = some (none, M') ∧ Fr (Pca a) M M' ∧ mI M' 90 57 = nI (pos + n) ∧ (∀ j, k ≤ j → j < n → aI M' a j = aI M 119 (pos + j)) ∧ ∀ j, (j < k ∨ n ≤ j) → aI M' a j = aI M a j
  | 0, k, M, hk, h, hc, hn, h58, h57 => by
    rw [eq_Ref_carry_2]
    simp only [RW.all h, hc, hn, MR, ckk_T, deR_s, deQ_s, deQ_n, bkV_s, bkI_s, bkJ_s, bkQ_s, bkQ_n, ckb0, ckb1, ckb2, ckb3, eq_self, Nat.reduceEqDiff, Nat.reduceLeDiff, Nat.reduceLT, reduceIte, true_or, or_true, not_false_eq_true, not_true_eq_false, and_self, and_true, true_and, LIT, Int32.reduceLT, Int32.reduceLE, Int32.reduceToNatClampNeg]
    have e : Int32.ofNat n ≤ nI k := nI_le (a := n) (by omega) (by omega)
    rw [if_pos e]
    exact ⟨M, rfl, Fr.refl _ M, by rw [h57, show k = n by omega], fun j a b => by omega, fun j _ => rfl⟩
  | r + 1, k, M, hk, h, hc, hn, h58, h57 => by
    rw [eq_Ref_carry_2]
    simp only [RW.all h, hc, hn, h57, MR, ckk_T, deR_s, deQ_s, deQ_n, bkV_s, bkI_s, bkJ_s, bkQ_s, bkQ_n, ckb0, ckb1, ckb2, ckb3, eq_self, Nat.reduceEqDiff, Nat.reduceLeDiff, Nat.reduceLT, reduceIte, true_or, or_true, not_false_eq_true, not_true_eq_false, and_self, and_true, true_and, LIT, Int32.reduceLT, Int32.reduceLE, Int32.reduceToNatClampNeg]
    have e : ¬ Int32.ofNat n ≤ nI k := nI_ge (b := n) (by omega) (by omega)
    rw [if_neg e, if_neg h58, ckb_n (by omega) (by decide), ckb_n (by omega) (by omega), nI_clamp (by omega), nI_clamp (by omega), nI_1, nI_1]
    generalize hM1 : setI (setA M a k (aI M 119 (pos + k))) 90 57 (nI (pos + k + 1)) = M1
    have f1 : Fr (Pca a) M M1 := by
      rw [← hM1]
      exact (Fr.setA (P := Pca a) M _ (Or.inl rfl)).trans (Fr.setI (P := Pca a) _ _ (Or.inr ⟨rfl, rfl⟩))
    have aa : aI M1 a = va_up (aI M a) k (aI M 119 (pos + k)) := by
      rw [← hM1]
      show (if a = a then va_up (aI M a) k (aI M 119 (pos + k)) else aI M a) = _
      rw [if_pos rfl]
    obtain ⟨M2, e2, f2, r1, r2, r3⟩ := carryL_loop cl ha hb r (k + 1) M1 (by omega) (f1.rw h) (by rw [f1.c]; exact hc) (by rw [f1.n]; exact hn) (by rw [f1.i (by unfold Pca; omega)]; exact h58) (by rw [← hM1, gI_s]; rfl)
    have af : aI M1 119 = aI M 119 := f1.af (fun k q => by unfold Pca at q; omega)
    refine ⟨M2, e2, f1.trans f2, r1, fun j j1 j2 => ?_, fun j hj => ?_⟩
    · by_cases q : j = k
      · subst q
        rw [r3 j (by omega), aa, up_s]
      · rw [r2 j (by omega) j2, af]
    · rw [r3 j (by omega), aa, up_n (by omega)]
theorem p_carryS {D : Nat} (hD : 1 ≤ D) {a n pos : Nat} (ha : a ≠ 119 ∧ a ≠ 90) (hb : pos + n ≤ 184000) {M : ej_Mem} (h : RW M) (hc : mC M a = 100) (hn : mN M a = n) (h58 : mI M 90 58 = 0) (h57 : mI M 90 57 = nI pos) :
    ∃ M', cal D jm_Ref_carry [.ref 90, .ref a] M = some (none, M') ∧ Fr (Pca 119) M M' ∧ mI M' 90 57 = nI (pos + n) ∧ (∀ j, j < n → aI M' 119 (pos + j) = aI M a j) ∧ ∀ j, (j < pos ∨ pos + n ≤ j) → aI M' 119 j = aI M 119 j := by
  obtain ⟨d, rfl⟩ : ∃ d, D = d + 1 := ⟨D - 1, by omega⟩
  rw [ca_Ref_carry, eq_Ref_carry_0]
  obtain ⟨M', e, f, r1, r2, r3⟩ := carryS_loop (cal d) ha hb n 0 M (by omega) h hc hn h58 h57
  exact ⟨M', e, f, r1, fun j hj => r2 j (Nat.zero_le _) hj, r3⟩
theorem p_carryL {D : Nat} (hD : 1 ≤ D) {a n pos : Nat} (ha : a ≠ 119 ∧ a ≠ 90) (hb : pos + n ≤ 184000) {M : ej_Mem} (h : RW M) (hc : mC M a = 100) (hn : mN M a = n) (h58 : ¬ mI M 90 58 = 0) (h57 : mI M 90 57 = nI pos) :
    ∃ M', cal D jm_Ref_carry [.ref 90, .ref a] M = some (none, M') ∧ Fr (Pca a) M M' ∧ mI M' 90 57 = nI (pos + n) ∧ (∀ j, j < n → aI M' a j = aI M 119 (pos + j)) ∧ ∀ j, n ≤ j → aI M' a j = aI M a j := by
  obtain ⟨d, rfl⟩ : ∃ d, D = d + 1 := ⟨D - 1, by omega⟩
  rw [ca_Ref_carry, eq_Ref_carry_0]
  obtain ⟨M', e, f, r1, r2, r3⟩ := carryL_loop (cal d) ha hb n 0 M (by omega) h hc hn h58 h57
  exact ⟨M', e, f, r1, fun j hj => r2 j (Nat.zero_le _) hj, fun j hj => r3 j (Or.inr hj)⟩
