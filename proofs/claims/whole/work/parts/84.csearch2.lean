theorem FrG.transQ {P Q : Nat → Nat → Prop} {M M' M'' : ej_Mem} (h : FrG P M M') (h' : FrG Q M' M'') (hq : ∀ o k, o < mZ M → Q o k → P o k) : FrG P M M'' := by
  obtain ⟨a1, a2, a3⟩ := h
  obtain ⟨b1, b2, b3⟩ := h'
  refine ⟨Nat.le_trans a1 b1, fun o ho => ?_, fun o ho k hp => ?_⟩
  · obtain ⟨c1, c2⟩ := a2 o ho
    obtain ⟨d1, d2⟩ := b2 o (by omega)
    exact ⟨d1.trans c1, d2.trans c2⟩
  · obtain ⟨c1, c2, c3, c4, c5⟩ := a3 o ho k hp
    obtain ⟨d1, d2, d3, d4, d5⟩ := b3 o (by omega) k (fun q => hp (hq o k ho q))
    exact ⟨d1.trans c1, d2.trans c2, d3.trans c3, d4.trans c4, d5.trans c5⟩
def RoomS (M M' : ej_Mem) : Prop := (mZ M' = mZ M ∧ mS M' = mS M ∧ mR M' 68 7 = mR M 68 7) ∨ (mR M 68 7 = none ∧ mZ M' = mZ M + 4 ∧ mS M' = mS M + 16200 ∧ ∃ x, mR M' 68 7 = some x)
theorem p_beginSearch {D : Nat} (hD : 5 ≤ D) {M : ej_Mem} {own : Nat → Nat} {V : View} (h : KC M own V) {gi wi : Nat} (hg : gi < vN V 1) (hw : wi < vN V 2) (y s : Int32) (hV2 : VOK (setVB V (b_new (tTs (vT V 2 wi)) s) gi wi y)) :
    ∃ M' own', cal D jm_Land_beginSearch [.ref 68, .int (nI gi), .int (nI wi), .int y, .int s] M = some (none, M') ∧ FrG (P2 own) M M' ∧ KC M' own' (setVB V (b_new (tTs (vT V 2 wi)) s) gi wi y) ∧ (∀ o, o < mZ M → own' o = own o) ∧ RoomS M M' := by
  obtain ⟨d, rfl⟩ : ∃ d, D = d + 1 := ⟨D - 1, by omega⟩
  have l2 := h.2.2.2.2.2.2.1.le (show 2 < 4 by decide)
  rw [ca_Land_beginSearch, eq_Land_beginSearch_0]
  obtain ⟨K1, G1⟩ := h.three hg hw y
  have i1 : mI (setI (setI (setI M 68 8 (nI gi)) 68 9 (nI wi)) 68 10 y) 68 8 = nI gi ∧ mI (setI (setI (setI M 68 8 (nI gi)) 68 9 (nI wi)) 68 10 y) 68 9 = nI wi ∧ mI (setI (setI (setI M 68 8 (nI gi)) 68 9 (nI wi)) 68 10 y) 68 10 = y := ⟨rfl, rfl, rfl⟩
  have zz : mZ (setI (setI (setI M 68 8 (nI gi)) 68 9 (nI wi)) 68 10 y) = mZ M ∧ mS (setI (setI (setI M 68 8 (nI gi)) 68 9 (nI wi)) 68 10 y) = mS M := ⟨rfl, rfl⟩
  have r7 : mR (setI (setI (setI M 68 8 (nI gi)) 68 9 (nI wi)) 68 10 y) 68 7 = mR M 68 7 := rfl
  have c8 : mC (setI M 68 8 (nI gi)) 68 = 3 := (SW.all h.1).2.2.2.2.2.2.2.2.2.1
  have c9 : mC (setI (setI M 68 8 (nI gi)) 68 9 (nI wi)) 68 = 3 := c8
  rw [ckk_t (show mC M 68 = 3 from c8), ckk_t c8, ckk_t c9]
  generalize setI (setI (setI M 68 8 (nI gi)) 68 9 (nI wi)) 68 10 y = M1 at *
  rw [ckk_t (SW.all K1.1).2.2.2.2.2.2.2.2.2.1]
  rcases K1.2.2.2.2.2.1.2.2.2.2.2.2.2.2.1 with ⟨e7, _⟩ | ⟨hh, e7, _⟩
  · rw [e7]
    simp only [MR, ckk_T, deR_s, deQ_s, deQ_n, bkV_s, bkI_s, bkJ_s, bkQ_s, bkQ_n, ckb0, ckb1, ckb2, ckb3, eq_self, Nat.reduceEqDiff, Nat.reduceLeDiff, Nat.reduceLT, reduceIte, true_or, or_true, not_false_eq_true, not_true_eq_false, and_self, and_true, true_and, LIT, Int32.reduceLT, Int32.reduceLE, Int32.reduceToNatClampNeg]
    have I : cal d jm_Hunt_init [.ref (mZ M1), .int 4000, .int 19] (newM M1 1 0 8) = some (none, hIni M1 4000 8192 (nI 4000) (nI 19)) := p_huntInit (by omega : 1 ≤ d) hz4 M1
    rw [I]
    obtain ⟨K2, G2⟩ := K1.hunted e7
    have hz4' := hIni_z M1 4000 8192 (nI 4000) (nI 19)
    have e72 : mR (setR (hIni M1 4000 8192 (nI 4000) (nI 19)) 68 7 (some (mZ M1))) 68 7 = some (mZ M1) := gR_s _ _ _ _
    have f68 := (hIni_g (fun o _ => o = mZ M1) M1 4000 8192 (nI 4000) (nI 19) (fun _ => rfl)).all (o := 68) ⟨by have := K1.2.2.1; omega, fun k q => by have := K1.2.2.1; omega⟩
    have i2 : mI (setR (hIni M1 4000 8192 (nI 4000) (nI 19)) 68 7 (some (mZ M1))) 68 = mI M1 68 := f68.1
    have z2 : mZ (setR (hIni M1 4000 8192 (nI 4000) (nI 19)) 68 7 (some (mZ M1))) = mZ M1 + 4 ∧ mS (setR (hIni M1 4000 8192 (nI 4000) (nI 19)) 68 7 (some (mZ M1))) = mS M1 + 8 + 4000 + 4000 + 8192 := hz4'
    have c3 : mC (hIni M1 4000 8192 (nI 4000) (nI 19)) 68 = 3 := (SW.all K2.1).2.2.2.2.2.2.2.2.2.1
    have c1 : mC (setR (hIni M1 4000 8192 (nI 4000) (nI 19)) 68 7 (some (mZ M1))) (mZ M1) = 1 := (K2.sr e72).2.1.1.1
    have oeq : ∀ o, o < mZ M → ownH own (mZ M1) o = own o := fun o ho => by
      unfold ownH
      rw [if_neg (by omega)]
    rw [bkV_s]
    simp only [c3, up_s, MR, ckk_T, deR_s, deQ_s, deQ_n, bkV_s, bkI_s, bkJ_s, bkQ_s, bkQ_n, ckb0, ckb1, ckb2, ckb3, eq_self, Nat.reduceEqDiff, Nat.reduceLeDiff, Nat.reduceLT, reduceIte, true_or, or_true, not_false_eq_true, not_true_eq_false, and_self, and_true, true_and, LIT, Int32.reduceLT, Int32.reduceLE, Int32.reduceToNatClampNeg]
    have hv2 := K2.2.2.2.2.2.1
    generalize setR (hIni M1 4000 8192 (nI 4000) (nI 19)) 68 7 (some (mZ M1)) = M2 at *
    rw [p_writ_s (by omega) K2.2.1 hv2.1 hv2.2.1 ks2 (by decide) (by rw [hv2.2.2.1 2 (by decide)]; exact hw)]
    simp only [c1, MR, ckk_T, deR_s, deQ_s, deQ_n, bkV_s, bkI_s, bkJ_s, bkQ_s, bkQ_n, ckb0, ckb1, ckb2, ckb3, eq_self, Nat.reduceEqDiff, Nat.reduceLeDiff, Nat.reduceLT, reduceIte, true_or, or_true, not_false_eq_true, not_true_eq_false, and_self, and_true, true_and, LIT, Int32.reduceLT, Int32.reduceLE, Int32.reduceToNatClampNeg]
    obtain ⟨M3, e3, G3, K3, z3, s3, r3⟩ := hunt_anew (by omega : 4 ≤ d) K2 e72 hw (by rw [i2]; exact i1) s hV2
    rw [e3]
    have G3' : FrG (P2 own) M M3 := (G1.trans G2).transQ G3 (fun o k ho q => by
      unfold P2 at q ⊢
      rw [oeq o ho] at q
      exact q)
    exact ⟨M3, ownH own (mZ M1), rfl, G3', K3, oeq, Or.inr ⟨by rw [← r7]; exact e7, by omega, by omega, mZ M1, r3⟩⟩
  · rw [e7]
    have hv1 := K1.2.2.2.2.2.1
    have c1 : mC M1 hh = 1 := (K1.sr e7).2.1.1.1
    simp only [SW.all K1.1, e7, MR, ckk_T, deR_s, deQ_s, deQ_n, bkV_s, bkI_s, bkJ_s, bkQ_s, bkQ_n, ckb0, ckb1, ckb2, ckb3, eq_self, Nat.reduceEqDiff, Nat.reduceLeDiff, Nat.reduceLT, reduceIte, true_or, or_true, not_false_eq_true, not_true_eq_false, and_self, and_true, true_and, LIT, Int32.reduceLT, Int32.reduceLE, Int32.reduceToNatClampNeg]
    rw [p_writ_s (by omega) K1.2.1 hv1.1 hv1.2.1 ks2 (by decide) (by rw [hv1.2.2.1 2 (by decide)]; exact hw)]
    simp only [c1, MR, ckk_T, deR_s, deQ_s, deQ_n, bkV_s, bkI_s, bkJ_s, bkQ_s, bkQ_n, ckb0, ckb1, ckb2, ckb3, eq_self, Nat.reduceEqDiff, Nat.reduceLeDiff, Nat.reduceLT, reduceIte, true_or, or_true, not_false_eq_true, not_true_eq_false, and_self, and_true, true_and, LIT, Int32.reduceLT, Int32.reduceLE, Int32.reduceToNatClampNeg]
    obtain ⟨M3, e3, G3, K3, z3, s3, r3⟩ := hunt_anew (by omega : 4 ≤ d) K1 e7 hw i1 s hV2
    rw [e3]
    exact ⟨M3, own, rfl, G1.trans G3, K3, fun _ _ => rfl, Or.inl ⟨by omega, by omega, by rw [r3, ← r7, e7]⟩⟩
