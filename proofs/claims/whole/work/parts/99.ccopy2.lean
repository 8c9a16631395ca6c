/-! a whole land is copied -/
theorem FrG.ai {P : Nat → Nat → Prop} {M M' : ej_Mem} (f : FrG P M M') {o k : Nat} (ho : o < mZ M) (hp : ¬ P o k) : aI M' o k = aI M o k := (f.2.2 o ho k hp).2.2.2.1
theorem FrG.ii {P : Nat → Nat → Prop} {M M' : ej_Mem} (f : FrG P M M') {o k : Nat} (ho : o < mZ M) (hp : ¬ P o k) : mI M' o k = mI M o k := (f.2.2 o ho k hp).1
theorem FrG.ri {P : Nat → Nat → Prop} {M M' : ej_Mem} (f : FrG P M M') {o k : Nat} (ho : o < mZ M) (hp : ¬ P o k) : mR M' o k = mR M o k := (f.2.2 o ho k hp).2.2.1
theorem FrG.pi {P : Nat → Nat → Prop} {M M' : ej_Mem} (f : FrG P M M') {o k : Nat} (ho : o < mZ M) (hp : ¬ P o k) : aR M' o k = aR M o k := (f.2.2 o ho k hp).2.2.2.2
def PA (d o k : Nat) : Prop := (d + 1 ≤ o ∧ o ≤ d + 10 ∧ (o = d + 6 → k = 0)) ∨ (o = d ∧ (k = 4 ∨ (8 ≤ k ∧ k ≤ 10)))
/-- what is copied -/
def CF (M M' : ej_Mem) (d s : Nat) : Prop := (∀ k, k < 4 → aI M' (d + 2) k = aI M (s + 2) k) ∧ (∀ k, k < 40 → aI M' (d + 3) k = aI M (s + 3) k ∧ aI M' (d + 4) k = aI M (s + 4) k) ∧ (∀ k, k < 24 → aI M' (d + 5) k = aI M (s + 5) k) ∧ (∀ k, k < 72 → aR M' (d + 1) k = aR M (s + 1) k) ∧
  (mI M' d 4 = mI M s 4 ∧ mI M' d 8 = mI M s 8 ∧ mI M' d 9 = mI M s 9 ∧ mI M' d 10 = mI M s 10) ∧ mI M' (d + 6) 0 = mI M (s + 6) 0 ∧ (∀ k, k < 30 → aI M' (d + 7) k = aI M (s + 7) k ∧ aI M' (d + 8) k = aI M (s + 8) k ∧ aI M' (d + 9) k = aI M (s + 9) k) ∧ ∀ k, k < 720 → aI M' (d + 10) k = aI M (s + 10) k
theorem copy_rows {D : Nat} (hD : 1 ≤ D) {M : ej_Mem} {d s : Nat} (hd : LA M d) (hs : LA M s) (hw : WS M s) (ne : d + 10 < s ∨ s + 10 < d) (hdz : d + 10 < mZ M) (hsz : s + 10 < mZ M) : ∃ M', rn jm_Land_copyFrom (cal D) 0 [some (.ref d), some (.ref s), none] [] M = rn jm_Land_copyFrom (cal D) 141 [some (.ref d), some (.ref s), some (.int (nI 72))] [] M' ∧ FrG (PA d) M M' ∧ CF M M' d s ∧ mZ M' = mZ M ∧ mS M' = mS M ∧ mR M' = mR M ∧ mC M' = mC M ∧ mN M' = mN M := by
  have hd0 := hd
  have hs0 := hs
  obtain ⟨⟨d0, dr0, dr1, dr2, dr3, dr5, dr6⟩, ⟨dc1, dc2, dc3, dc4, dc5, dc6⟩, ⟨dn1, dn2, dn3, dn4, dn5⟩, _⟩ := hd
  obtain ⟨⟨s0, sr0, sr1, sr2, sr3, sr5, sr6⟩, ⟨sc1, sc2, sc3, sc4, sc5, sc6⟩, ⟨sn1, sn2, sn3, sn4, sn5⟩, _⟩ := hs
  rw [eq_Land_copyFrom_0]
  simp only [d0, s0, dr1, sr1, dc2, sc2, dn2, sn2, ofN, nI_clamp (show 4 < 2147483648 by decide), tn0, ct8, n0lt, nI_pos (show 4 < 2147483648 by decide), MR, ckk_T, deR_s, deQ_s, deQ_n, bkV_s, bkI_s, bkJ_s, bkQ_s, bkQ_n, ckb0, ckb1, ckb2, ckb3, eq_self, Nat.reduceEqDiff, Nat.reduceLeDiff, Nat.reduceLT, reduceIte, true_or, or_true, not_false_eq_true, not_true_eq_false, and_self, and_true, true_and, LIT, Int32.reduceLT, Int32.reduceLE, Int32.reduceToNatClampNeg]
  generalize hM1 : cpyM M (s + 2) 0 (d + 2) 0 4 = M1
  have g1 : Fr (fun o k => o = d + 2) M M1 := by rw [← hM1]; exact Fr.cpy (P := fun o k => o = d + 2) M _ _ (fun _ => rfl)
  have f1 : Fr (fun o k => d + 2 ≤ o ∧ o ≤ d + 5) M M1 := (g1.mono (fun o k q => ⟨by omega, by omega⟩))
  have v1 : ∀ k, k < 4 → aI M1 (d + 2) k = aI M (s + 2) k := fun k hk => by rw [← hM1, cp_a, if_pos hk]
  rw [eq_Land_copyFrom_18]
  simp only [f1.c, f1.r, f1.n, d0, s0, dr2, sr2, dc3, sc3, dn3, sn3, ofN, nI_clamp (show 40 < 2147483648 by decide), tn0, ct8, n0lt, nI_pos (show 40 < 2147483648 by decide), MR, ckk_T, deR_s, deQ_s, deQ_n, bkV_s, bkI_s, bkJ_s, bkQ_s, bkQ_n, ckb0, ckb1, ckb2, ckb3, eq_self, Nat.reduceEqDiff, Nat.reduceLeDiff, Nat.reduceLT, reduceIte, true_or, or_true, not_false_eq_true, not_true_eq_false, and_self, and_true, true_and, LIT, Int32.reduceLT, Int32.reduceLE, Int32.reduceToNatClampNeg]
  generalize hM2 : cpyM M1 (s + 3) 0 (d + 3) 0 40 = M2
  have g2 : Fr (fun o k => o = d + 3) M1 M2 := by rw [← hM2]; exact Fr.cpy (P := fun o k => o = d + 3) M1 _ _ (fun _ => rfl)
  have f2 : Fr (fun o k => d + 2 ≤ o ∧ o ≤ d + 5) M M2 := f1.trans (g2.mono (fun o k q => ⟨by omega, by omega⟩))
  have v2 : ∀ k, k < 40 → aI M2 (d + 3) k = aI M (s + 3) k := fun k hk => by rw [← hM2, cp_a, if_pos hk]; exact f1.a (fun q => by omega)
  rw [eq_Land_copyFrom_36]
  simp only [f2.c, f2.r, f2.n, d0, s0, dr3, sr3, dc4, sc4, dn4, sn4, ofN, nI_clamp (show 40 < 2147483648 by decide), tn0, ct8, n0lt, nI_pos (show 40 < 2147483648 by decide), MR, ckk_T, deR_s, deQ_s, deQ_n, bkV_s, bkI_s, bkJ_s, bkQ_s, bkQ_n, ckb0, ckb1, ckb2, ckb3, eq_self, Nat.reduceEqDiff, Nat.reduceLeDiff, Nat.reduceLT, reduceIte, true_or, or_true, not_false_eq_true, not_true_eq_false, and_self, and_true, true_and, LIT, Int32.reduceLT, Int32.reduceLE, Int32.reduceToNatClampNeg]
  generalize hM3 : cpyM M2 (s + 4) 0 (d + 4) 0 40 = M3
  have g3 : Fr (fun o k => o = d + 4) M2 M3 := by rw [← hM3]; exact Fr.cpy (P := fun o k => o = d + 4) M2 _ _ (fun _ => rfl)
  have f3 : Fr (fun o k => d + 2 ≤ o ∧ o ≤ d + 5) M M3 := f2.trans (g3.mono (fun o k q => ⟨by omega, by omega⟩))
  have v3 : ∀ k, k < 40 → aI M3 (d + 4) k = aI M (s + 4) k := fun k hk => by rw [← hM3, cp_a, if_pos hk]; exact f2.a (fun q => by omega)
  rw [eq_Land_copyFrom_54]
  simp only [f3.c, f3.r, f3.n, d0, s0, dr5, sr5, dc5, sc5, dn5, sn5, ofN, nI_clamp (show 24 < 2147483648 by decide), tn0, ct8, n0lt, nI_pos (show 24 < 2147483648 by decide), MR, ckk_T, deR_s, deQ_s, deQ_n, bkV_s, bkI_s, bkJ_s, bkQ_s, bkQ_n, ckb0, ckb1, ckb2, ckb3, eq_self, Nat.reduceEqDiff, Nat.reduceLeDiff, Nat.reduceLT, reduceIte, true_or, or_true, not_false_eq_true, not_true_eq_false, and_self, and_true, true_and, LIT, Int32.reduceLT, Int32.reduceLE, Int32.reduceToNatClampNeg]
  generalize hM4 : cpyM M3 (s + 5) 0 (d + 5) 0 24 = M4
  have g4 : Fr (fun o k => o = d + 5) M3 M4 := by rw [← hM4]; exact Fr.cpy (P := fun o k => o = d + 5) M3 _ _ (fun _ => rfl)
  have f4 : Fr (fun o k => d + 2 ≤ o ∧ o ≤ d + 5) M M4 := f3.trans (g4.mono (fun o k q => ⟨by omega, by omega⟩))
  have v4 : ∀ k, k < 24 → aI M4 (d + 5) k = aI M (s + 5) k := fun k hk => by rw [← hM4, cp_a, if_pos hk]; exact f3.a (fun q => by omega)
  rw [eq_Land_copyFrom_72]
  obtain ⟨M5, e5, f5, _, v5⟩ := writs_loop (cal D) (show s + 1 ≠ d + 1 by omega) 72 0 M4 (by omega) (f4.la hd0) (f4.la hs0) (fun j hj w q => by
    rw [f4.ar] at q
    rw [f4.z, f4.c]
    exact hw j hj w q)
  rw [show (some (Value.int 0)) = some (Value.int (nI 0)) from rfl, e5]
  have q4 : mI M5 s 4 = mI M s 4 := by rw [f5.2.2.1, f4.i (by omega)]
  have g6 : Fr (fun o k => o = d ∧ k = 4) M5 (setI M5 d 4 (mI M5 s 4)) := Fr.setI (P := fun o k => o = d ∧ k = 4) M5 _ ⟨rfl, rfl⟩
  have v6 : mI (setI M5 d 4 (mI M5 s 4)) d 4 = mI M s 4 := by rw [gI_s, q4]
  have A5 : ∀ {l}, LA M l → LA M5 l := fun h => f5.la (f4.la h)
  generalize setI M5 d 4 (mI M5 s 4) = M6 at *
  have A6 : ∀ {l}, LA M l → LA M6 l := fun h => g6.la (A5 h)
  have z5 : mZ M5 = mZ M := by rw [f5.2.2.2.2.2.2.1, f4.z]
  rw [eq_Land_copyFrom_106]
  obtain ⟨M7, e7, f7, v70, v71, v72⟩ := p_rollsCopy hD (A6 hd0) (A6 hs0) ne
  simp only [(A6 hd0).1, (A6 hs0).1, (A6 hd0).2.1, (A6 hs0).2.1, MR, ckk_T, deR_s, deQ_s, deQ_n, bkV_s, bkI_s, bkJ_s, bkQ_s, bkQ_n, ckb0, ckb1, ckb2, ckb3, eq_self, Nat.reduceEqDiff, Nat.reduceLeDiff, Nat.reduceLT, reduceIte, true_or, or_true, not_false_eq_true, not_true_eq_false, and_self, and_true, true_and, LIT, Int32.reduceLT, Int32.reduceLE, Int32.reduceToNatClampNeg]
  rw [e7]
  have A7 : ∀ {l}, LA M l → LA M7 l := fun h => f7.la (A6 h)
  simp only [(A7 hd0).1, (A7 hs0).1, MR, ckk_T, deR_s, deQ_s, deQ_n, bkV_s, bkI_s, bkJ_s, bkQ_s, bkQ_n, ckb0, ckb1, ckb2, ckb3, eq_self, Nat.reduceEqDiff, Nat.reduceLeDiff, Nat.reduceLT, reduceIte, true_or, or_true, not_false_eq_true, not_true_eq_false, and_self, and_true, true_and, LIT, Int32.reduceLT, Int32.reduceLE, Int32.reduceToNatClampNeg]
  generalize hM8 : setI M7 d 8 (mI M7 s 8) = M8
  have g8 : Fr (fun o k => o = d ∧ k = 8) M7 M8 := by rw [← hM8]; exact Fr.setI (P := fun o k => o = d ∧ k = 8) M7 _ ⟨rfl, rfl⟩
  have v8 : mI M8 d 8 = mI M7 s 8 := by rw [← hM8, gI_s]
  rw [eq_Land_copyFrom_125]
  simp only [g8.c, (A7 hd0).1, (A7 hs0).1, MR, ckk_T, deR_s, deQ_s, deQ_n, bkV_s, bkI_s, bkJ_s, bkQ_s, bkQ_n, ckb0, ckb1, ckb2, ckb3, eq_self, Nat.reduceEqDiff, Nat.reduceLeDiff, Nat.reduceLT, reduceIte, true_or, or_true, not_false_eq_true, not_true_eq_false, and_self, and_true, true_and, LIT, Int32.reduceLT, Int32.reduceLE, Int32.reduceToNatClampNeg]
  generalize hM9 : setI M8 d 9 (mI M8 s 9) = M9
  have g9 : Fr (fun o k => o = d ∧ k = 9) M8 M9 := by rw [← hM9]; exact Fr.setI (P := fun o k => o = d ∧ k = 9) M8 _ ⟨rfl, rfl⟩
  have v9 : mI M9 d 9 = mI M8 s 9 := by rw [← hM9, gI_s]
  rw [eq_Land_copyFrom_133]
  simp only [g9.c, g8.c, (A7 hd0).1, (A7 hs0).1, MR, ckk_T, deR_s, deQ_s, deQ_n, bkV_s, bkI_s, bkJ_s, bkQ_s, bkQ_n, ckb0, ckb1, ckb2, ckb3, eq_self, Nat.reduceEqDiff, Nat.reduceLeDiff, Nat.reduceLT, reduceIte, true_or, or_true, not_false_eq_true, not_true_eq_false, and_self, and_true, true_and, LIT, Int32.reduceLT, Int32.reduceLE, Int32.reduceToNatClampNeg]
  generalize hMa : setI M9 d 10 (mI M9 s 10) = Ma
  have ga : Fr (fun o k => o = d ∧ k = 10) M9 Ma := by rw [← hMa]; exact Fr.setI (P := fun o k => o = d ∧ k = 10) M9 _ ⟨rfl, rfl⟩
  have va : mI Ma d 10 = mI M9 s 10 := by rw [← hMa, gI_s]
  have G : Fr (fun o k => Pr d o k ∨ (o = d ∧ (k = 4 ∨ (8 ≤ k ∧ k ≤ 10)))) M5 Ma := ((((g6.mono (fun o k q => Or.inr ⟨by omega, by omega⟩)).trans (f7.mono (fun o k q => Or.inl q))).trans (g8.mono (fun o k q => Or.inr ⟨by omega, by omega⟩))).trans (g9.mono (fun o k q => Or.inr ⟨by omega, by omega⟩))).trans (ga.mono (fun o k q => Or.inr ⟨by omega, by omega⟩))
  have cc : mC Ma = mC M := by rw [G.c, f5.1, f4.c]
  have cn : mN Ma = mN M := by rw [G.n, f5.2.1, f4.n]
  have cr : mR Ma = mR M := by rw [G.r, f5.2.2.2.2.1, f4.r]
  have iM : ∀ k, k ≠ 4 → mI M6 s k = mI M s k := fun k _ => by rw [g6.i (by omega), f5.2.2.1, f4.i (by omega)]
  refine ⟨Ma, rfl, ?_, ⟨fun k hk => ?_, fun k hk => ⟨?_, ?_⟩, fun k hk => ?_, fun k hk => ?_, ⟨?_, ?_, ?_, ?_⟩, ?_, fun k hk => ⟨?_, ?_, ?_⟩, fun k hk => ?_⟩, by rw [G.z, z5], by rw [G.s, f5.2.2.2.2.2.2.2.1, f4.s], cr, cc, cn⟩
  · exact ((f4.mono (Q := PA d) (fun o k q => Or.inl ⟨by omega, by omega, by omega⟩)).g.trans (f5.g.mono (Q := PA d) (fun o k _ q => Or.inl ⟨by omega, by omega, by omega⟩))).trans (G.mono (Q := PA d) (fun o k q => by unfold Pr at q; unfold PA; omega)).g
  · rw [G.a (by unfold Pr; omega), f5.2.2.2.2.2.1, g4.a (by omega), g3.a (by omega), g2.a (by omega)]; exact v1 k hk
  · rw [G.a (by unfold Pr; omega), f5.2.2.2.2.2.1, g4.a (by omega), g3.a (by omega)]; exact v2 k hk
  · rw [G.a (by unfold Pr; omega), f5.2.2.2.2.2.1, g4.a (by omega)]; exact v3 k hk
  · rw [G.a (by unfold Pr; omega), f5.2.2.2.2.2.1]; exact v4 k hk
  · rw [G.ar, v5 k (by omega) hk, f4.ar]
  · rw [ga.i (by omega), g9.i (by omega), g8.i (by omega), f7.i (by unfold Pr; omega)]; exact v6
  · rw [ga.i (by omega), g9.i (by omega), v8, f7.i (by unfold Pr; omega)]; exact iM 8 (by decide)
  · rw [ga.i (by omega), v9, g8.i (by omega), f7.i (by unfold Pr; omega)]; exact iM 9 (by decide)
  · rw [va, g9.i (by omega), g8.i (by omega), f7.i (by unfold Pr; omega)]; exact iM 10 (by decide)
  · rw [ga.i (by omega), g9.i (by omega), g8.i (by omega), v70, g6.i (by omega), f5.2.2.1, f4.i (by omega)]
  · rw [ga.a (by omega), g9.a (by omega), g8.a (by omega), (v71 k hk).1, g6.a (by omega), f5.2.2.2.2.2.1, f4.a (by omega)]
  · rw [ga.a (by omega), g9.a (by omega), g8.a (by omega), (v71 k hk).2.1, g6.a (by omega), f5.2.2.2.2.2.1, f4.a (by omega)]
  · rw [ga.a (by omega), g9.a (by omega), g8.a (by omega), (v71 k hk).2.2, g6.a (by omega), f5.2.2.2.2.2.1, f4.a (by omega)]
  · rw [ga.a (by omega), g9.a (by omega), g8.a (by omega), v72 k hk, g6.a (by omega), f5.2.2.2.2.2.1, f4.a (by omega)]
