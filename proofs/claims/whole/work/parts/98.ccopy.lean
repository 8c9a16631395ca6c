/-! a land of the class is copied -/
theorem cp_a (M : ej_Mem) (x y n k : Nat) : aI (cpyM M x 0 y 0 n) y k = if k < n then aI M x k else aI M y k := by
  show (if y = y then va_cpy (aI M x) (aI M y) 0 0 n else aI M y) k = _
  rw [if_pos rfl]
  show (if 0 ≤ k ∧ k < 0 + n then aI M x (0 + (k - 0)) else aI M y k) = _
  simp only [Nat.zero_le, true_and, Nat.zero_add, Nat.sub_zero]
theorem Fr.cpy {P : Nat → Nat → Prop} (M : ej_Mem) (x : Nat) {y : Nat} (n : Nat) (hp : ∀ k, P y k) : Fr P M (cpyM M x 0 y 0 n) := by
  refine ⟨rfl, rfl, rfl, rfl, rfl, rfl, rfl, fun _ _ _ => rfl, ?_⟩
  intro o' k' h
  show (if o' = y then va_cpy (aI M x) (aI M y) 0 0 n else aI M o') k' = aI M o' k'
  by_cases e : o' = y
  · subst e; exact absurd (hp k') h
  · rw [if_neg e]
theorem ct8 : ej_cats [] ≤ 8 := by decide
theorem tn0 : Int32.toNatClampNeg 0 = 0 := by decide
theorem n0lt : ¬ (0 : Int32) < 0 := by decide
theorem ofN (n : Nat) : Int32.ofNat n = nI n := rfl
def Pr (d o k : Nat) : Prop := (o = d + 6 ∧ k = 0) ∨ (d + 7 ≤ o ∧ o ≤ d + 10)
theorem p_rollsCopy {D : Nat} (hD : 1 ≤ D) {M : ej_Mem} {d s : Nat} (hd : LA M d) (hs : LA M s) (ne : d + 10 < s ∨ s + 10 < d) : ∃ M', cal D jm_Rolls_copyFrom [.ref (d + 6), .ref (s + 6)] M = some (none, M') ∧ Fr (Pr d) M M' ∧ mI M' (d + 6) 0 = mI M (s + 6) 0 ∧ (∀ k, k < 30 → aI M' (d + 7) k = aI M (s + 7) k ∧ aI M' (d + 8) k = aI M (s + 8) k ∧ aI M' (d + 9) k = aI M (s + 9) k) ∧ ∀ k, k < 720 → aI M' (d + 10) k = aI M (s + 10) k := by
  obtain ⟨D', rfl⟩ : ∃ d, D = d + 1 := ⟨D - 1, by omega⟩
  obtain ⟨_, ⟨_, _, _, _, _, d6⟩, _, ⟨r1, r2, r3, r4⟩, ⟨c1, c2, c3, c4⟩, n1, n2, n3, n4⟩ := hd
  obtain ⟨_, ⟨_, _, _, _, _, s6⟩, _, ⟨t1, t2, t3, t4⟩, ⟨e1, e2, e3, e4⟩, m1, m2, m3, m4⟩ := hs
  rw [ca_Rolls_copyFrom, eq_Rolls_copyFrom_0]
  simp only [d6, s6, MR, ckk_T, deR_s, deQ_s, deQ_n, bkV_s, bkI_s, bkJ_s, bkQ_s, bkQ_n, ckb0, ckb1, ckb2, ckb3, eq_self, Nat.reduceEqDiff, Nat.reduceLeDiff, Nat.reduceLT, reduceIte, true_or, or_true, not_false_eq_true, not_true_eq_false, and_self, and_true, true_and, LIT, Int32.reduceLT, Int32.reduceLE, Int32.reduceToNatClampNeg]
  generalize hM1 : setI M (d + 6) 0 (mI M (s + 6) 0) = M1
  have f1 : Fr (fun o k => o = d + 6 ∧ k = 0) M M1 := by rw [← hM1]; exact Fr.setI (P := fun o k => o = d + 6 ∧ k = 0) M _ ⟨rfl, rfl⟩
  have v1 : mI M1 (d + 6) 0 = mI M (s + 6) 0 := by rw [← hM1, gI_s]
  have Q : ∀ j k, 7 ≤ j → j ≤ 10 → aI M1 (s + j) k = aI M (s + j) k := fun j k h1 h2 => f1.a (fun q => by omega)
  rw [eq_Rolls_copyFrom_8]
  simp only [f1.c, f1.r, f1.n, d6, s6, r1, t1, c1, e1, n1, m1, ofN, nI_clamp (show 30 < 2147483648 by decide), tn0, ct8, n0lt, nI_pos (show 30 < 2147483648 by decide), MR, ckk_T, deR_s, deQ_s, deQ_n, bkV_s, bkI_s, bkJ_s, bkQ_s, bkQ_n, ckb0, ckb1, ckb2, ckb3, eq_self, Nat.reduceEqDiff, Nat.reduceLeDiff, Nat.reduceLT, reduceIte, true_or, or_true, not_false_eq_true, not_true_eq_false, and_self, and_true, true_and, LIT, Int32.reduceLT, Int32.reduceLE, Int32.reduceToNatClampNeg]
  generalize hM2 : cpyM M1 (s + 7) 0 (d + 7) 0 30 = M2
  have g2 : Fr (fun o k => o = d + 7) M1 M2 := by rw [← hM2]; exact Fr.cpy (P := fun o k => o = d + 7) M1 _ _ (fun _ => rfl)
  have f2 : Fr (Pr d) M M2 := (f1.mono (fun o k q => Or.inl q)).trans (g2.mono (fun o k q => Or.inr ⟨by omega, by omega⟩))
  have v2 : ∀ k, k < 30 → aI M2 (d + 7) k = aI M (s + 7) k := fun k hk => by rw [← hM2, cp_a, if_pos hk]; exact Q 7 k (by omega) (by omega)
  rw [eq_Rolls_copyFrom_26]
  simp only [f2.c, f2.r, f2.n, d6, s6, r2, t2, c2, e2, n2, m2, ofN, nI_clamp (show 30 < 2147483648 by decide), tn0, ct8, n0lt, nI_pos (show 30 < 2147483648 by decide), MR, ckk_T, deR_s, deQ_s, deQ_n, bkV_s, bkI_s, bkJ_s, bkQ_s, bkQ_n, ckb0, ckb1, ckb2, ckb3, eq_self, Nat.reduceEqDiff, Nat.reduceLeDiff, Nat.reduceLT, reduceIte, true_or, or_true, not_false_eq_true, not_true_eq_false, and_self, and_true, true_and, LIT, Int32.reduceLT, Int32.reduceLE, Int32.reduceToNatClampNeg]
  generalize hM3 : cpyM M2 (s + 8) 0 (d + 8) 0 30 = M3
  have g3 : Fr (fun o k => o = d + 8) M2 M3 := by rw [← hM3]; exact Fr.cpy (P := fun o k => o = d + 8) M2 _ _ (fun _ => rfl)
  have f3 : Fr (Pr d) M M3 := (f2).trans (g3.mono (fun o k q => Or.inr ⟨by omega, by omega⟩))
  have v3 : ∀ k, k < 30 → aI M3 (d + 8) k = aI M (s + 8) k := fun k hk => by rw [← hM3, cp_a, if_pos hk]; exact f2.a (fun q => by unfold Pr at q; omega)
  rw [eq_Rolls_copyFrom_44]
  simp only [f3.c, f3.r, f3.n, d6, s6, r3, t3, c3, e3, n3, m3, ofN, nI_clamp (show 30 < 2147483648 by decide), tn0, ct8, n0lt, nI_pos (show 30 < 2147483648 by decide), MR, ckk_T, deR_s, deQ_s, deQ_n, bkV_s, bkI_s, bkJ_s, bkQ_s, bkQ_n, ckb0, ckb1, ckb2, ckb3, eq_self, Nat.reduceEqDiff, Nat.reduceLeDiff, Nat.reduceLT, reduceIte, true_or, or_true, not_false_eq_true, not_true_eq_false, and_self, and_true, true_and, LIT, Int32.reduceLT, Int32.reduceLE, Int32.reduceToNatClampNeg]
  generalize hM4 : cpyM M3 (s + 9) 0 (d + 9) 0 30 = M4
  have g4 : Fr (fun o k => o = d + 9) M3 M4 := by rw [← hM4]; exact Fr.cpy (P := fun o k => o = d + 9) M3 _ _ (fun _ => rfl)
  have f4 : Fr (Pr d) M M4 := (f3).trans (g4.mono (fun o k q => Or.inr ⟨by omega, by omega⟩))
  have v4 : ∀ k, k < 30 → aI M4 (d + 9) k = aI M (s + 9) k := fun k hk => by rw [← hM4, cp_a, if_pos hk]; exact f3.a (fun q => by unfold Pr at q; omega)
  rw [eq_Rolls_copyFrom_62]
  simp only [f4.c, f4.r, f4.n, d6, s6, r4, t4, c4, e4, n4, m4, ofN, nI_clamp (show 720 < 2147483648 by decide), tn0, ct8, n0lt, nI_pos (show 720 < 2147483648 by decide), MR, ckk_T, deR_s, deQ_s, deQ_n, bkV_s, bkI_s, bkJ_s, bkQ_s, bkQ_n, ckb0, ckb1, ckb2, ckb3, eq_self, Nat.reduceEqDiff, Nat.reduceLeDiff, Nat.reduceLT, reduceIte, true_or, or_true, not_false_eq_true, not_true_eq_false, and_self, and_true, true_and, LIT, Int32.reduceLT, Int32.reduceLE, Int32.reduceToNatClampNeg]
  generalize hM5 : cpyM M4 (s + 10) 0 (d + 10) 0 720 = M5
  have g5 : Fr (fun o k => o = d + 10) M4 M5 := by rw [← hM5]; exact Fr.cpy (P := fun o k => o = d + 10) M4 _ _ (fun _ => rfl)
  have f5 : Fr (Pr d) M M5 := (f4).trans (g5.mono (fun o k q => Or.inr ⟨by omega, by omega⟩))
  have v5 : ∀ k, k < 720 → aI M5 (d + 10) k = aI M (s + 10) k := fun k hk => by rw [← hM5, cp_a, if_pos hk]; exact f4.a (fun q => by unfold Pr at q; omega)
  rw [eq_Rolls_copyFrom_80]
  refine ⟨M5, rfl, f5, ?_, fun k hk => ⟨?_, ?_, ?_⟩, fun k hk => v5 k hk⟩
  · rw [g5.i (by omega), g4.i (by omega), g3.i (by omega), g2.i (by omega)]; exact v1
  · rw [g5.a (by omega), g4.a (by omega), g3.a (by omega)]; exact v2 k hk
  · rw [g5.a (by omega), g4.a (by omega)]; exact v3 k hk
  · rw [g5.a (by omega)]; exact v4 k hk
theorem p_huntCopy {D : Nat} (hD : 1 ≤ D) {M : ej_Mem} {d s : Nat} {b b0 : BS} (hd : HR M d 4000 8192 19 b0) (hs : HR M s 4000 8192 19 b) (ne : d + 3 < s ∨ s + 3 < d) : ∃ M', cal D jm_Hunt_copyFrom [.ref d, .ref s] M = some (none, M') ∧ Fr (Ph d) M M' ∧ HR M' d 4000 8192 19 b := by
  obtain ⟨D', rfl⟩ : ∃ d, D = d + 1 := ⟨D - 1, by omega⟩
  obtain ⟨⟨⟨d0, i0, i1, r2, r3, r4⟩, ⟨c1, c2, c3⟩, n1, n2, n3⟩, _⟩ := hd
  obtain ⟨⟨⟨s0, j0, j1, t2, t3, t4⟩, ⟨e1, e2, e3⟩, m1, m2, m3⟩, ⟨w5, w6, w7⟩, hl, hnd, ha, hl2, ha2, hsl1, hT⟩ := hs
  rw [ca_Hunt_copyFrom, eq_Hunt_copyFrom_0]
  simp only [d0, s0, MR, ckk_T, deR_s, deQ_s, deQ_n, bkV_s, bkI_s, bkJ_s, bkQ_s, bkQ_n, ckb0, ckb1, ckb2, ckb3, eq_self, Nat.reduceEqDiff, Nat.reduceLeDiff, Nat.reduceLT, reduceIte, true_or, or_true, not_false_eq_true, not_true_eq_false, and_self, and_true, true_and, LIT, Int32.reduceLT, Int32.reduceLE, Int32.reduceToNatClampNeg]
  rw [eq_Hunt_copyFrom_8]
  simp only [d0, s0, MR, ckk_T, deR_s, deQ_s, deQ_n, bkV_s, bkI_s, bkJ_s, bkQ_s, bkQ_n, ckb0, ckb1, ckb2, ckb3, eq_self, Nat.reduceEqDiff, Nat.reduceLeDiff, Nat.reduceLT, reduceIte, true_or, or_true, not_false_eq_true, not_true_eq_false, and_self, and_true, true_and, LIT, Int32.reduceLT, Int32.reduceLE, Int32.reduceToNatClampNeg]
  rw [eq_Hunt_copyFrom_16]
  simp only [d0, s0, MR, ckk_T, deR_s, deQ_s, deQ_n, bkV_s, bkI_s, bkJ_s, bkQ_s, bkQ_n, ckb0, ckb1, ckb2, ckb3, eq_self, Nat.reduceEqDiff, Nat.reduceLeDiff, Nat.reduceLT, reduceIte, true_or, or_true, not_false_eq_true, not_true_eq_false, and_self, and_true, true_and, LIT, Int32.reduceLT, Int32.reduceLE, Int32.reduceToNatClampNeg]
  have nds : s ≠ d := by omega
  rw [if_neg nds, if_neg nds, w5, w6, w7]
  generalize hM1 : setI (setI (setI M d 5 (nI b.1.length)) d 6 (nI b.2.2.1)) d 7 (nI b.2.2.2) = M1
  have f1 : Fr (fun o k => o = d ∧ 5 ≤ k) M M1 := by
    rw [← hM1]
    exact ((Fr.setI (P := fun o k => o = d ∧ 5 ≤ k) M _ ⟨rfl, by omega⟩).trans (Fr.setI (P := fun o k => o = d ∧ 5 ≤ k) _ _ ⟨rfl, by omega⟩)).trans (Fr.setI (P := fun o k => o = d ∧ 5 ≤ k) _ _ ⟨rfl, by omega⟩)
  have x5 : mI M1 d 5 = nI b.1.length := by rw [← hM1, gI_n (by omega), gI_n (by omega), gI_s]
  have x6 : mI M1 d 6 = nI b.2.2.1 := by rw [← hM1, gI_n (by omega), gI_s]
  have x7 : mI M1 d 7 = nI b.2.2.2 := by rw [← hM1, gI_s]
  have ll : b.1.length < 2147483648 := by omega
  rw [eq_Hunt_copyFrom_24]
  simp only [f1.c, f1.r, f1.n, d0, s0, r2, t2, c1, e1, n1, m1, x5, nI_clamp ll, tn0, ct8, n0lt, nI_pos ll, Nat.zero_add, hl, MR, ckk_T, deR_s, deQ_s, deQ_n, bkV_s, bkI_s, bkJ_s, bkQ_s, bkQ_n, ckb0, ckb1, ckb2, ckb3, eq_self, Nat.reduceEqDiff, Nat.reduceLeDiff, Nat.reduceLT, reduceIte, true_or, or_true, not_false_eq_true, not_true_eq_false, and_self, and_true, true_and, LIT, Int32.reduceLT, Int32.reduceLE, Int32.reduceToNatClampNeg]
  generalize hM2 : cpyM M1 (s + 1) 0 (d + 1) 0 b.1.length = M2
  have g2 : Fr (fun o k => o = d + 1) M1 M2 := by rw [← hM2]; exact Fr.cpy (P := fun o k => o = d + 1) M1 _ _ (fun _ => rfl)
  have v2 : ∀ k, k < b.1.length → aI M2 (d + 1) k = b.1.getD k 0 := fun k hk => by rw [← hM2, cp_a, if_pos hk, f1.a (by omega)]; exact ha k hk
  have f2 : Fr (Ph d) M M2 := (f1.mono (fun o k q => ⟨by omega, by omega⟩)).trans (g2.mono (fun o k q => ⟨by omega, by omega⟩))
  rw [eq_Hunt_copyFrom_41]
  simp only [f2.c, f2.r, f2.n, d0, s0, r3, t3, c2, e2, n2, m2, (g2.i (by omega) : mI M2 d 5 = _), x5, nI_clamp ll, tn0, ct8, n0lt, nI_pos ll, Nat.zero_add, hl, MR, ckk_T, deR_s, deQ_s, deQ_n, bkV_s, bkI_s, bkJ_s, bkQ_s, bkQ_n, ckb0, ckb1, ckb2, ckb3, eq_self, Nat.reduceEqDiff, Nat.reduceLeDiff, Nat.reduceLT, reduceIte, true_or, or_true, not_false_eq_true, not_true_eq_false, and_self, and_true, true_and, LIT, Int32.reduceLT, Int32.reduceLE, Int32.reduceToNatClampNeg]
  generalize hM3 : cpyM M2 (s + 2) 0 (d + 2) 0 b.1.length = M3
  have g3 : Fr (fun o k => o = d + 2) M2 M3 := by rw [← hM3]; exact Fr.cpy (P := fun o k => o = d + 2) M2 _ _ (fun _ => rfl)
  have v3 : ∀ k, k < b.1.length → aI M3 (d + 2) k = nI (64 * (b.2.1.getD k (0, 0)).1 + (b.2.1.getD k (0, 0)).2) := fun k hk => by rw [← hM3, cp_a, if_pos hk, f2.a (by unfold Ph; omega)]; exact ha2 k hk
  have f3 : Fr (Ph d) M M3 := f2.trans (g3.mono (fun o k q => ⟨by omega, by omega⟩))
  rw [eq_Hunt_copyFrom_58]
  simp only [f3.c, f3.r, f3.n, d0, s0, r4, t4, c3, e3, n3, m3, ofN, nI_clamp (show 8192 < 2147483648 by decide), tn0, ct8, n0lt, nI_pos (show 8192 < 2147483648 by decide), MR, ckk_T, deR_s, deQ_s, deQ_n, bkV_s, bkI_s, bkJ_s, bkQ_s, bkQ_n, ckb0, ckb1, ckb2, ckb3, eq_self, Nat.reduceEqDiff, Nat.reduceLeDiff, Nat.reduceLT, reduceIte, true_or, or_true, not_false_eq_true, not_true_eq_false, and_self, and_true, true_and, LIT, Int32.reduceLT, Int32.reduceLE, Int32.reduceToNatClampNeg]
  generalize hM4 : cpyM M3 (s + 3) 0 (d + 3) 0 8192 = M4
  have g4 : Fr (fun o k => o = d + 3) M3 M4 := by rw [← hM4]; exact Fr.cpy (P := fun o k => o = d + 3) M3 _ _ (fun _ => rfl)
  have v4 : ∀ k, k < 8192 → aI M4 (d + 3) k = aI M (s + 3) k := fun k hk => by rw [← hM4, cp_a, if_pos hk, f3.a (by unfold Ph; omega)]
  have f4 : Fr (Ph d) M M4 := f3.trans (g4.mono (fun o k q => ⟨by omega, by omega⟩))
  have hq : ∀ q, q < 8192 → hsl M4 d q = hsl M s q := fun q hq => by unfold hsl; rw [v4 q hq]
  rw [eq_Hunt_copyFrom_76]
  have i4 : ∀ k, mI M4 d k = mI M1 d k := fun k => by rw [g4.i (by omega), g3.i (by omega), g2.i (by omega)]
  refine ⟨M4, rfl, f4, ⟨⟨?_, ?_, ?_, ?_, ?_, ?_⟩, ⟨?_, ?_, ?_⟩, ?_, ?_, ?_⟩, ⟨?_, ?_, ?_⟩, hl, hnd, fun k hk => ?_, hl2, fun k hk => ?_, fun q h => ?_, hT.congr (by decide) hq (fun k _ => rfl)⟩
  · rw [f4.c]; exact d0
  · rw [i4, f1.i (by omega)]; exact i0
  · rw [i4, f1.i (by omega)]; exact i1
  · rw [f4.r]; exact r2
  · rw [f4.r]; exact r3
  · rw [f4.r]; exact r4
  · rw [f4.c]; exact c1
  · rw [f4.c]; exact c2
  · rw [f4.c]; exact c3
  · rw [f4.n]; exact n1
  · rw [f4.n]; exact n2
  · rw [f4.n]; exact n3
  · rw [i4]; exact x5
  · rw [i4]; exact x6
  · rw [i4]; exact x7
  · rw [g4.a (by omega), g3.a (by omega)]; exact v2 k hk
  · rw [g4.a (by omega)]; exact v3 k hk
  · rw [v4 q h, hq q h]; exact hsl1 q h
/-- the writs of a land -/
def FrP (y : Nat) (M M' : ej_Mem) : Prop := mC M' = mC M ∧ mN M' = mN M ∧ mI M' = mI M ∧ mL M' = mL M ∧ mR M' = mR M ∧ aI M' = aI M ∧ mZ M' = mZ M ∧ mS M' = mS M ∧ ∀ o, o ≠ y → aR M' o = aR M o
theorem FrP.g {y : Nat} {M M' : ej_Mem} (h : FrP y M M') : FrG (fun o _ => o = y) M M' := by
  obtain ⟨h1, h2, h3, h4, h5, h6, h7, h8, h9⟩ := h
  exact ⟨Nat.le_of_eq h7.symm, fun o _ => ⟨by rw [h1], by rw [h2]⟩, fun o _ k q => ⟨by rw [h3], by rw [h4], by rw [h5], by rw [h6], by rw [h9 o q]⟩⟩
theorem gP_u (M : ej_Mem) (o k : Nat) (v : Option Nat) : aR (setP M o k v) o = va_up (aR M o) k v := by
  show (if o = o then va_up (aR M o) k v else aR M o) = _
  rw [if_pos rfl]
theorem gP_o {M : ej_Mem} {o k o' : Nat} {v : Option Nat} (h : ¬ o' = o) : aR (setP M o k v) o' = aR M o' := by
  show (if o' = o then va_up (aR M o) k v else aR M o') = _
  rw [if_neg h]
/-- what stands in the row of writs is a writ -/
def WS (M : ej_Mem) (l : Nat) : Prop := ∀ j, j < 72 → ∀ w, aR M (l + 1) j = some w → w < mZ M ∧ mC M w = 7
theorem FrP.la {y : Nat} {M M' : ej_Mem} (h : FrP y M M') {l : Nat} (hl : LA M l) : LA M' l := by
  unfold LA; rw [h.1, h.2.1, h.2.2.2.2.1]; exact hl
theorem Fr.la {P : Nat → Nat → Prop} {M M' : ej_Mem} (h : Fr P M M') {l : Nat} (hl : LA M l) : LA M' l := by
  unfold LA; rw [h.c, h.n, h.r]; exact hl
theorem FrP.set {y : Nat} (M : ej_Mem) (k : Nat) (v : Option Nat) : FrP y M (setP M y k v) := ⟨rfl, rfl, rfl, rfl, rfl, rfl, rfl, rfl, fun o ho => gP_o ho⟩
theorem FrP.trans {y : Nat} {M M' M'' : ej_Mem} (h : FrP y M M') (g : FrP y M' M'') : FrP y M M'' := by
  obtain ⟨a1, a2, a3, a4, a5, a6, a7, a8, a9⟩ := h
  obtain ⟨b1, b2, b3, b4, b5, b6, b7, b8, b9⟩ := g
  exact ⟨b1.trans a1, b2.trans a2, b3.trans a3, b4.trans a4, b5.trans a5, b6.trans a6, b7.trans a7, b8.trans a8, fun o ho => (b9 o ho).trans (a9 o ho)⟩
theorem writs_loop (cl : Nat → List Value → ej_Mem → Option ej_R) {d s : Nat} (ne : s + 1 ≠ d + 1) : ∀ (n j : Nat) (M : ej_Mem), j + n = 72 → LA M d → LA M s → WS M s → ∃ M', rn jm_Land_copyFrom cl 74 [some (.ref d), some (.ref s), some (.int (nI j))] [] M = rn jm_Land_copyFrom cl 106 [some (.ref d), some (.ref s), some (.int (nI 72))] [] (setI M' d 4 (mI M' s 4)) ∧ FrP (d + 1) M M' ∧ (∀ k, k < j → aR M' (d + 1) k = aR M (d + 1) k) ∧ ∀ k, j ≤ k → k < 72 → aR M' (d + 1) k = aR M (s + 1) k
  | 0, j, M, hj, hd, hs, _ => by
    obtain rfl : j = 72 := by omega
    refine ⟨M, ?_, ⟨rfl, rfl, rfl, rfl, rfl, rfl, rfl, rfl, fun _ _ => rfl⟩, fun _ _ => rfl, fun k h1 h2 => by omega⟩
    rw [eq_Land_copyFrom_74, if_pos (show (72 : Int32) ≤ nI 72 by decide), ckk_t hs.1.1, ckk_t hd.1.1]
  | n + 1, j, M, hj, hd, hs, hw => by
    rw [eq_Land_copyFrom_74, if_neg (show ¬ (72 : Int32) ≤ nI j from nI_ge (a := j) (b := 72) (by omega) (by decide))]
    have key : ∀ v, (v = aR M (s + 1) j) → ∃ M', rn jm_Land_copyFrom cl 92 [some (.ref d), some (.ref s), some (.int (nI j))] [] (setP M (d + 1) j v) = rn jm_Land_copyFrom cl 106 [some (.ref d), some (.ref s), some (.int (nI 72))] [] (setI M' d 4 (mI M' s 4)) ∧ FrP (d + 1) M M' ∧ (∀ k, k < j → aR M' (d + 1) k = aR M (d + 1) k) ∧ ∀ k, j ≤ k → k < 72 → aR M' (d + 1) k = aR M (s + 1) k := by
      intro v hv
      have f0 := FrP.set (y := d + 1) M j v
      obtain ⟨M', e, f, h1, h2⟩ := writs_loop cl ne n (j + 1) (setP M (d + 1) j v) (by omega) (f0.la hd) (f0.la hs) (fun i hi w q => by
        rw [f0.2.2.2.2.2.2.2.2 (s + 1) ne] at q
        exact hw i hi w q)
      rw [eq_Land_copyFrom_92, nI_1, e]
      refine ⟨M', rfl, f0.trans f, fun k hk => ?_, fun k h3 h4 => ?_⟩
      · rw [h1 k (by omega), gP_u, up_n (by omega)]
      · by_cases q : k = j
        · subst q; rw [h1 k (by omega), gP_u, up_s, hv]
        · rw [h2 k (by omega) h4, gP_o ne]
    simp only [hd.1, hs.1, hd.2.1, hs.2.1, hd.2.2.1, hs.2.2.1, MR, ckk_T, deR_s, deQ_s, deQ_n, bkV_s, bkI_s, bkJ_s, bkQ_s, bkQ_n, ckb0, ckb1, ckb2, ckb3, eq_self, Nat.reduceEqDiff, Nat.reduceLeDiff, Nat.reduceLT, reduceIte, true_or, or_true, not_false_eq_true, not_true_eq_false, and_self, and_true, true_and, LIT, Int32.reduceLT, Int32.reduceLE, Int32.reduceToNatClampNeg]
    rw [ckb_n (by omega) (by decide), nI_clamp (by omega)]
    cases q : aR M (s + 1) j with
    | none =>
      simp only [MR, ckk_T, deR_s, deQ_s, deQ_n, bkV_s, bkI_s, bkJ_s, bkQ_s, bkQ_n, ckb0, ckb1, ckb2, ckb3, eq_self, Nat.reduceEqDiff, Nat.reduceLeDiff, Nat.reduceLT, reduceIte, true_or, or_true, not_false_eq_true, not_true_eq_false, and_self, and_true, true_and, LIT, Int32.reduceLT, Int32.reduceLE, Int32.reduceToNatClampNeg]
      rw [ckb_n (by omega) (by decide)]
      exact key none q.symm
    | some w =>
      simp only [MR, ckk_T, deR_s, deQ_s, deQ_n, bkV_s, bkI_s, bkJ_s, bkQ_s, bkQ_n, ckb0, ckb1, ckb2, ckb3, eq_self, Nat.reduceEqDiff, Nat.reduceLeDiff, Nat.reduceLT, reduceIte, true_or, or_true, not_false_eq_true, not_true_eq_false, and_self, and_true, true_and, LIT, Int32.reduceLT, Int32.reduceLE, Int32.reduceToNatClampNeg]
      rw [ckb_n (by omega) (by decide), ckk_t (hw j (by omega) w q).2]
      exact key (some w) q.symm
/-- the search of a land is copied -/
def PcS (M : ej_Mem) (d o k : Nat) : Prop := (o = d ∧ k = 7) ∨ ∃ h, mR M d 7 = some h ∧ h ≤ o ∧ o ≤ h + 3
def SrB (M : ej_Mem) (l : Nat) (b : BS) : Prop := (mR M l 7 = none ∧ b = b_none) ∨ ∃ h, mR M l 7 = some h ∧ HR M h 4000 8192 19 b
def RoomD (d : Nat) (M M' : ej_Mem) : Prop := (mZ M' = mZ M ∧ mS M' = mS M ∧ mR M' d 7 = mR M d 7) ∨ (mR M d 7 = none ∧ mZ M' = mZ M + 4 ∧ mS M' = mS M + 16200 ∧ mR M' d 7 = some (mZ M))
theorem p_copySearchN {D : Nat} (hD : 3 ≤ D) {M : ej_Mem} {d : Nat} (hd : mC M d = 3) {b0 : BS} (ht : SrB M d b0) : ∃ M', cal D jm_Land_copySearch [.ref d, .null] M = some (none, M') ∧ FrG (PcS M d) M M' ∧ SrB M' d b_none ∧ RoomD d M M' := by
  obtain ⟨D', rfl⟩ : ∃ d, D = d + 1 := ⟨D - 1, by omega⟩
  rw [can_Land_copySearch, eqn_Land_copySearch_0]
  rcases ht with ⟨q, _⟩ | ⟨h, q, H⟩
  · simp only [hd, q, MR, ckk_T, deR_s, deQ_s, deQ_n, bkV_s, bkI_s, bkJ_s, bkQ_s, bkQ_n, ckb0, ckb1, ckb2, ckb3, eq_self, Nat.reduceEqDiff, Nat.reduceLeDiff, Nat.reduceLT, reduceIte, true_or, or_true, not_false_eq_true, not_true_eq_false, and_self, and_true, true_and, LIT, Int32.reduceLT, Int32.reduceLE, Int32.reduceToNatClampNeg]
    exact ⟨M, rfl, FrG.refl _ M, Or.inl ⟨q, rfl⟩, Or.inl ⟨rfl, rfl, rfl⟩⟩
  · simp only [hd, q, H.1.1, MR, ckk_T, deR_s, deQ_s, deQ_n, bkV_s, bkI_s, bkJ_s, bkQ_s, bkQ_n, ckb0, ckb1, ckb2, ckb3, eq_self, Nat.reduceEqDiff, Nat.reduceLeDiff, Nat.reduceLT, reduceIte, true_or, or_true, not_false_eq_true, not_true_eq_false, and_self, and_true, true_and, LIT, Int32.reduceLT, Int32.reduceLE, Int32.reduceToNatClampNeg]
    obtain ⟨M', e, f, H'⟩ := p_forget (by omega : 2 ≤ D') hz4 H
    rw [e]
    exact ⟨M', rfl, (f.mono (fun o k z => Or.inr ⟨h, q, z.1, z.2⟩)).g, Or.inr ⟨h, by rw [f.r]; exact q, H'⟩, Or.inl ⟨f.z, f.s, by rw [f.r]⟩⟩
theorem p_copySearchR {D : Nat} (hD : 3 ≤ D) {M : ej_Mem} {d s : Nat} (hd : mC M d = 3) (hdz : d < mZ M) {b0 b : BS} (ht : SrB M d b0) (hs : HR M s 4000 8192 19 b) (hsz : s + 3 < mZ M) (hsd : d < s ∨ s + 3 < d) (hb : b.2.2.2 = 0 → b = b_none) (hb5 : b.2.2.2 < 5) (ne : ∀ h, mR M d 7 = some h → h + 3 < s ∨ s + 3 < h) : ∃ M', cal D jm_Land_copySearch [.ref d, .ref s] M = some (none, M') ∧ FrG (PcS M d) M M' ∧ SrB M' d b ∧ RoomD d M M' := by
  obtain ⟨D', rfl⟩ : ∃ d, D = d + 1 := ⟨D - 1, by omega⟩
  rw [ca_Land_copySearch, eq_Land_copySearch_0]
  simp only [hd, hs.1.1, hs.2.1, MR, ckk_T, deR_s, deQ_s, deQ_n, bkV_s, bkI_s, bkJ_s, bkQ_s, bkQ_n, ckb0, ckb1, ckb2, ckb3, eq_self, Nat.reduceEqDiff, Nat.reduceLeDiff, Nat.reduceLT, reduceIte, true_or, or_true, not_false_eq_true, not_true_eq_false, and_self, and_true, true_and, LIT, Int32.reduceLT, Int32.reduceLE, Int32.reduceToNatClampNeg]
  by_cases z : b.2.2.2 = 0
  · rw [if_pos (by rw [z]; rfl)]
    obtain rfl := hb z
    rcases ht with ⟨q, _⟩ | ⟨h, q, H⟩
    · simp only [hd, q, MR, ckk_T, deR_s, deQ_s, deQ_n, bkV_s, bkI_s, bkJ_s, bkQ_s, bkQ_n, ckb0, ckb1, ckb2, ckb3, eq_self, Nat.reduceEqDiff, Nat.reduceLeDiff, Nat.reduceLT, reduceIte, true_or, or_true, not_false_eq_true, not_true_eq_false, and_self, and_true, true_and, LIT, Int32.reduceLT, Int32.reduceLE, Int32.reduceToNatClampNeg]
      exact ⟨M, rfl, FrG.refl _ M, Or.inl ⟨q, rfl⟩, Or.inl ⟨rfl, rfl, rfl⟩⟩
    · simp only [hd, q, H.1.1, MR, ckk_T, deR_s, deQ_s, deQ_n, bkV_s, bkI_s, bkJ_s, bkQ_s, bkQ_n, ckb0, ckb1, ckb2, ckb3, eq_self, Nat.reduceEqDiff, Nat.reduceLeDiff, Nat.reduceLT, reduceIte, true_or, or_true, not_false_eq_true, not_true_eq_false, and_self, and_true, true_and, LIT, Int32.reduceLT, Int32.reduceLE, Int32.reduceToNatClampNeg]
      obtain ⟨M', e, f, H'⟩ := p_forget (by omega : 2 ≤ D') hz4 H
      rw [e]
      exact ⟨M', rfl, (f.mono (fun o k z => Or.inr ⟨h, q, z.1, z.2⟩)).g, Or.inr ⟨h, by rw [f.r]; exact q, H'⟩, Or.inl ⟨f.z, f.s, by rw [f.r]⟩⟩
  · rw [if_neg (fun y => z ((nI_zero (by omega)).mp y))]
    rcases ht with ⟨q, _⟩ | ⟨h, q, H⟩
    · simp only [q, MR, ckk_T, deR_s, deQ_s, deQ_n, bkV_s, bkI_s, bkJ_s, bkQ_s, bkQ_n, ckb0, ckb1, ckb2, ckb3, eq_self, Nat.reduceEqDiff, Nat.reduceLeDiff, Nat.reduceLT, reduceIte, true_or, or_true, not_false_eq_true, not_true_eq_false, and_self, and_true, true_and, LIT, Int32.reduceLT, Int32.reduceLE, Int32.reduceToNatClampNeg]
      have I : cal D' jm_Hunt_init [.ref (mZ M), .int 4000, .int 19] (newM M 1 0 8) = some (none, hIni M 4000 8192 (nI 4000) (nI 19)) := p_huntInit (by omega : 1 ≤ D') hz4 M
      rw [I]
      have f := hIni_g (fun o _ => o = mZ M) M 4000 8192 (nI 4000) (nI 19) (fun _ => rfl)
      have hr := hIni_r hz4 M
      have zz := hIni_z M 4000 8192 (nI 4000) (nI 19)
      generalize hIni M 4000 8192 (nI 4000) (nI 19) = M2 at *
      have g : FrG (fun o k => o = d ∧ k = 7) M2 (setR M2 d 7 (some (mZ M))) := FrG.setR (P := fun o k => o = d ∧ k = 7) M2 _ ⟨rfl, rfl⟩
      have r7 : mR (setR M2 d 7 (some (mZ M))) d 7 = some (mZ M) := gR_s _ _ _ _
      have cd : mC (setR M2 d 7 (some (mZ M))) d = 3 := by rw [(g.2.1 d (by omega)).1, (f.2.1 d hdz).1]; exact hd
      have hs3 : HR (setR M2 d 7 (some (mZ M))) s 4000 8192 19 b := (hs.g f (fun o a c => ⟨by omega, fun k q => by omega⟩)).g g (fun o a c => ⟨by omega, fun k q => by omega⟩)
      have hr3 : HR (setR M2 d 7 (some (mZ M))) (mZ M) 4000 8192 19 b_none := hr.g g (fun o a c => ⟨by omega, fun k q => by omega⟩)
      have z3 : mZ (setR M2 d 7 (some (mZ M))) = mZ M + 4 := zz.1
      have s3 : mS (setR M2 d 7 (some (mZ M))) = mS M + 16200 := by rw [show mS M + 16200 = mS M + 8 + 4000 + 4000 + 8192 from by omega]; exact zz.2
      have fg : FrG (PcS M d) M (setR M2 d 7 (some (mZ M))) := (f.mono (fun o k ho z => by omega)).trans (g.mono (fun o k _ z => Or.inl z))
      have c2 : mC M2 d = 3 := by rw [(f.2.1 d hdz).1]; exact hd
      have c1 : mC M2 (mZ M) = 1 := hr.1.1.1
      rw [bkV_s]
      simp only [c2, c1, up_s, MR, ckk_T, deR_s, deQ_s, deQ_n, bkV_s, bkI_s, bkJ_s, bkQ_s, bkQ_n, ckb0, ckb1, ckb2, ckb3, eq_self, Nat.reduceEqDiff, Nat.reduceLeDiff, Nat.reduceLT, reduceIte, true_or, or_true, not_false_eq_true, not_true_eq_false, and_self, and_true, true_and, LIT, Int32.reduceLT, Int32.reduceLE, Int32.reduceToNatClampNeg]
      generalize setR M2 d 7 (some (mZ M)) = M3 at *
      obtain ⟨M4, e4, f4, H4⟩ := p_huntCopy (by omega : 1 ≤ D') hr3 hs3 (Or.inr (by omega))
      rw [e4]
      exact ⟨M4, rfl, fg.transQ f4.g (fun o k ho z => by unfold Ph at z; omega), Or.inr ⟨mZ M, by rw [f4.r]; exact r7, H4⟩, Or.inr ⟨q, by rw [f4.z]; exact z3, by rw [f4.s]; exact s3, by rw [f4.r]; exact r7⟩⟩
    · simp only [hd, q, H.1.1, MR, ckk_T, deR_s, deQ_s, deQ_n, bkV_s, bkI_s, bkJ_s, bkQ_s, bkQ_n, ckb0, ckb1, ckb2, ckb3, eq_self, Nat.reduceEqDiff, Nat.reduceLeDiff, Nat.reduceLT, reduceIte, true_or, or_true, not_false_eq_true, not_true_eq_false, and_self, and_true, true_and, LIT, Int32.reduceLT, Int32.reduceLE, Int32.reduceToNatClampNeg]
      obtain ⟨M', e, f, H'⟩ := p_huntCopy (by omega : 1 ≤ D') H hs (ne h q)
      rw [e]
      exact ⟨M', rfl, (f.mono (fun o k z => Or.inr ⟨h, q, z.1, z.2⟩)).g, Or.inr ⟨h, by rw [f.r]; exact q, H'⟩, Or.inl ⟨f.z, f.s, by rw [f.r]⟩⟩
