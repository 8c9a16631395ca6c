/-! the class reads facts -/
theorem c_jn2 {D : Nat} (hD : 2 ≤ D) {M : ej_Mem} {t : Nat} {tp : Nat → Nat} {p dp br c lo0 : Nat} {xs : List Nat} {w : Prd} {ps : List Prd} (a : Option Prd) (h : CXk M t tp p dp br c ((if a.isSome = true then [2] else []) ++ xs) (w :: (oL a ++ ps)) lo0) (hx : ∀ x, xs.head? = some x → x < 2) (hl : xs.length < 40) (hp : ps.length + 1 < 40) (hc : c ≤ 60) : ∃ M', cal D jm_Clerk_joinDownTo [.ref 61, .int 2] M = some (none, M') ∧ Fr (Pk lo0) M M' ∧ CXk M' t tp p dp br c xs (andv a w :: ps) lo0 := by
  obtain ⟨d, rfl⟩ : ∃ d, D = d + 1 := ⟨D - 1, by omega⟩
  rw [ca_Clerk_joinDownTo]
  cases a with
  | none => exact ⟨M, c_stay (cal d) (k := 2) h (by decide) hx (by simp; omega), Fr.refl _ M, h⟩
  | some v =>
    have h' : CXk M t tp p dp br c (2 :: xs) (w :: v :: ps) lo0 := h
    obtain ⟨M1, e1, f1, X1⟩ := c_join2 (by omega : 1 ≤ d) (k := 2) h' (by decide) hl hp hc
    exact ⟨M1, e1.trans (c_stay (cal d) (k := 2) X1 (by decide) hx (by omega)), f1, X1⟩
theorem c_jn1 {D : Nat} (hD : 2 ≤ D) {M : ej_Mem} {t : Nat} {tp : Nat → Nat} {p dp br c lo0 : Nat} {xs : List Nat} {w : Prd} {ps : List Prd} (a o : Option Prd) (h : CXk M t tp p dp br c ((if a.isSome = true then [2] else []) ++ ((if o.isSome = true then [1] else []) ++ xs)) (w :: (oL a ++ (oL o ++ ps))) lo0) (hx : ∀ x, xs.head? = some x → x < 1) (hl : xs.length + 1 < 40) (hp : ps.length + 2 < 40) (hc : c ≤ 60) : ∃ M', cal D jm_Clerk_joinDownTo [.ref 61, .int 1] M = some (none, M') ∧ Fr (Pk lo0) M M' ∧ CXk M' t tp p dp br c xs (orv o (andv a w) :: ps) lo0 := by
  obtain ⟨d, rfl⟩ : ∃ d, D = d + 1 := ⟨D - 1, by omega⟩
  rw [ca_Clerk_joinDownTo]
  have ol : (oL o).length ≤ 1 := by cases o <;> simp [oL]
  have xl : (if o.isSome = true then [1] else []).length ≤ 1 := by cases o <;> simp
  have second : ∀ (M1 : ej_Mem) (u : Prd), CXk M1 t tp p dp br c ((if o.isSome = true then [1] else []) ++ xs) (u :: (oL o ++ ps)) lo0 → ∃ M', rn jm_Clerk_joinDownTo (cal d) 0 [some (.ref 61), some (.int 1)] [] M1 = some (none, M') ∧ Fr (Pk lo0) M1 M' ∧ CXk M' t tp p dp br c xs (orv o u :: ps) lo0 := by
    intro M1 u X
    cases o with
    | none => exact ⟨M1, c_stay (cal d) (k := 1) X (by decide) hx (by simp; omega), Fr.refl _ M1, X⟩
    | some v =>
      have X' : CXk M1 t tp p dp br c (1 :: xs) (u :: v :: ps) lo0 := X
      obtain ⟨M2, e2, f2, X2⟩ := c_join1 (by omega : 1 ≤ d) (k := 1) X' (by decide) (by omega) (by omega) hc
      exact ⟨M2, e2.trans (c_stay (cal d) (k := 1) X2 (by decide) hx (by omega)), f2, X2⟩
  cases a with
  | none => exact second M w h
  | some v =>
    have h' : CXk M t tp p dp br c (2 :: ((if o.isSome = true then [1] else []) ++ xs)) (w :: v :: (oL o ++ ps)) lo0 := h
    obtain ⟨M1, e1, f1, X1⟩ := c_join2 (by omega : 1 ≤ d) (k := 1) h' (by decide) (by rw [List.length_append]; omega) (by rw [List.length_append]; omega) hc
    obtain ⟨M2, e2, f2, X2⟩ := second M1 _ X1
    exact ⟨M2, e1.trans e2, f1.trans f2, X2⟩
/-- something waits from now on -/
def awM (M : ej_Mem) (n : Nat) (x : Int32) : ej_Mem := setI (setA M 64 n x) 61 10 (nI (n + 1))
theorem c_addWaiting {D : Nat} (hD : 1 ≤ D) {M : ej_Mem} (hW : SW M) {n : Nat} (h10 : mI M 61 10 = nI n) (hn : n < 40) (x : Int32) : cal D jm_Clerk_addWaiting [.ref 61, .int x] M = some (none, awM M n x) := by
  obtain ⟨d, rfl⟩ : ∃ d, D = d + 1 := ⟨D - 1, by omega⟩
  rw [ca_Clerk_addWaiting, eq_Clerk_addWaiting_0]
  simp only [SW.all hW, h10, nI_1, MR, ckk_T, deR_s, deQ_s, deQ_n, bkV_s, bkI_s, bkJ_s, bkQ_s, bkQ_n, ckb0, ckb1, ckb2, ckb3, eq_self, Nat.reduceEqDiff, Nat.reduceLeDiff, Nat.reduceLT, reduceIte, true_or, or_true, not_false_eq_true, not_true_eq_false, and_self, and_true, true_and, LIT, Int32.reduceLT, Int32.reduceLE, Int32.reduceToNatClampNeg]
  rw [if_neg (show ¬ (40 : Int32) ≤ nI n from nI_ge (b := 40) hn (by decide)), ckb_n hn (by decide), nI_clamp (by omega)]
  rfl
theorem awM_fr (lo0 : Nat) (M : ej_Mem) (n : Nat) (x : Int32) : Fr (Pk lo0) M (awM M n x) := (Fr.setA (P := Pk lo0) M _ (by unfold Pk; omega)).trans (Fr.setI (P := Pk lo0) _ _ (by unfold Pk; omega))
theorem CXk.aw {M : ej_Mem} {t : Nat} {tp : Nat → Nat} {p dp br c lo0 : Nat} {xs : List Nat} {ps : List Prd} (h : CXk M t tp p dp br c xs ps lo0) (x : Nat) : CXk (awM M xs.length (nI x)) t tp p dp br c (x :: xs) ps lo0 := by
  obtain ⟨h1, ⟨a6, a10, a11, a12, a16⟩, h3, h4⟩ := h
  refine ⟨h1.keep ((Fr.setA (P := fun o k => 62 ≤ o ∨ (o = 61 ∧ 4 ≤ k)) M _ (by omega)).trans (Fr.setI (P := fun o k => 62 ≤ o ∨ (o = 61 ∧ 4 ≤ k)) _ _ (by omega))) (fun o k q => q), ⟨a6, rfl, a11, a12, a16⟩, ?_, h4⟩
  show stA (va_up (aI M 64) xs.length (nI x)) nI (x :: xs)
  exact stA_push h3 x
/-- a new piece of one fact -/
def afM (M : ej_Mem) (c n : Nat) (set lo hi : Int32) : ej_Mem := setI (setI (setA (setA (setA (setA (setA (setA (setA (setA M 62 (5 * c) set) 62 (5 * c + 1) lo) 62 (5 * c + 2) hi) 62 (5 * c + 3) (-1)) 62 (5 * c + 4) (-1)) 65 n (nI (5 * c))) 66 n (nI (5 * c + 3))) 67 n (nI (5 * c + 4))) 61 16 (nI (n + 1))) 61 6 (nI (5 * c + 5))
theorem c_addFact_eq {D : Nat} {M : ej_Mem} {t : Nat} {tp : Nat → Nat} {p dp br c lo0 : Nat} {xs : List Nat} {ps : List Prd} (h : CXk M t tp p dp br c xs ps lo0) (hc : c < 60) (hp : ps.length < 40) (set lo hi : Int32) : cal (D + 1) jm_Clerk_addFact [.ref 61, .int set, .int lo, .int hi] M = bkV (cal D jm_Clerk_turnByNots [.ref 61] (afM M c ps.length set lo hi)) (fun M1 => some (none, M1)) := by
  obtain ⟨h1, ⟨a6, a10, a11, a12, a16⟩, h3, h4⟩ := h
  have ef : mI M 61 3 = 0 := h1.2.2.2.2
  have hW := h1.1
  have k0 := ckb_n (show 5 * c < 300 by omega) (show 300 < 2 ^ 31 by decide)
  have k1 := ckb_n (show 5 * c + 1 < 300 by omega) (show 300 < 2 ^ 31 by decide)
  have k2 := ckb_n (show 5 * c + 2 < 300 by omega) (show 300 < 2 ^ 31 by decide)
  have k3 := ckb_n (show 5 * c + 3 < 300 by omega) (show 300 < 2 ^ 31 by decide)
  have k4 := ckb_n (show 5 * c + 4 < 300 by omega) (show 300 < 2 ^ 31 by decide)
  have kp := ckb_n (show ps.length < 40 by omega) (show 40 < 2 ^ 31 by decide)
  have m0 : (nI (5 * c)).toNatClampNeg = 5 * c := nI_clamp (by omega)
  have m1 : (nI (5 * c + 1)).toNatClampNeg = 5 * c + 1 := nI_clamp (by omega)
  have m2 : (nI (5 * c + 2)).toNatClampNeg = 5 * c + 2 := nI_clamp (by omega)
  have m3 : (nI (5 * c + 3)).toNatClampNeg = 5 * c + 3 := nI_clamp (by omega)
  have m4 : (nI (5 * c + 4)).toNatClampNeg = 5 * c + 4 := nI_clamp (by omega)
  have mp : (nI ps.length).toNatClampNeg = ps.length := nI_clamp (by omega)
  rw [ca_Clerk_addFact, eq_Clerk_addFact_0]
  simp only [SW.all hW, ef, a6, a16, ofNat_nI, nI_add5, MR, ckk_T, deR_s, deQ_s, deQ_n, bkV_s, bkI_s, bkJ_s, bkQ_s, bkQ_n, ckb0, ckb1, ckb2, ckb3, eq_self, Nat.reduceEqDiff, Nat.reduceLeDiff, Nat.reduceLT, reduceIte, true_or, or_true, not_false_eq_true, not_true_eq_false, and_self, and_true, true_and, LIT, Int32.reduceLT, Int32.reduceLE, Int32.reduceToNatClampNeg]
  rw [if_neg (nI_nlt (by omega) (by decide)), if_pos (show nI ps.length < 40 from nI_lt (b := 40) hp (by decide)), k0, m0, eq_Clerk_addFact_41]
  simp only [SW.all hW, a6, nI_1, k1, m1, MR, ckk_T, deR_s, deQ_s, deQ_n, bkV_s, bkI_s, bkJ_s, bkQ_s, bkQ_n, ckb0, ckb1, ckb2, ckb3, eq_self, Nat.reduceEqDiff, Nat.reduceLeDiff, Nat.reduceLT, reduceIte, true_or, or_true, not_false_eq_true, not_true_eq_false, and_self, and_true, true_and, LIT, Int32.reduceLT, Int32.reduceLE, Int32.reduceToNatClampNeg]
  rw [eq_Clerk_addFact_53]
  simp only [SW.all hW, a6, nI_add2, k2, m2, MR, ckk_T, deR_s, deQ_s, deQ_n, bkV_s, bkI_s, bkJ_s, bkQ_s, bkQ_n, ckb0, ckb1, ckb2, ckb3, eq_self, Nat.reduceEqDiff, Nat.reduceLeDiff, Nat.reduceLT, reduceIte, true_or, or_true, not_false_eq_true, not_true_eq_false, and_self, and_true, true_and, LIT, Int32.reduceLT, Int32.reduceLE, Int32.reduceToNatClampNeg]
  rw [eq_Clerk_addFact_65]
  simp only [SW.all hW, a6, nI_add3, k3, m3, MR, ckk_T, deR_s, deQ_s, deQ_n, bkV_s, bkI_s, bkJ_s, bkQ_s, bkQ_n, ckb0, ckb1, ckb2, ckb3, eq_self, Nat.reduceEqDiff, Nat.reduceLeDiff, Nat.reduceLT, reduceIte, true_or, or_true, not_false_eq_true, not_true_eq_false, and_self, and_true, true_and, LIT, Int32.reduceLT, Int32.reduceLE, Int32.reduceToNatClampNeg]
  rw [eq_Clerk_addFact_77]
  simp only [SW.all hW, a6, nI_add4, k4, m4, MR, ckk_T, deR_s, deQ_s, deQ_n, bkV_s, bkI_s, bkJ_s, bkQ_s, bkQ_n, ckb0, ckb1, ckb2, ckb3, eq_self, Nat.reduceEqDiff, Nat.reduceLeDiff, Nat.reduceLT, reduceIte, true_or, or_true, not_false_eq_true, not_true_eq_false, and_self, and_true, true_and, LIT, Int32.reduceLT, Int32.reduceLE, Int32.reduceToNatClampNeg]
  rw [eq_Clerk_addFact_89]
  simp only [SW.all hW, a6, a16, kp, mp, MR, ckk_T, deR_s, deQ_s, deQ_n, bkV_s, bkI_s, bkJ_s, bkQ_s, bkQ_n, ckb0, ckb1, ckb2, ckb3, eq_self, Nat.reduceEqDiff, Nat.reduceLeDiff, Nat.reduceLT, reduceIte, true_or, or_true, not_false_eq_true, not_true_eq_false, and_self, and_true, true_and, LIT, Int32.reduceLT, Int32.reduceLE, Int32.reduceToNatClampNeg]
  rw [eq_Clerk_addFact_102]
  simp only [SW.all hW, a6, a16, kp, mp, nI_add3, MR, ckk_T, deR_s, deQ_s, deQ_n, bkV_s, bkI_s, bkJ_s, bkQ_s, bkQ_n, ckb0, ckb1, ckb2, ckb3, eq_self, Nat.reduceEqDiff, Nat.reduceLeDiff, Nat.reduceLT, reduceIte, true_or, or_true, not_false_eq_true, not_true_eq_false, and_self, and_true, true_and, LIT, Int32.reduceLT, Int32.reduceLE, Int32.reduceToNatClampNeg]
  rw [eq_Clerk_addFact_117]
  simp only [SW.all hW, a6, a16, kp, mp, nI_add4, MR, ckk_T, deR_s, deQ_s, deQ_n, bkV_s, bkI_s, bkJ_s, bkQ_s, bkQ_n, ckb0, ckb1, ckb2, ckb3, eq_self, Nat.reduceEqDiff, Nat.reduceLeDiff, Nat.reduceLT, reduceIte, true_or, or_true, not_false_eq_true, not_true_eq_false, and_self, and_true, true_and, LIT, Int32.reduceLT, Int32.reduceLE, Int32.reduceToNatClampNeg]
  rw [eq_Clerk_addFact_132]
  simp only [SW.all hW, a6, a16, nI_1, MR, ckk_T, deR_s, deQ_s, deQ_n, bkV_s, bkI_s, bkJ_s, bkQ_s, bkQ_n, ckb0, ckb1, ckb2, ckb3, eq_self, Nat.reduceEqDiff, Nat.reduceLeDiff, Nat.reduceLT, reduceIte, true_or, or_true, not_false_eq_true, not_true_eq_false, and_self, and_true, true_and, LIT, Int32.reduceLT, Int32.reduceLE, Int32.reduceToNatClampNeg]
  rw [eq_Clerk_addFact_142]
  simp only [SW.all hW, a6, a16, nI_add5, va_upe, MR, ckk_T, deR_s, deQ_s, deQ_n, bkV_s, bkI_s, bkJ_s, bkQ_s, bkQ_n, ckb0, ckb1, ckb2, ckb3, eq_self, Nat.reduceEqDiff, Nat.reduceLeDiff, Nat.reduceLT, reduceIte, true_or, or_true, not_false_eq_true, not_true_eq_false, and_self, and_true, true_and, LIT, Int32.reduceLT, Int32.reduceLE, Int32.reduceToNatClampNeg]
  rw [eq_Clerk_addFact_152]
  simp only [SW.all hW, MR, ckk_T, deR_s, deQ_s, deQ_n, bkV_s, bkI_s, bkJ_s, bkQ_s, bkQ_n, ckb0, ckb1, ckb2, ckb3, eq_self, Nat.reduceEqDiff, Nat.reduceLeDiff, Nat.reduceLT, reduceIte, true_or, or_true, not_false_eq_true, not_true_eq_false, and_self, and_true, true_and, LIT, Int32.reduceLT, Int32.reduceLE, Int32.reduceToNatClampNeg]
  rfl
theorem afM_62 (M : ej_Mem) (c n : Nat) (set lo hi : Int32) : aI (afM M c n set lo hi) 62 = va_up (va_up (va_up (va_up (va_up (aI M 62) (5 * c) set) (5 * c + 1) lo) (5 * c + 2) hi) (5 * c + 3) (-1)) (5 * c + 4) (-1) := by
  unfold afM
  show aI (setA (setA (setA (setA (setA (setA (setA (setA M 62 (5 * c) set) 62 (5 * c + 1) lo) 62 (5 * c + 2) hi) 62 (5 * c + 3) (-1)) 62 (5 * c + 4) (-1)) 65 n (nI (5 * c))) 66 n (nI (5 * c + 3))) 67 n (nI (5 * c + 4))) 62 = _
  rw [gA_o (by decide), gA_o (by decide), gA_o (by decide), gA_u, gA_u, gA_u, gA_u, gA_u]
theorem afM_o (M : ej_Mem) (c n : Nat) (set lo hi : Int32) : aI (afM M c n set lo hi) 65 = va_up (aI M 65) n (nI (5 * c)) ∧ aI (afM M c n set lo hi) 66 = va_up (aI M 66) n (nI (5 * c + 3)) ∧ aI (afM M c n set lo hi) 67 = va_up (aI M 67) n (nI (5 * c + 4)) ∧ aI (afM M c n set lo hi) 64 = aI M 64 := by
  unfold afM
  show aI (setA (setA (setA (setA (setA (setA (setA (setA M 62 (5 * c) set) 62 (5 * c + 1) lo) 62 (5 * c + 2) hi) 62 (5 * c + 3) (-1)) 62 (5 * c + 4) (-1)) 65 n (nI (5 * c))) 66 n (nI (5 * c + 3))) 67 n (nI (5 * c + 4))) 65 = _ ∧ aI (setA (setA (setA (setA (setA (setA (setA (setA M 62 (5 * c) set) 62 (5 * c + 1) lo) 62 (5 * c + 2) hi) 62 (5 * c + 3) (-1)) 62 (5 * c + 4) (-1)) 65 n (nI (5 * c))) 66 n (nI (5 * c + 3))) 67 n (nI (5 * c + 4))) 66 = _ ∧ aI (setA (setA (setA (setA (setA (setA (setA (setA M 62 (5 * c) set) 62 (5 * c + 1) lo) 62 (5 * c + 2) hi) 62 (5 * c + 3) (-1)) 62 (5 * c + 4) (-1)) 65 n (nI (5 * c))) 66 n (nI (5 * c + 3))) 67 n (nI (5 * c + 4))) 67 = _ ∧ aI (setA (setA (setA (setA (setA (setA (setA (setA M 62 (5 * c) set) 62 (5 * c + 1) lo) 62 (5 * c + 2) hi) 62 (5 * c + 3) (-1)) 62 (5 * c + 4) (-1)) 65 n (nI (5 * c))) 66 n (nI (5 * c + 3))) 67 n (nI (5 * c + 4))) 64 = _
  refine ⟨?_, ?_, ?_, ?_⟩
  · rw [gA_o (by decide), gA_o (by decide), gA_u, gA_o (by decide), gA_o (by decide), gA_o (by decide), gA_o (by decide), gA_o (by decide)]
  · rw [gA_o (by decide), gA_u, gA_o (by decide), gA_o (by decide), gA_o (by decide), gA_o (by decide), gA_o (by decide), gA_o (by decide)]
  · rw [gA_u, gA_o (by decide), gA_o (by decide), gA_o (by decide), gA_o (by decide), gA_o (by decide), gA_o (by decide), gA_o (by decide)]
  · rw [gA_o (by decide), gA_o (by decide), gA_o (by decide), gA_o (by decide), gA_o (by decide), gA_o (by decide), gA_o (by decide), gA_o (by decide)]
theorem afM_fr (M : ej_Mem) (c n : Nat) (set lo hi : Int32) {P : Nat → Nat → Prop} (p1 : ∀ k, 5 * c ≤ k → P 62 k) (p2 : ∀ o k, 64 ≤ o → o ≤ 67 → P o k) (p3 : P 61 16) (p4 : P 61 6) : Fr P M (afM M c n set lo hi) := by
  unfold afM
  exact (((((((((Fr.setA (P := P) M _ (p1 _ (by omega))).trans (Fr.setA (P := P) _ _ (p1 _ (by omega)))).trans (Fr.setA (P := P) _ _ (p1 _ (by omega)))).trans (Fr.setA (P := P) _ _ (p1 _ (by omega)))).trans (Fr.setA (P := P) _ _ (p1 _ (by omega)))).trans (Fr.setA (P := P) _ _ (p2 _ _ (by omega) (by omega)))).trans (Fr.setA (P := P) _ _ (p2 _ _ (by omega) (by omega)))).trans (Fr.setA (P := P) _ _ (p2 _ _ (by omega) (by omega)))).trans (Fr.setI (P := P) _ _ p3)).trans (Fr.setI (P := P) _ _ p4)
