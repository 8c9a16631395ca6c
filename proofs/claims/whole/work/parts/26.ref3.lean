/-! whether a move may be made, and who could turn at it -/
def rMay (A : Arr) (fc : Int32) (nS gi : Nat) (y : Int32) (m : Nat) (s : Int32) : Bool :=
  (decide (A 101 m ≤ y) && decide (y ≤ A 102 m) && rNeed A m s) && (decide (rBeh A m s ≠ s) && !(rStop A fc nS gi (rBeh A m s)))
theorem may_loop {cl : Nat → List Value → ej_Mem → Option ej_R} {M : ej_Mem} (h : RW M) {m gi nS : Nat} {l2 s : Int32} (hm : m < 40) (ho : slOK (aI M) m)
    (hcl : ∀ q, q < 864 → clOK (aI M) (q / 12) q → aI M 98 q ≠ aI M 99 q → Rd M (cl jm_Ref_isTrue [.ref 90, .int (nI q), .int s]) (b2i (rTs (aI M) q s)))
    (hbe : ∀ g, cl jm_Ref_behind [.ref 90, .int (nI m), .int s] (setF M 104 g) = some (some (.int (rBeh (aI M) m s)), setF M 104 g))
    (hst : ∀ t, Rd M (cl jm_Ref_isStopped [.ref 90, .int (nI gi), .int t]) (b2i (rStop (aI M) (mI M 90 9) nS gi t))) : ∀ (n q : Nat) (b : Bool) (g : Nat → Int32), q + n = 12 * m + rC (aI M) m → 12 * m ≤ q →
    ∃ g', rn jm_Ref_mayBe cl 33 [some (.ref 90), some (.int (nI gi)), some (.int l2), some (.int (nI m)), some (.int s), some (.int (b2i b)), some (.int (nI q))] [] (setF M 104 g) =
      some (some (.int (b2i (rNd (aI M) s n q b && (decide (rBeh (aI M) m s ≠ s) && !(rStop (aI M) (mI M 90 9) nS gi (rBeh (aI M) m s)))))), setF M 104 g')
  | 0, q, b, g, hq, hq0 => by
    obtain ⟨hc, hc2⟩ := slOK_c ho
    rw [eq_Ref_mayBe_33]
    simp only [RW.all h, MR, ckk_T, deR_s, deQ_s, deQ_n, bkV_s, bkI_s, bkJ_s, bkQ_s, bkQ_n, ckb0, ckb1, ckb2, ckb3, eq_self, Nat.reduceEqDiff, Nat.reduceLeDiff, Nat.reduceLT, reduceIte, true_or, or_true, not_false_eq_true, not_true_eq_false, and_self, and_true, true_and, LIT, Int32.reduceLT, Int32.reduceLE, Int32.reduceToNatClampNeg, mul12]
    rw [ckb_n (by omega : m < 72) (by decide), nI_clamp (by omega : m < 2 ^ 31), hc, nI_add, if_pos (nI_le (by omega) (by omega))]
    show ∃ g', (_ : Option ej_R) = some (some (.int (b2i (b && _))), setF M 104 g')
    cases b
    · rw [if_pos b2i_f]; exact ⟨g, rfl⟩
    · rw [if_neg (by decide), hbe]
      simp only [RW.all h, MR, ckk_T, deR_s, deQ_s, deQ_n, bkV_s, bkI_s, bkJ_s, bkQ_s, bkQ_n, ckb0, ckb1, ckb2, ckb3, eq_self, Nat.reduceEqDiff, Nat.reduceLeDiff, Nat.reduceLT, reduceIte, true_or, or_true, not_false_eq_true, not_true_eq_false, and_self, and_true, true_and, LIT, Int32.reduceLT, Int32.reduceLE, Int32.reduceToNatClampNeg, Bool.true_and]
      by_cases h1 : rBeh (aI M) m s = s
      · rw [if_pos h1, decide_eq_false (fun q => q h1), Bool.false_and]; exact ⟨g, rfl⟩
      · rw [if_neg h1, decide_eq_true h1, Bool.true_and]
        obtain ⟨g', e⟩ := hst (rBeh (aI M) m s) g
        refine ⟨g', ?_⟩
        rw [e]
        simp only [MR, ckk_T, deR_s, deQ_s, deQ_n, bkV_s, bkI_s, bkJ_s, bkQ_s, bkQ_n, ckb0, ckb1, ckb2, ckb3, eq_self, Nat.reduceEqDiff, Nat.reduceLeDiff, Nat.reduceLT, reduceIte, true_or, or_true, not_false_eq_true, not_true_eq_false, and_self, and_true, true_and, LIT, Int32.reduceLT, Int32.reduceLE, Int32.reduceToNatClampNeg]
        cases rStop (aI M) (mI M 90 9) nS gi (rBeh (aI M) m s)
        · rw [if_pos b2i_f]; rfl
        · rw [if_neg (by decide)]; rfl
  | n + 1, q, b, g, hq, hq0 => by
    obtain ⟨hc, hc2⟩ := slOK_c ho
    have ih := may_loop (l2 := l2) h hm ho hcl hbe hst n (q + 1)
    rw [eq_Ref_mayBe_33]
    simp only [RW.all h, MR, ckk_T, deR_s, deQ_s, deQ_n, bkV_s, bkI_s, bkJ_s, bkQ_s, bkQ_n, ckb0, ckb1, ckb2, ckb3, eq_self, Nat.reduceEqDiff, Nat.reduceLeDiff, Nat.reduceLT, reduceIte, true_or, or_true, not_false_eq_true, not_true_eq_false, and_self, and_true, true_and, LIT, Int32.reduceLT, Int32.reduceLE, Int32.reduceToNatClampNeg, mul12]
    rw [ckb_n (by omega : m < 72) (by decide), nI_clamp (by omega : m < 2 ^ 31), hc, nI_add, if_neg (nI_ge (by omega) (by omega)), ckb_n (by omega : q < 864) (by decide), nI_clamp (by omega : q < 2 ^ 31), nI_1]
    show ∃ g', (_ : Option ej_R) = some (some (.int (b2i (rNd (aI M) s n (q + 1) (b && !(decide (aI M 96 q = 0) && !(rTs (aI M) q s))) && _))), setF M 104 g')
    cases b
    · rw [if_pos b2i_f]
      exact ih false g (by omega) (by omega)
    · rw [if_neg (by decide)]
      by_cases h1 : aI M 96 q = 0
      · rw [if_pos h1]
        obtain ⟨c, hcc, _, _, hoo⟩ := ho
        have hi : q - 12 * m < c := by
          unfold rC at hq
          rw [hcc, nI_clamp (by omega)] at hq
          omega
        have hx := hoo (q - 12 * m) hi
        rw [show 12 * m + (q - 12 * m) = q by omega] at hx
        obtain ⟨g', e⟩ := hcl q (by omega) (by rw [show q / 12 = m by omega]; exact hx.1) (hx.2.1 hm h1) g
        rw [e]
        simp only [MR, ckk_T, deR_s, deQ_s, deQ_n, bkV_s, bkI_s, bkJ_s, bkQ_s, bkQ_n, ckb0, ckb1, ckb2, ckb3, eq_self, Nat.reduceEqDiff, Nat.reduceLeDiff, Nat.reduceLT, reduceIte, true_or, or_true, not_false_eq_true, not_true_eq_false, and_self, and_true, true_and, LIT, Int32.reduceLT, Int32.reduceLE, Int32.reduceToNatClampNeg]
        rw [decide_eq_true h1, Bool.true_and, Bool.true_and, Bool.not_not]
        have ih2 := ih (rTs (aI M) q s) g' (by omega) (by omega)
        cases hb : rTs (aI M) q s
        · rw [hb] at ih2
          rw [if_pos b2i_f]; exact ih2
        · rw [hb] at ih2
          rw [if_neg (by decide)]; exact ih2
      · rw [if_neg h1, decide_eq_false h1]
        exact ih true g (by omega) (by omega)
theorem rNd_false (A : Arr) (s : Int32) : ∀ n q, rNd A s n q false = false
  | 0, _ => rfl
  | n + 1, q => rNd_false A s n (q + 1)
theorem p_mayBe {D : Nat} (hD : 5 ≤ D) {M : ej_Mem} (h : RW M) {m gi nS : Nat} (hm : m < 40) (ho : slOK (aI M) m) (hg : gi < 8) (hog : slOK (aI M) (40 + gi)) (hn : aI M 92 3 = nI nS) (hn8 : nS ≤ 8) (hos : ∀ k, k < nS → slOK (aI M) (64 + k)) (y s : Int32) :
    Rd M (cal D jm_Ref_mayBe [.ref 90, .int (nI gi), .int y, .int (nI m), .int s]) (b2i (rMay (aI M) (mI M 90 9) nS gi y m s)) := by
  intro g
  obtain ⟨d, rfl⟩ : ∃ d, D = d + 1 := ⟨D - 1, by omega⟩
  have L := may_loop (cl := cal d) (l2 := y) (s := s) (gi := gi) (nS := nS) h hm ho (fun q hq hc hne => p_isTrue (by omega) h hq rfl hc hne s) (fun g => p_behind (by omega) h hm ho s g) (fun t => p_isStopped (by omega) h hg hog hn hn8 hos t) (rC (aI M) m) (12 * m)
  rw [ca_Ref_mayBe, eq_Ref_mayBe_0]
  simp only [RW.all h, MR, ckk_T, deR_s, deQ_s, deQ_n, bkV_s, bkI_s, bkJ_s, bkQ_s, bkQ_n, ckb0, ckb1, ckb2, ckb3, eq_self, Nat.reduceEqDiff, Nat.reduceLeDiff, Nat.reduceLT, reduceIte, true_or, or_true, not_false_eq_true, not_true_eq_false, and_self, and_true, true_and, LIT, Int32.reduceLT, Int32.reduceLE, Int32.reduceToNatClampNeg, mul12]
  rw [ckb_n hm (by decide), ckb_n hm (by decide), nI_clamp (by omega : m < 2 ^ 31)]
  unfold rMay rNeed
  by_cases h1 : y < aI M 101 m
  · rw [if_pos h1, decide_eq_false (Int32.not_le.mpr h1), Bool.false_and, Bool.false_and, Bool.false_and]
    have := L false g rfl (Nat.le_refl _)
    rw [rNd_false, Bool.false_and] at this
    exact this
  · rw [if_neg h1, decide_eq_true (Int32.not_lt.mp h1), Bool.true_and]
    by_cases h2 : aI M 102 m < y
    · rw [if_pos h2, decide_eq_false (Int32.not_le.mpr h2), Bool.false_and, Bool.false_and]
      have := L false g rfl (Nat.le_refl _)
      rw [rNd_false, Bool.false_and] at this
      exact this
    · rw [if_neg h2, decide_eq_true (Int32.not_lt.mp h2), Bool.true_and]
      exact L true g rfl (Nat.le_refl _)
theorem turns_loop {cl : Nat → List Value → ej_Mem → Option ej_R} {M : ej_Mem} (h : RW M) {m : Nat} {s : Int32} (hm : m < 40) (ho : slOK (aI M) m)
    (hcl : ∀ q, q < 864 → clOK (aI M) (q / 12) q → aI M 98 q ≠ aI M 99 q → Rd M (cl jm_Ref_isTrue [.ref 90, .int (nI q), .int s]) (b2i (rTs (aI M) q s))) : ∀ (n q : Nat) (acc : Int32) (g : Nat → Int32), q + n = 12 * m + rC (aI M) m → 12 * m ≤ q →
    ∃ g', rn jm_Ref_turns cl 8 [some (.ref 90), some (.int (nI m)), some (.int s), some (.int acc), some (.int (nI q))] [] (setF M 104 g) = some (some (.int (rTn (aI M) s n q acc)), setF M 104 g')
  | 0, q, acc, g, hq, hq0 => by
    obtain ⟨hc, hc2⟩ := slOK_c ho
    refine ⟨g, ?_⟩
    rw [eq_Ref_turns_8]
    simp only [RW.all h, MR, ckk_T, deR_s, deQ_s, deQ_n, bkV_s, bkI_s, bkJ_s, bkQ_s, bkQ_n, ckb0, ckb1, ckb2, ckb3, eq_self, Nat.reduceEqDiff, Nat.reduceLeDiff, Nat.reduceLT, reduceIte, true_or, or_true, not_false_eq_true, not_true_eq_false, and_self, and_true, true_and, LIT, Int32.reduceLT, Int32.reduceLE, Int32.reduceToNatClampNeg, mul12]
    rw [ckb_n (by omega : m < 72) (by decide), nI_clamp (by omega : m < 2 ^ 31), hc, nI_add, if_pos (nI_le (by omega) (by omega))]
    rfl
  | n + 1, q, acc, g, hq, hq0 => by
    obtain ⟨hc, hc2⟩ := slOK_c ho
    have ih := turns_loop h hm ho hcl n (q + 1)
    rw [eq_Ref_turns_8]
    simp only [RW.all h, MR, ckk_T, deR_s, deQ_s, deQ_n, bkV_s, bkI_s, bkJ_s, bkQ_s, bkQ_n, ckb0, ckb1, ckb2, ckb3, eq_self, Nat.reduceEqDiff, Nat.reduceLeDiff, Nat.reduceLT, reduceIte, true_or, or_true, not_false_eq_true, not_true_eq_false, and_self, and_true, true_and, LIT, Int32.reduceLT, Int32.reduceLE, Int32.reduceToNatClampNeg, mul12]
    rw [ckb_n (by omega : m < 72) (by decide), nI_clamp (by omega : m < 2 ^ 31), hc, nI_add, if_neg (nI_ge (by omega) (by omega)), ckb_n (by omega : q < 864) (by decide), nI_clamp (by omega : q < 2 ^ 31), nI_1]
    simp only [ckb_n (show q < 864 by omega) (show 864 < 2 ^ 31 by decide)]
    show ∃ g', (_ : Option ej_R) = some (some (.int (rTn (aI M) s n (q + 1) (acc ||| (if aI M 96 q = 6 ∧ (aI M 98 q = aI M 99 q ∨ rTs (aI M) q s = true) then 1 <<< (aI M 97 q &&& 31) else 0)))), setF M 104 g')
    by_cases h1 : aI M 96 q = 6
    · rw [if_pos h1]
      by_cases h2 : aI M 98 q = aI M 99 q
      · rw [if_pos h2, if_pos ⟨h1, Or.inl h2⟩]
        exact ih _ g (by omega) (by omega)
      · rw [if_neg h2]
        have hx := slOK_cl ho (i := q - 12 * m) (by omega)
        rw [show 12 * m + (q - 12 * m) = q by omega] at hx
        obtain ⟨g', e⟩ := hcl q (by omega) (by rw [show q / 12 = m by omega]; exact hx) h2 g
        rw [e]
        simp only [MR, ckk_T, deR_s, deQ_s, deQ_n, bkV_s, bkI_s, bkJ_s, bkQ_s, bkQ_n, ckb0, ckb1, ckb2, ckb3, eq_self, Nat.reduceEqDiff, Nat.reduceLeDiff, Nat.reduceLT, reduceIte, true_or, or_true, not_false_eq_true, not_true_eq_false, and_self, and_true, true_and, LIT, Int32.reduceLT, Int32.reduceLE, Int32.reduceToNatClampNeg, RW.all h]
        cases hb : rTs (aI M) q s
        · rw [if_pos b2i_f, if_neg (by rintro ⟨_, y | y⟩; exact h2 y; cases y)]
          exact ih _ g' (by omega) (by omega)
        · rw [if_neg (by decide), if_pos ⟨h1, Or.inr rfl⟩, ckb_n (show q < 864 by omega) (show 864 < 2 ^ 31 by decide)]
          exact ih _ g' (by omega) (by omega)
    · rw [if_neg h1, if_neg (fun y => h1 y.1)]
      exact ih _ g (by omega) (by omega)
theorem p_turns {D : Nat} (hD : 4 ≤ D) {M : ej_Mem} (h : RW M) {m : Nat} (hm : m < 40) (ho : slOK (aI M) m) (s : Int32) :
    Rd M (cal D jm_Ref_turns [.ref 90, .int (nI m), .int s]) (rTurn (aI M) m s) := by
  intro g
  obtain ⟨d, rfl⟩ : ∃ d, D = d + 1 := ⟨D - 1, by omega⟩
  rw [ca_Ref_turns, eq_Ref_turns_0, mul12]
  exact turns_loop (cl := cal d) h hm ho (fun q hq hc hne => p_isTrue (by omega) h hq rfl hc hne s) _ _ 0 g rfl (Nat.le_refl _)
