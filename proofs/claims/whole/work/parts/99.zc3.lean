/-! the reference: what a clause adds to the text -/
theorem st0_0 (A : Arr) {sl n : Nat} (hl : sl < 40) (e : A 96 (12 * sl + n) = nI 0) : rTxn A 0 sl (n + 1) = xTst 0 (rTs A (12 * sl + n)) (rTxn A 0 sl n) := by
  rw [rTxn_app0 A rfl hl, e]
  simp only [eq_true (show nI 0 = 0 from rfl), eq_false (show ¬ nI 0 = 1 by decide), eq_false (show ¬ nI 0 = 2 by decide), eq_false (show ¬ nI 0 = 3 by decide), eq_false (show ¬ nI 0 = 4 by decide), eq_false (show ¬ nI 0 = 5 by decide), eq_false (show ¬ nI 0 = 6 by decide), if_true, if_false, false_and, true_and, Int32.or_zero, decide_true, decide_false, Bool.true_and, Bool.false_and, Bool.not_not, Bool.not_false, Bool.and_true, Bool.or_false]
  rfl
theorem st0_1 (A : Arr) {sl n : Nat} (hl : sl < 40) (e : A 96 (12 * sl + n) = nI 1) : rTxn A 0 sl (n + 1) = xSet 0 1 (A 97 (12 * sl + n)) (rTxn A 0 sl n) := by
  rw [rTxn_app0 A rfl hl, e]
  simp only [eq_false (show ¬ nI 1 = 0 by decide), eq_true (show nI 1 = 1 from rfl), eq_false (show ¬ nI 1 = 2 by decide), eq_false (show ¬ nI 1 = 3 by decide), eq_false (show ¬ nI 1 = 4 by decide), eq_false (show ¬ nI 1 = 5 by decide), eq_false (show ¬ nI 1 = 6 by decide), if_true, if_false, false_and, true_and, Int32.or_zero, decide_true, decide_false, Bool.true_and, Bool.false_and, Bool.not_not, Bool.not_false, Bool.and_true, Bool.or_false]
  rfl
theorem st0_2 (A : Arr) {sl n : Nat} (hl : sl < 40) (e : A 96 (12 * sl + n) = nI 2) : rTxn A 0 sl (n + 1) = xSet 0 2 (A 97 (12 * sl + n)) (rTxn A 0 sl n) := by
  rw [rTxn_app0 A rfl hl, e]
  simp only [eq_false (show ¬ nI 2 = 0 by decide), eq_false (show ¬ nI 2 = 1 by decide), eq_true (show nI 2 = 2 from rfl), eq_false (show ¬ nI 2 = 3 by decide), eq_false (show ¬ nI 2 = 4 by decide), eq_false (show ¬ nI 2 = 5 by decide), eq_false (show ¬ nI 2 = 6 by decide), if_true, if_false, false_and, true_and, Int32.or_zero, decide_true, decide_false, Bool.true_and, Bool.false_and, Bool.not_not, Bool.not_false, Bool.and_true, Bool.or_false]
  rfl
theorem st0_3 (A : Arr) {sl n : Nat} (hl : sl < 40) (e : A 96 (12 * sl + n) = nI 3) {v : Nat} (hv : A 97 (12 * sl + n) = nI v) : rTxn A 0 sl (n + 1) = xNum 3 v (rTxn A 0 sl n) := by
  rw [rTxn_app0 A rfl hl, e]
  simp only [eq_false (show ¬ nI 3 = 0 by decide), eq_false (show ¬ nI 3 = 1 by decide), eq_false (show ¬ nI 3 = 2 by decide), eq_true (show nI 3 = 3 from rfl), eq_false (show ¬ nI 3 = 4 by decide), eq_false (show ¬ nI 3 = 5 by decide), eq_false (show ¬ nI 3 = 6 by decide), if_true, if_false, false_and, true_and, Int32.or_zero, decide_true, decide_false, Bool.true_and, Bool.false_and, Bool.not_not, Bool.not_false, Bool.and_true, Bool.or_false]
  rw [hv]; rfl
theorem st0_4 (A : Arr) {sl n : Nat} (hl : sl < 40) (e : A 96 (12 * sl + n) = nI 4) {v : Nat} (hv : A 97 (12 * sl + n) = nI v) : rTxn A 0 sl (n + 1) = xNum 4 v (rTxn A 0 sl n) := by
  rw [rTxn_app0 A rfl hl, e]
  simp only [eq_false (show ¬ nI 4 = 0 by decide), eq_false (show ¬ nI 4 = 1 by decide), eq_false (show ¬ nI 4 = 2 by decide), eq_false (show ¬ nI 4 = 3 by decide), eq_true (show nI 4 = 4 from rfl), eq_false (show ¬ nI 4 = 5 by decide), eq_false (show ¬ nI 4 = 6 by decide), if_true, if_false, false_and, true_and, Int32.or_zero, decide_true, decide_false, Bool.true_and, Bool.false_and, Bool.not_not, Bool.not_false, Bool.and_true, Bool.or_false]
  rw [hv]; rfl
theorem st0_5 (A : Arr) {sl n : Nat} (hl : sl < 40) (e : A 96 (12 * sl + n) = nI 5) {v : Nat} (hv : A 97 (12 * sl + n) = nI v) : rTxn A 0 sl (n + 1) = xNum 5 v (rTxn A 0 sl n) := by
  rw [rTxn_app0 A rfl hl, e]
  simp only [eq_false (show ¬ nI 5 = 0 by decide), eq_false (show ¬ nI 5 = 1 by decide), eq_false (show ¬ nI 5 = 2 by decide), eq_false (show ¬ nI 5 = 3 by decide), eq_false (show ¬ nI 5 = 4 by decide), eq_true (show nI 5 = 5 from rfl), eq_false (show ¬ nI 5 = 6 by decide), if_true, if_false, false_and, true_and, Int32.or_zero, decide_true, decide_false, Bool.true_and, Bool.false_and, Bool.not_not, Bool.not_false, Bool.and_true, Bool.or_false]
  rw [hv]; rfl
theorem st0_6 (A : Arr) {sl n : Nat} (hl : sl < 40) (e : A 96 (12 * sl + n) = nI 6) {v : Nat} (hv : A 97 (12 * sl + n) = nI v) : rTxn A 0 sl (n + 1) = xTrn v (fun s => decide (A 98 (12 * sl + n) = A 99 (12 * sl + n)) || rTs A (12 * sl + n) s) (rTxn A 0 sl n) := by
  rw [rTxn_app0 A rfl hl, e]
  simp only [eq_false (show ¬ nI 6 = 0 by decide), eq_false (show ¬ nI 6 = 1 by decide), eq_false (show ¬ nI 6 = 2 by decide), eq_false (show ¬ nI 6 = 3 by decide), eq_false (show ¬ nI 6 = 4 by decide), eq_false (show ¬ nI 6 = 5 by decide), eq_true (show nI 6 = 6 from rfl), if_true, if_false, false_and, true_and, Int32.or_zero, decide_true, decide_false, Bool.true_and, Bool.false_and, Bool.not_not, Bool.not_false, Bool.and_true, Bool.or_false]
  unfold xTrn b1I
  simp only [hv, Bool.or_eq_true, decide_eq_true_iff]
theorem st1_0 (A : Arr) {sl n : Nat} (e : A 96 (12 * sl + n) = nI 0) : rTxn A 1 sl (n + 1) = xSet 1 0 (A 97 (12 * sl + n)) (rTxn A 1 sl n) := by
  rw [rTxn_app1 A, e]
  simp only [eq_true (show nI 0 = 0 from rfl), eq_false (show ¬ nI 0 = 1 by decide), if_true, if_false, false_and, true_and, Int32.or_zero, decide_true, decide_false, Bool.true_and, Bool.false_and, Bool.not_not, Bool.not_false, Bool.and_true, Bool.or_false]
  rfl
theorem st1_1 (A : Arr) {sl n : Nat} (e : A 96 (12 * sl + n) = nI 1) : rTxn A 1 sl (n + 1) = xTst 1 (rTs A (12 * sl + n)) (rTxn A 1 sl n) := by
  rw [rTxn_app1 A, e]
  simp only [eq_true (show nI 1 = 1 from rfl), eq_false (show ¬ nI 1 = 0 by decide), if_true, if_false, false_and, true_and, Int32.or_zero, decide_true, decide_false, Bool.true_and, Bool.false_and, Bool.not_not, Bool.not_false, Bool.and_true, Bool.or_false]
  rfl
