/-! force, holds, open: what they make of a view -/
def setVH (V : View) (r : Nat) (x : Int32) : View := (V.1, V.2.1, V.2.2.1, V.2.2.2.1, va_up (vH V) r x, V.2.2.2.2.2)
def setVO (V : View) (m : Nat) (a b : Int32) : View := (V.1, V.2.1, va_up (vO V) m (a, b), V.2.2.2)
def a_force (V : View) (x : Int32) : Int32 := if bitsB (vN V 3) x = true then vF V else -1
def u_force (V : View) (x : Int32) : View := if bitsB (vN V 3) x = true then setVF V x else V
def a_holds (V : View) (r x : Int32) : Int32 := if (inB r 0 23 && inB x (-1) 15) = true then vH V r.toNatClampNeg else -2
def u_holds (V : View) (r x : Int32) : View := if (inB r 0 23 && inB x (-1) 15) = true then setVH V r.toNatClampNeg x else V
def opB (V : View) (m a b : Int32) : Bool := hasB (vN V 0) m && (inB a 0 2999 && (inB b 0 2999 && decide (a ≤ b)))
def a_open (V : View) (m a b : Int32) : Int32 := b2i (opB V m a b)
def u_open (V : View) (m a b : Int32) : View := if opB V m a b = true then setVO V m.toNatClampNeg a b else V
theorem VOK.vh {V : View} (h : VOK V) {r : Nat} {x : Int32} (hx : inB x (-1) 15 = true) : VOK (setVH V r x) := by
  obtain ⟨h1, h2, h3, h4, h5, h6⟩ := h
  refine ⟨h1, h2, h3, h4, h5, fun i hi => ?_⟩
  show -1 ≤ va_up (vH V) r x i ∧ va_up (vH V) r x i ≤ 15
  by_cases q : i = r
  · subst q; rw [up_s]
    unfold inB at hx; exact of_decide_eq_true hx
  · rw [up_n q]; exact h6 i hi
theorem VOK.vo {V : View} (h : VOK V) (m : Nat) (a b : Int32) : VOK (setVO V m a b) := h
theorem c_force {D : Nat} (hD : 4 ≤ D) {M : ej_Mem} {own : Nat → Nat} {V : View} (h : KC M own V) (x : Int32) : ∃ M', cal D jm_Suit_force [.ref 59, .int x] M = some (some (.int (a_force V x)), M') ∧ FrG (P2 own) M M' ∧ KC M' own (u_force V x) := by
  obtain ⟨d, rfl⟩ : ∃ d, D = d + 1 := ⟨D - 1, by omega⟩
  have hV := h.2.2.2.2.2.2.1
  have hv := h.2.2.2.2.2.1
  have l3 := hV.1 3 (by decide)
  have m3 : mst 3 = 8 := rfl
  have h3 : aI M 70 3 = nI (vN V 3) := by rw [← hv.2.2.1 3 (by decide)]; exact (hv.2.1 3 (by decide)).1
  have h4 : mI M 68 4 = vF V := hv.2.2.2.2.2.1
  rw [ca_Suit_force, eq_Suit_force_0]
  simp only [SW.all h.1, h3, h4, MR, ckk_T, deR_s, deQ_s, deQ_n, bkV_s, bkI_s, bkJ_s, bkQ_s, bkQ_n, ckb0, ckb1, ckb2, ckb3, eq_self, Nat.reduceEqDiff, Nat.reduceLeDiff, Nat.reduceLT, reduceIte, true_or, or_true, not_false_eq_true, not_true_eq_false, and_self, and_true, true_and, LIT, Int32.reduceLT, Int32.reduceLE, Int32.reduceToNatClampNeg]
  unfold a_force u_force
  by_cases x0 : x < 0
  · rw [if_pos x0, bits_n x0]
    exact ⟨M, rfl, FrG.refl _ M, h⟩
  · rw [if_neg x0]
    cases hx : bitsB (vN V 3) x
    · have : (1 <<< (nI (vN V 3) &&& 31)) ≤ x := by
        by_cases z : (1 <<< (nI (vN V 3) &&& 31)) ≤ x
        · exact z
        · rw [(bits_c (by omega) x x0).mpr z] at hx; cases hx
      rw [if_neg (Int32.not_lt.mpr this)]
      exact ⟨M, rfl, FrG.refl _ M, h⟩
    · rw [if_pos (Int32.not_le.mp ((bits_c (by omega) x x0).mp hx))]
      have f : FrG PS M (setI M 68 4 x) := FrG.setI (P := PS) M x (Or.inl ⟨rfl, rfl⟩)
      obtain ⟨K, g⟩ := h.simple (V' := setVF V x) f ⟨rfl, rfl⟩ hv.2.2.2.2.1 (gI_s _ _ _ _) hv.2.2.2.2.2.2.1 hv.2.2.2.2.2.2.2.1 ⟨rfl, rfl, rfl, rfl⟩ (hV.vf x)
      exact ⟨_, rfl, g, K⟩
theorem inB_split {x a b : Int32} : inB x a b = (decide (a ≤ x) && decide (x ≤ b)) := by
  unfold inB
  by_cases h1 : a ≤ x <;> by_cases h2 : x ≤ b <;> simp [h1, h2]
theorem lt_le {x : Int32} (a : Int32) : x < a ↔ x.toInt < a.toInt := Int32.lt_iff_toInt_lt
theorem hold_iff (r x : Int32) : (inB r 0 23 && inB x (-1) 15) = true ↔ (¬ r < 0 ∧ ¬ 24 ≤ r ∧ ¬ x < -1 ∧ x < 16) := by
  unfold inB
  rw [Bool.and_eq_true, decide_eq_true_iff, decide_eq_true_iff]
  simp only [Int32.le_iff_toInt_le, Int32.lt_iff_toInt_lt]
  have e0 : (0 : Int32).toInt = 0 := by decide
  have e23 : (23 : Int32).toInt = 23 := by decide
  have e24 : (24 : Int32).toInt = 24 := by decide
  have em : (-1 : Int32).toInt = -1 := by decide
  have e15 : (15 : Int32).toInt = 15 := by decide
  have e16 : (16 : Int32).toInt = 16 := by decide
  rw [e0, e23, e24, em, e15, e16]
  omega
theorem inB23 {r : Int32} (h : inB r 0 23 = true) : ∃ j, j < 24 ∧ r = nI j := by
  have : hasB 24 r = true := by
    unfold inB at h
    unfold hasB
    have h := of_decide_eq_true h
    exact decide_eq_true ⟨h.1, Int32.lt_of_le_of_lt h.2 (by decide)⟩
  exact (hasB_iff (by decide)).mp this
theorem c_holds {D : Nat} (hD : 4 ≤ D) {M : ej_Mem} {own : Nat → Nat} {V : View} (h : KC M own V) (r x : Int32) : ∃ M', cal D jm_Suit_holds [.ref 59, .int r, .int x] M = some (some (.int (a_holds V r x)), M') ∧ FrG (P2 own) M M' ∧ KC M' own (u_holds V r x) := by
  obtain ⟨d, rfl⟩ : ∃ d, D = d + 1 := ⟨D - 1, by omega⟩
  have hV := h.2.2.2.2.2.2.1
  have hv := h.2.2.2.2.2.1
  rw [ca_Suit_holds, eq_Suit_holds_0]
  simp only [SW.all h.1, MR, ckk_T, deR_s, deQ_s, deQ_n, bkV_s, bkI_s, bkJ_s, bkQ_s, bkQ_n, ckb0, ckb1, ckb2, ckb3, eq_self, Nat.reduceEqDiff, Nat.reduceLeDiff, Nat.reduceLT, reduceIte, true_or, or_true, not_false_eq_true, not_true_eq_false, and_self, and_true, true_and, LIT, Int32.reduceLT, Int32.reduceLE, Int32.reduceToNatClampNeg]
  unfold a_holds u_holds
  cases hc : (inB r 0 23 && inB x (-1) 15)
  · have hn : ¬ (¬ r < 0 ∧ ¬ 24 ≤ r ∧ ¬ x < -1 ∧ x < 16) := fun z => by rw [(hold_iff r x).mpr z] at hc; cases hc
    refine ⟨M, ?_, FrG.refl _ M, h⟩
    by_cases q1 : r < 0
    · rw [if_pos q1]; rfl
    · rw [if_neg q1]
      by_cases q2 : 24 ≤ r
      · rw [if_pos q2]; rfl
      · rw [if_neg q2]
        by_cases q3 : x < -1
        · rw [if_pos q3]; rfl
        · rw [if_neg q3, if_neg (fun q4 => hn ⟨q1, q2, q3, q4⟩)]; rfl
  · have hp := (hold_iff r x).mp hc
    rw [Bool.and_eq_true] at hc
    obtain ⟨j, hj, rfl⟩ := inB23 hc.1
    rw [if_neg hp.1, if_neg hp.2.1, if_neg hp.2.2.1, if_pos hp.2.2.2, ckb_n (by omega) (by decide), ckb_n (by omega) (by decide), nI_clamp (by omega), hv.2.2.2.2.2.2.1 j hj]
    have f : FrG PS M (setA M 73 j x) := FrG.setA (P := PS) M x (Or.inr (Or.inl ⟨by omega, by omega⟩))
    obtain ⟨K, g⟩ := h.simple (V' := setVH V j x) f ⟨rfl, rfl⟩ hv.2.2.2.2.1 hv.2.2.2.2.2.1 (fun i hi => by
      show va_up (aI M 73) j x i = va_up (vH V) j x i
      by_cases q : i = j
      · subst q; rw [up_s, up_s]
      · rw [up_n q, up_n q]; exact hv.2.2.2.2.2.2.1 i hi) hv.2.2.2.2.2.2.2.1 ⟨rfl, rfl, rfl, rfl⟩ (hV.vh hc.2)
    exact ⟨_, rfl, g, K⟩
theorem c_open {D : Nat} (hD : 4 ≤ D) {M : ej_Mem} {own : Nat → Nat} {V : View} (h : KC M own V) (m a b : Int32) : ∃ M', cal D jm_Suit_open [.ref 59, .int m, .int a, .int b] M = some (some (.int (a_open V m a b)), M') ∧ FrG (P2 own) M M' ∧ KC M' own (u_open V m a b) := by
  obtain ⟨d, rfl⟩ : ∃ d, D = d + 1 := ⟨D - 1, by omega⟩
  have hV := h.2.2.2.2.2.2.1
  have hv := h.2.2.2.2.2.1
  have l0 := hV.le (show 0 < 4 by decide)
  rw [ca_Suit_open, eq_Suit_open_0]
  simp only [SW.all h.1, MR, ckk_T, deR_s, deQ_s, deQ_n, bkV_s, bkI_s, bkJ_s, bkQ_s, bkQ_n, ckb0, ckb1, ckb2, ckb3, eq_self, Nat.reduceEqDiff, Nat.reduceLeDiff, Nat.reduceLT, reduceIte, true_or, or_true, not_false_eq_true, not_true_eq_false, and_self, and_true, true_and, LIT, Int32.reduceLT, Int32.reduceLE, Int32.reduceToNatClampNeg]
  unfold a_open u_open
  have no : opB V m a b = false → ∃ M', (some (some (Value.int 0), M) : Option ej_R) = some (some (.int (b2i (opB V m a b))), M') ∧ FrG (P2 own) M M' ∧ KC M' own (if opB V m a b = true then setVO V m.toNatClampNeg a b else V) := by
    intro e
    rw [e]
    exact ⟨M, rfl, FrG.refl _ M, h⟩
  rcases h.writ (by omega : 1 ≤ d) ks0 (by decide) m with ⟨hb, e⟩ | ⟨mi, hmi, rfl, hb, e, hw⟩
  · rw [e]; exact no (by unfold opB; rw [hb]; rfl)
  · rw [e]
    simp only [MR, ckk_T, deR_s, deQ_s, deQ_n, bkV_s, bkI_s, bkJ_s, bkQ_s, bkQ_n, ckb0, ckb1, ckb2, ckb3, eq_self, Nat.reduceEqDiff, Nat.reduceLeDiff, Nat.reduceLT, reduceIte, true_or, or_true, not_false_eq_true, not_true_eq_false, and_self, and_true, true_and, LIT, Int32.reduceLT, Int32.reduceLE, Int32.reduceToNatClampNeg]
    rw [p_isYearC (by omega)]
    cases ha : inB a 0 2999
    · exact no (by unfold opB; rw [ha, Bool.false_and, Bool.and_false])
    · simp only [SW.all h.1, MR, ckk_T, deR_s, deQ_s, deQ_n, bkV_s, bkI_s, bkJ_s, bkQ_s, bkQ_n, ckb0, ckb1, ckb2, ckb3, eq_self, Nat.reduceEqDiff, Nat.reduceLeDiff, Nat.reduceLT, reduceIte, true_or, or_true, not_false_eq_true, not_true_eq_false, and_self, and_true, true_and, LIT, Int32.reduceLT, Int32.reduceLE, Int32.reduceToNatClampNeg, b2i_t]
      rw [p_isYearC (by omega)]
      cases hb2 : inB b 0 2999
      · exact no (by unfold opB; rw [hb2, Bool.false_and, Bool.and_false, Bool.and_false])
      · simp only [SW.all h.1, MR, ckk_T, deR_s, deQ_s, deQ_n, bkV_s, bkI_s, bkJ_s, bkQ_s, bkQ_n, ckb0, ckb1, ckb2, ckb3, eq_self, Nat.reduceEqDiff, Nat.reduceLeDiff, Nat.reduceLT, reduceIte, true_or, or_true, not_false_eq_true, not_true_eq_false, and_self, and_true, true_and, LIT, Int32.reduceLT, Int32.reduceLE, Int32.reduceToNatClampNeg, b2i_t]
        by_cases q : a ≤ b
        · have hB : opB V (nI mi) a b = true := by unfold opB; rw [hb, ha, hb2, decide_eq_true q]; rfl
          rw [if_pos q, ckb_n (by omega) (by decide), ckb_n (by omega) (by decide), hB, if_pos rfl, nI_clamp (by omega)]
          have f : FrG PS M (setA (setA M 71 mi a) 72 mi b) := (FrG.setA (P := PS) M a (Or.inr (Or.inl ⟨by omega, by omega⟩))).trans (FrG.setA (P := PS) _ b (Or.inr (Or.inl ⟨by omega, by omega⟩)))
          obtain ⟨K, g⟩ := h.simple (V' := setVO V mi a b) f ⟨rfl, rfl⟩ (fun i hi => by
            show va_up (aI M 71) mi a i = (va_up (vO V) mi (a, b) i).1 ∧ va_up (aI M 72) mi b i = (va_up (vO V) mi (a, b) i).2
            by_cases q : i = mi
            · subst q; rw [up_s, up_s, up_s]; exact ⟨rfl, rfl⟩
            · rw [up_n q, up_n q, up_n q]; exact hv.2.2.2.2.1 i hi) hv.2.2.2.2.2.1 hv.2.2.2.2.2.2.1 hv.2.2.2.2.2.2.2.1 ⟨rfl, rfl, rfl, rfl⟩ (hV.vo mi a b)
          exact ⟨_, rfl, g, K⟩
        · rw [if_neg q]
          exact no (by unfold opB; rw [decide_eq_false q, Bool.and_false, Bool.and_false, Bool.and_false])
