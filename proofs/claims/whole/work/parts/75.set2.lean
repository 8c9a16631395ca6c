/-! roll, enter: both -/
def RlX (A1 A2 A3 A4 : Nat → Int32) (n0 : Int32) (V : View) : Prop := n0 = nI (vRn V) ∧ ∀ r, r < vRn V → A1 r = nI (vR V r).1 ∧ A2 r = (vR V r).2.1 ∧ A3 r = nI (vR V r).2.2.length ∧ ∀ j, j < (vR V r).2.2.length → A4 (24 * r + j) = nI ((vR V r).2.2.getD j 0)
def setVR (V : View) (n : Nat) (f : Nat → Nat × Int32 × List Nat) : View := (V.1, V.2.1, V.2.2.1, V.2.2.2.1, V.2.2.2.2.1, (n, f), V.2.2.2.2.2.2)
def rlB (V : View) (g y : Int32) : Bool := decide (vRn V < 30) && (hasB (vN V 1) g && inB y 0 2999)
def mkRoll (V : View) (gi : Nat) (y : Int32) : View := setVR V (vRn V + 1) (va_up (vR V) (vRn V) (gi, y, []))
def a_roll (V : View) (g y : Int32) : Int32 := if rlB V g y = true then nI (vRn V) else -1
def u_roll (V : View) (g y : Int32) : View := if rlB V g y = true then mkRoll V g.toNatClampNeg y else V
def enB (V : View) (r m : Int32) : Bool := hasB (vRn V) r && (hasB (vN V 0) m && decide ((vR V r.toNatClampNeg).2.2.length < 24))
def mkEnter (V : View) (r m : Nat) : View := setVR V (vRn V) (va_up (vR V) r ((vR V r).1, (vR V r).2.1, (vR V r).2.2 ++ [m]))
def a_enter (V : View) (r m : Int32) : Int32 := if enB V r m = true then nI ((vR V r.toNatClampNeg).2.2.length + 1) else -1
def u_enter (V : View) (r m : Int32) : View := if enB V r m = true then mkEnter V r.toNatClampNeg m.toNatClampNeg else V
theorem VOK.roll {V : View} (h : VOK V) {gi : Nat} (y : Int32) (hn : vRn V < 30) (hg : gi < vN V 1) : VOK (mkRoll V gi y) := by
  obtain ⟨h1, h2, h3, h4, h5, h6⟩ := h
  refine ⟨h1, h2, h3, ⟨by show vRn V + 1 ≤ 30; omega, fun r hr => ?_⟩, h5, h6⟩
  have hr : r < vRn V + 1 := hr
  show (va_up (vR V) (vRn V) (gi, y, []) r).1 < vN V 1 ∧ (va_up (vR V) (vRn V) (gi, y, []) r).2.2.length ≤ 24 ∧ ∀ m, m ∈ (va_up (vR V) (vRn V) (gi, y, []) r).2.2 → m < vN V 0
  by_cases q : r = vRn V
  · subst q
    rw [up_s]
    exact ⟨hg, by simp, fun m hm => by cases hm⟩
  · rw [up_n q]; exact h4.2 r (by omega)
theorem VOK.enter {V : View} (h : VOK V) {r m : Nat} (hr : r < vRn V) (hm : m < vN V 0) (hl : (vR V r).2.2.length < 24) : VOK (mkEnter V r m) := by
  obtain ⟨h1, h2, h3, h4, h5, h6⟩ := h
  refine ⟨h1, h2, h3, ⟨h4.1, fun i hi => ?_⟩, h5, h6⟩
  have hi : i < vRn V := hi
  show (va_up (vR V) r ((vR V r).1, (vR V r).2.1, (vR V r).2.2 ++ [m]) i).1 < vN V 1 ∧ (va_up (vR V) r ((vR V r).1, (vR V r).2.1, (vR V r).2.2 ++ [m]) i).2.2.length ≤ 24 ∧ ∀ x, x ∈ (va_up (vR V) r ((vR V r).1, (vR V r).2.1, (vR V r).2.2 ++ [m]) i).2.2 → x < vN V 0
  by_cases q : i = r
  · subst q
    rw [up_s]
    refine ⟨(h4.2 i hi).1, by simp; omega, fun x hx => ?_⟩
    rcases List.mem_append.mp hx with z | z
    · exact (h4.2 i hi).2.2 x z
    · rw [List.mem_singleton.mp z]; exact hm
  · rw [up_n q]; exact h4.2 i hi
theorem RlX.roll {A1 A2 A3 A4 : Nat → Int32} {n0 : Int32} {V : View} (h : RlX A1 A2 A3 A4 n0 V) (gi : Nat) (y : Int32) : RlX (va_up A1 (vRn V) (nI gi)) (va_up A2 (vRn V) y) (va_up A3 (vRn V) 0) A4 (nI (vRn V + 1)) (mkRoll V gi y) := by
  refine ⟨rfl, fun r hr => ?_⟩
  have hr : r < vRn V + 1 := hr
  show va_up A1 (vRn V) (nI gi) r = nI (va_up (vR V) (vRn V) (gi, y, []) r).1 ∧ va_up A2 (vRn V) y r = (va_up (vR V) (vRn V) (gi, y, []) r).2.1 ∧ va_up A3 (vRn V) 0 r = nI (va_up (vR V) (vRn V) (gi, y, []) r).2.2.length ∧ ∀ j, j < (va_up (vR V) (vRn V) (gi, y, []) r).2.2.length → A4 (24 * r + j) = nI ((va_up (vR V) (vRn V) (gi, y, []) r).2.2.getD j 0)
  by_cases q : r = vRn V
  · subst q
    rw [up_s, up_s, up_s, up_s]
    exact ⟨rfl, rfl, rfl, fun j hj => by simp at hj⟩
  · rw [up_n q, up_n q, up_n q, up_n q]
    exact h.2 r (by omega)
theorem RlX.enter {A1 A2 A3 A4 : Nat → Int32} {n0 : Int32} {V : View} (h : RlX A1 A2 A3 A4 n0 V) (hV : VOK V) {r m : Nat} (hr : r < vRn V) (hl : (vR V r).2.2.length < 24) : RlX A1 A2 (va_up A3 r (nI ((vR V r).2.2.length + 1))) (va_up A4 (24 * r + (vR V r).2.2.length) (nI m)) n0 (mkEnter V r m) := by
  refine ⟨h.1, fun i hi => ?_⟩
  have hi : i < vRn V := hi
  have h24 := (hV.2.2.2.1.2 i hi).2.1
  obtain ⟨a, b, c, d⟩ := h.2 i hi
  show A1 i = nI (va_up (vR V) r ((vR V r).1, (vR V r).2.1, (vR V r).2.2 ++ [m]) i).1 ∧ A2 i = (va_up (vR V) r ((vR V r).1, (vR V r).2.1, (vR V r).2.2 ++ [m]) i).2.1 ∧ va_up A3 r (nI ((vR V r).2.2.length + 1)) i = nI (va_up (vR V) r ((vR V r).1, (vR V r).2.1, (vR V r).2.2 ++ [m]) i).2.2.length ∧
    ∀ j, j < (va_up (vR V) r ((vR V r).1, (vR V r).2.1, (vR V r).2.2 ++ [m]) i).2.2.length → va_up A4 (24 * r + (vR V r).2.2.length) (nI m) (24 * i + j) = nI ((va_up (vR V) r ((vR V r).1, (vR V r).2.1, (vR V r).2.2 ++ [m]) i).2.2.getD j 0)
  by_cases q : i = r
  · subst q
    rw [up_s, up_s]
    refine ⟨a, b, by simp, fun j hj => ?_⟩
    simp only [List.length_append, List.length_singleton] at hj
    by_cases z : j = (vR V i).2.2.length
    · subst z
      rw [up_s]
      simp [List.getD]
    · rw [up_n (by omega), d j (by omega)]
      simp [List.getD, List.getElem?_append_left (show j < (vR V i).2.2.length by omega)]
  · rw [up_n q, up_n q]
    refine ⟨a, b, c, fun j hj => ?_⟩
    rw [up_n (by omega)]
    exact d j hj
theorem c_roll {D : Nat} (hD : 4 ≤ D) {M : ej_Mem} {own : Nat → Nat} {V : View} (h : KC M own V) (g y : Int32) : ∃ M', cal D jm_Suit_roll [.ref 59, .int g, .int y] M = some (some (.int (a_roll V g y)), M') ∧ FrG (P2 own) M M' ∧ KC M' own (u_roll V g y) := by
  obtain ⟨d, rfl⟩ : ∃ d, D = d + 1 := ⟨D - 1, by omega⟩
  have hV := h.2.2.2.2.2.2.1
  have hv := h.2.2.2.2.2.1
  have h30 := hV.2.2.2.1.1
  have l1 := hV.le (show 1 < 4 by decide)
  have hX : RlX (aI M 75) (aI M 76) (aI M 77) (aI M 78) (mI M 74 0) V := hv.2.2.2.2.2.2.2.1
  rw [ca_Suit_roll, eq_Suit_roll_0]
  simp only [SW.all h.1, MR, ckk_T, deR_s, deQ_s, deQ_n, bkV_s, bkI_s, bkJ_s, bkQ_s, bkQ_n, ckb0, ckb1, ckb2, ckb3, eq_self, Nat.reduceEqDiff, Nat.reduceLeDiff, Nat.reduceLT, reduceIte, true_or, or_true, not_false_eq_true, not_true_eq_false, and_self, and_true, true_and, LIT, Int32.reduceLT, Int32.reduceLE, Int32.reduceToNatClampNeg]
  unfold a_roll u_roll
  have no : rlB V g y = false → ∃ M', (some (some (Value.int (-1)), M) : Option ej_R) = some (some (.int (if rlB V g y = true then nI (vRn V) else -1)), M') ∧ FrG (P2 own) M M' ∧ KC M' own (if rlB V g y = true then mkRoll V g.toNatClampNeg y else V) := by
    intro e
    rw [e]
    exact ⟨M, rfl, FrG.refl _ M, h⟩
  rcases h.writ (by omega : 1 ≤ d) ks1 (by decide) g with ⟨hb, e⟩ | ⟨gi, hgi, rfl, hb, e, hw⟩
  · rw [e]; exact no (by unfold rlB; rw [hb, Bool.false_and, Bool.and_false])
  · rw [e]
    simp only [MR, ckk_T, deR_s, deQ_s, deQ_n, bkV_s, bkI_s, bkJ_s, bkQ_s, bkQ_n, ckb0, ckb1, ckb2, ckb3, eq_self, Nat.reduceEqDiff, Nat.reduceLeDiff, Nat.reduceLT, reduceIte, true_or, or_true, not_false_eq_true, not_true_eq_false, and_self, and_true, true_and, LIT, Int32.reduceLT, Int32.reduceLE, Int32.reduceToNatClampNeg]
    rw [p_isYearC (by omega)]
    cases hy : inB y 0 2999
    · exact no (by unfold rlB; rw [hy, Bool.and_false, Bool.and_false])
    · obtain ⟨d', rfl⟩ : ∃ d', d = d' + 1 := ⟨d - 1, by omega⟩
      simp only [SW.all h.1, MR, ckk_T, deR_s, deQ_s, deQ_n, bkV_s, bkI_s, bkJ_s, bkQ_s, bkQ_n, ckb0, ckb1, ckb2, ckb3, eq_self, Nat.reduceEqDiff, Nat.reduceLeDiff, Nat.reduceLT, reduceIte, true_or, or_true, not_false_eq_true, not_true_eq_false, and_self, and_true, true_and, LIT, Int32.reduceLT, Int32.reduceLE, Int32.reduceToNatClampNeg, b2i_t]
      rw [ca_Rolls_begin, eq_Rolls_begin_0]
      simp only [SW.all h.1, hX.1, MR, ckk_T, deR_s, deQ_s, deQ_n, bkV_s, bkI_s, bkJ_s, bkQ_s, bkQ_n, ckb0, ckb1, ckb2, ckb3, eq_self, Nat.reduceEqDiff, Nat.reduceLeDiff, Nat.reduceLT, reduceIte, true_or, or_true, not_false_eq_true, not_true_eq_false, and_self, and_true, true_and, LIT, Int32.reduceLT, Int32.reduceLE, Int32.reduceToNatClampNeg]
      by_cases q : vRn V < 30
      · have hB : rlB V (nI gi) y = true := by unfold rlB; rw [decide_eq_true q, hb, hy]; rfl
        have e30 : nI (vRn V) < 30 := nI_lt (b := 30) q (by decide)
        rw [if_pos e30, ckb_n (by omega) (by decide), ckb_n (by omega) (by decide), ckb_n (by omega) (by decide), hB, if_pos rfl, nI_clamp (by omega), nI_clamp (by omega)]
        simp only [MR, ckk_T, deR_s, deQ_s, deQ_n, bkV_s, bkI_s, bkJ_s, bkQ_s, bkQ_n, ckb0, ckb1, ckb2, ckb3, eq_self, Nat.reduceEqDiff, Nat.reduceLeDiff, Nat.reduceLT, reduceIte, true_or, or_true, not_false_eq_true, not_true_eq_false, and_self, and_true, true_and, LIT, Int32.reduceLT, Int32.reduceLE, Int32.reduceToNatClampNeg, up_s, nI_1]
        have f : FrG PS M (setI (setA (setA (setA M 75 (vRn V) (nI gi)) 76 (vRn V) y) 77 (vRn V) 0) 74 0 (nI (vRn V + 1))) := (((FrG.setA (P := PS) M _ (Or.inr (Or.inr (Or.inr ⟨by omega, by omega⟩)))).trans (FrG.setA (P := PS) _ _ (Or.inr (Or.inr (Or.inr ⟨by omega, by omega⟩))))).trans (FrG.setA (P := PS) _ _ (Or.inr (Or.inr (Or.inr ⟨by omega, by omega⟩))))).trans (FrG.setI (P := PS) _ _ (Or.inr (Or.inr (Or.inl ⟨rfl, rfl⟩))))
        obtain ⟨K, G⟩ := h.simple (V' := mkRoll V gi y) f ⟨rfl, rfl⟩ hv.2.2.2.2.1 hv.2.2.2.2.2.1 hv.2.2.2.2.2.2.1 (show RlX _ _ _ _ _ _ from hX.roll gi y) ⟨rfl, rfl, rfl, rfl⟩ (hV.roll y q hgi)
        refine ⟨_, ?_, G, K⟩
        rw [← nI_1, Int32.add_sub_cancel]
      · rw [if_neg (show ¬ nI (vRn V) < 30 from nI_nlt (b := 30) (by omega) (by omega))]
        exact no (by unfold rlB; rw [decide_eq_false q, Bool.false_and])
theorem c_enter {D : Nat} (hD : 4 ≤ D) {M : ej_Mem} {own : Nat → Nat} {V : View} (h : KC M own V) (r m : Int32) : ∃ M', cal D jm_Suit_enter [.ref 59, .int r, .int m] M = some (some (.int (a_enter V r m)), M') ∧ FrG (P2 own) M M' ∧ KC M' own (u_enter V r m) := by
  obtain ⟨d, rfl⟩ : ∃ d, D = d + 1 := ⟨D - 1, by omega⟩
  have hV := h.2.2.2.2.2.2.1
  have hv := h.2.2.2.2.2.1
  have h30 := hV.2.2.2.1.1
  have l0 := hV.le (show 0 < 4 by decide)
  have hX : RlX (aI M 75) (aI M 76) (aI M 77) (aI M 78) (mI M 74 0) V := hv.2.2.2.2.2.2.2.1
  rw [ca_Suit_enter, eq_Suit_enter_0]
  simp only [SW.all h.1, MR, ckk_T, deR_s, deQ_s, deQ_n, bkV_s, bkI_s, bkJ_s, bkQ_s, bkQ_n, ckb0, ckb1, ckb2, ckb3, eq_self, Nat.reduceEqDiff, Nat.reduceLeDiff, Nat.reduceLT, reduceIte, true_or, or_true, not_false_eq_true, not_true_eq_false, and_self, and_true, true_and, LIT, Int32.reduceLT, Int32.reduceLE, Int32.reduceToNatClampNeg]
  unfold a_enter u_enter
  have no : enB V r m = false → ∃ M', (some (some (Value.int (-1)), M) : Option ej_R) = some (some (.int (if enB V r m = true then nI ((vR V r.toNatClampNeg).2.2.length + 1) else -1)), M') ∧ FrG (P2 own) M M' ∧ KC M' own (if enB V r m = true then mkEnter V r.toNatClampNeg m.toNatClampNeg else V) := by
    intro e
    rw [e]
    exact ⟨M, rfl, FrG.refl _ M, h⟩
  rw [p_rollHas (by omega) h]
  rcases roll_cases hV r with hr | ⟨i, hi, rfl, hr⟩
  · rw [hr]; exact no (by unfold enB; rw [hr]; rfl)
  · rw [hr]
    simp only [SW.all h.1, MR, ckk_T, deR_s, deQ_s, deQ_n, bkV_s, bkI_s, bkJ_s, bkQ_s, bkQ_n, ckb0, ckb1, ckb2, ckb3, eq_self, Nat.reduceEqDiff, Nat.reduceLeDiff, Nat.reduceLT, reduceIte, true_or, or_true, not_false_eq_true, not_true_eq_false, and_self, and_true, true_and, LIT, Int32.reduceLT, Int32.reduceLE, Int32.reduceToNatClampNeg, b2i_t]
    rcases h.writ (by omega : 1 ≤ d) ks0 (by decide) m with ⟨hb, e⟩ | ⟨mi, hmi, rfl, hb, e, hw⟩
    · rw [e]; exact no (by unfold enB; rw [hb, Bool.false_and, Bool.and_false])
    · rw [e]
      obtain ⟨d', rfl⟩ : ∃ d', d = d' + 1 := ⟨d - 1, by omega⟩
      have h24 := (hV.2.2.2.1.2 i hi).2.1
      simp only [SW.all h.1, MR, ckk_T, deR_s, deQ_s, deQ_n, bkV_s, bkI_s, bkJ_s, bkQ_s, bkQ_n, ckb0, ckb1, ckb2, ckb3, eq_self, Nat.reduceEqDiff, Nat.reduceLeDiff, Nat.reduceLT, reduceIte, true_or, or_true, not_false_eq_true, not_true_eq_false, and_self, and_true, true_and, LIT, Int32.reduceLT, Int32.reduceLE, Int32.reduceToNatClampNeg]
      rw [ca_Rolls_write, eq_Rolls_write_0]
      simp only [SW.all h.1, MR, ckk_T, deR_s, deQ_s, deQ_n, bkV_s, bkI_s, bkJ_s, bkQ_s, bkQ_n, ckb0, ckb1, ckb2, ckb3, eq_self, Nat.reduceEqDiff, Nat.reduceLeDiff, Nat.reduceLT, reduceIte, true_or, or_true, not_false_eq_true, not_true_eq_false, and_self, and_true, true_and, LIT, Int32.reduceLT, Int32.reduceLE, Int32.reduceToNatClampNeg]
      rw [p_rollHas (by omega) h, hr]
      simp only [SW.all h.1, MR, ckk_T, deR_s, deQ_s, deQ_n, bkV_s, bkI_s, bkJ_s, bkQ_s, bkQ_n, ckb0, ckb1, ckb2, ckb3, eq_self, Nat.reduceEqDiff, Nat.reduceLeDiff, Nat.reduceLT, reduceIte, true_or, or_true, not_false_eq_true, not_true_eq_false, and_self, and_true, true_and, LIT, Int32.reduceLT, Int32.reduceLE, Int32.reduceToNatClampNeg, b2i_t]
      rw [ckb_n (by omega) (by decide), nI_clamp (by omega), (hX.2 i hi).2.2.1]
      by_cases q : (vR V i).2.2.length < 24
      · have hB : enB V (nI i) (nI mi) = true := by unfold enB; rw [hr, hb, nI_clamp (by omega), decide_eq_true q]; rfl
        have ei : nI i * 24 + nI (vR V i).2.2.length = nI (24 * i + (vR V i).2.2.length) := by
          rw [show (24 : Int32) = nI 24 from rfl, pk_mul, nI_add, Nat.mul_comm]
        have e24 : nI (vR V i).2.2.length < 24 := nI_lt (b := 24) q (by decide)
        rw [if_pos e24, ckb_n (by omega) (by decide), ei, ckb_n (by omega) (by decide), nI_clamp (by omega)]
        rw [ckb_n (by omega) (by decide), ckb_n (by omega) (by decide), ckb_n (by omega) (by decide), hB, if_pos rfl, nI_clamp (by omega), up_s, nI_1, if_pos rfl]
        have f : FrG PS M (setA (setA M 78 (24 * i + (vR V i).2.2.length) (nI mi)) 77 i (nI ((vR V i).2.2.length + 1))) := (FrG.setA (P := PS) M _ (Or.inr (Or.inr (Or.inr ⟨by omega, by omega⟩)))).trans (FrG.setA (P := PS) _ _ (Or.inr (Or.inr (Or.inr ⟨by omega, by omega⟩))))
        obtain ⟨K, G⟩ := h.simple (V' := mkEnter V i mi) f ⟨rfl, rfl⟩ hv.2.2.2.2.1 hv.2.2.2.2.2.1 hv.2.2.2.2.2.2.1 (show RlX _ _ _ _ _ _ from hX.enter hV hi q) ⟨rfl, rfl, rfl, rfl⟩ (hV.enter hi hmi q)
        exact ⟨_, rfl, G, K⟩
      · rw [if_neg (show ¬ nI (vR V i).2.2.length < 24 from nI_nlt (b := 24) (by omega) (by omega))]
        have e := no (by unfold enB; rw [nI_clamp (by omega), decide_eq_false q, Bool.and_false, Bool.and_false])
        rw [nI_clamp (by omega)] at e
        exact e
