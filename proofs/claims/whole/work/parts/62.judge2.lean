def jud (V : View) (fc : Int32) (r mo : Nat) : JD := jdA V (vR V r).1 (vR V r).2.1 fc ((vR V r).2.2.take mo) (0, tGv (vT V 1 (vR V r).1), 0, 0)
def JM (M' : ej_Mem) (V : View) (fc : Int32) (r mo : Nat) : Prop := mI M' 88 1 = tGv (vT V 1 (vR V r).1) ∧ mI M' 88 2 = (jud V fc r mo).2.1 ∧ mI M' 88 3 = nI (jud V fc r mo).1 ∧ mI M' 88 4 = (jud V fc r mo).2.2.1 ∧ mI M' 88 5 = (jud V fc r mo).2.2.2
theorem p_judgNo {D : Nat} (hD : 2 ≤ D) {M : ej_Mem} {own : Nat → Nat} {V : View} (h : KC M own V) {r fc mo : Int32} (hr : hasB (vRn V) r = false) : cal D jm_Judg_run [.ref 88, .ref 68, .int r, .int fc, .int mo] M = some (some (.int 0), M) := by
  obtain ⟨d, rfl⟩ : ∃ d, D = d + 1 := ⟨D - 1, by omega⟩
  rw [ca_Judg_run, eq_Judg_run_0]
  simp only [SW.all h.1, MR, ckk_T, deR_s, deQ_s, deQ_n, bkV_s, bkI_s, bkJ_s, bkQ_s, bkQ_n, ckb0, ckb1, ckb2, ckb3, eq_self, Nat.reduceEqDiff, Nat.reduceLeDiff, Nat.reduceLT, reduceIte, true_or, or_true, not_false_eq_true, not_true_eq_false, and_self, and_true, true_and, LIT, Int32.reduceLT, Int32.reduceLE, Int32.reduceToNatClampNeg]
  rw [p_rollHas (by omega) h, hr]
  rfl
theorem p_judgRun {D : Nat} (hD : 6 ≤ D) {M : ej_Mem} {own : Nat → Nat} {V : View} (h : KC M own V) {r mo : Nat} {fc : Int32} (hr : r < vRn V) (hmo : mo ≤ 4000) : ∃ M', cal D jm_Judg_run [.ref 88, .ref 68, .int (nI r), .int fc, .int (nI mo)] M = some (some (.int 1), M') ∧ FrG P88 M M' ∧ JM M' V fc r mo := by
  obtain ⟨d, rfl⟩ : ∃ d, D = d + 1 := ⟨D - 1, by omega⟩
  have hV := h.2.2.2.2.2.2.1
  have hv := h.2.2.2.2.2.1
  have h30 := hV.2.2.2.1.1
  have hg := (hV.2.2.2.1.2 r hr).1
  have l1 := hV.le (show 1 < 4 by decide)
  have hz := h.2.2.1
  rw [ca_Judg_run, eq_Judg_run_0]
  simp only [SW.all h.1, MR, ckk_T, deR_s, deQ_s, deQ_n, bkV_s, bkI_s, bkJ_s, bkQ_s, bkQ_n, ckb0, ckb1, ckb2, ckb3, eq_self, Nat.reduceEqDiff, Nat.reduceLeDiff, Nat.reduceLT, reduceIte, true_or, or_true, not_false_eq_true, not_true_eq_false, and_self, and_true, true_and, LIT, Int32.reduceLT, Int32.reduceLE, Int32.reduceToNatClampNeg]
  rw [p_rollHas (by omega) h, (hasB_iff (by omega)).mpr ⟨r, hr, rfl⟩]
  simp only [SW.all h.1, MR, ckk_T, deR_s, deQ_s, deQ_n, bkV_s, bkI_s, bkJ_s, bkQ_s, bkQ_n, ckb0, ckb1, ckb2, ckb3, eq_self, Nat.reduceEqDiff, Nat.reduceLeDiff, Nat.reduceLT, reduceIte, true_or, or_true, not_false_eq_true, not_true_eq_false, and_self, and_true, true_and, LIT, Int32.reduceLT, Int32.reduceLE, Int32.reduceToNatClampNeg, b2i_t]
  rw [ckb_n (by omega) (by decide), nI_clamp (by omega), (h.rl hr).1]
  rw [p_writ_s (by omega) h.2.1 hv.1 hv.2.1 ks1 (by decide) (by rw [hv.2.2.1 1 (by decide)]; exact hg)]
  simp only [SW.all h.1, MR, ckk_T, deR_s, deQ_s, deQ_n, bkV_s, bkI_s, bkJ_s, bkQ_s, bkQ_n, ckb0, ckb1, ckb2, ckb3, eq_self, Nat.reduceEqDiff, Nat.reduceLeDiff, Nat.reduceLT, reduceIte, true_or, or_true, not_false_eq_true, not_true_eq_false, and_self, and_true, true_and, LIT, Int32.reduceLT, Int32.reduceLE, Int32.reduceToNatClampNeg]
  generalize hM1 : setR M 89 0 (some (wL M 68 1 (vR V r).1)) = M1
  have f1 : FrG P88 M M1 := by rw [← hM1]; exact FrG.setR (P := P88) M _ (Or.inl rfl)
  have K1 := K88 h f1
  have hv1 := K1.2.2.2.2.2.1
  rw [ckb_n (by omega) (by decide), (h.rl hr).2.1]
  obtain ⟨z, ez, hzb⟩ := p_movesOpenIn (by omega : 1 ≤ d) hv1.1 hv1.2.1 (vR V r).2.1
  rw [ez]
  simp only [SW.all h.1, SW.all K1.1, MR, ckk_T, deR_s, deQ_s, deQ_n, bkV_s, bkI_s, bkJ_s, bkQ_s, bkQ_n, ckb0, ckb1, ckb2, ckb3, eq_self, Nat.reduceEqDiff, Nat.reduceLeDiff, Nat.reduceLT, reduceIte, true_or, or_true, not_false_eq_true, not_true_eq_false, and_self, and_true, true_and, LIT, Int32.reduceLT, Int32.reduceLE, Int32.reduceToNatClampNeg]
  have w88 : wL M 68 1 (vR V r).1 ≠ 89 := by
    intro e
    have := ((hv.2.1 1 (by decide)).2.2 (vR V r).1 (by rw [hv.2.2.1 1 (by decide)]; exact hg)).2.1
    rw [e, (SW.all h.1).2.2.2.2.2.2.2.2.2.2.2.2.2.2.2.2.2.2.2.2.2.2.2.2.2.2.2.2.2.2.1] at this
    cases this
  simp only [if_neg w88, up_s, up_n (show (1 : Nat) ≠ 2 by decide)]
  have wl : wL M 68 1 (vR V r).1 = wL M1 68 1 (vR V r).1 := by rw [← hM1]; rfl
  have hG : WA M1 (wL M1 68 1 (vR V r).1) := ((hv1.2.1 1 (by decide)).2.2 _ (by rw [hv1.2.2.1 1 (by decide)]; exact hg)).2
  rw [wl, ckk_t hG.1, firstC_v hv1 hg]
  generalize hM2 : setI (setI (setI (setI (setI (setI (setL M1 89 2 z) 89 3 fc) 88 1 (tGv (vT V 1 (vR V r).1))) 88 2 (tGv (vT V 1 (vR V r).1))) 88 3 0) 88 4 0) 88 5 0 = M2
  have f2 : FrG P88 M1 M2 := by
    rw [← hM2]
    exact ((((((FrG.setL (P := P88) M1 _ (Or.inl rfl)).trans (FrG.setI (P := P88) _ _ (Or.inl rfl))).trans (FrG.setI (P := P88) _ _ (Or.inr ⟨rfl, by omega⟩))).trans (FrG.setI (P := P88) _ _ (Or.inr ⟨rfl, by omega⟩))).trans (FrG.setI (P := P88) _ _ (Or.inr ⟨rfl, by omega⟩))).trans (FrG.setI (P := P88) _ _ (Or.inr ⟨rfl, by omega⟩))).trans (FrG.setI (P := P88) _ _ (Or.inr ⟨rfl, by omega⟩))
  have K2 := K88 K1 f2
  have hv2 := K2.2.2.2.2.2.1
  have wl2 : wL M1 68 1 (vR V r).1 = wL M2 68 1 (vR V r).1 := by rw [← hM2]; rfl
  rw [wl2]
  obtain ⟨M3, e3, f3, r2, r3, r4, r5⟩ := judg_loop (D := d) (by omega) (y := (vR V r).2.1) (fc := fc) hg hr hmo rfl ((vR V r).2.2.take mo) (0, tGv (vT V 1 (vR V r).1), 0, 0) M2 none none none (by rw [List.drop_zero]) (Nat.zero_le _) K2
    (by rw [← wl2, ← wl, ← hM2, ← hM1]; rfl) (by rw [← hM2]; rfl)
    (fun k hk => by
      have : mL M2 89 2 = z := by rw [← hM2]; rfl
      have l0 := hV.le (show 0 < 4 by decide)
      rw [this, hzb k (by omega), hv1.2.2.1 0 (by decide), decide_eq_true hk, Bool.true_and]
      unfold opC vOp
      rw [(hv1.2.2.2.2.1 k hk).1, (hv1.2.2.2.2.1 k hk).2])
    (by rw [← hM2]; rfl) (by rw [← hM2]; rfl) (by rw [← hM2]; rfl) (by rw [← hM2]; rfl) (hV.2.2.1 _ hg)
  refine ⟨M3, e3, (f1.trans f2).trans (f3.mono (fun o k _ q => Or.inr ⟨q.1, by omega⟩)), ?_, r2, r3, r4, r5⟩
  rw [(f3.2.2 88 (by have := K2.2.2.1; omega) 1 (by omega)).1, ← hM2]
  rfl
theorem c_judgeNo {D : Nat} (hD : 3 ≤ D) {M : ej_Mem} {own : Nat → Nat} {V : View} (h : KC M own V) {r : Int32} (hr : hasB (vRn V) r = false) : cal D jm_Suit_judge [.ref 59, .int r] M = some (some (.int 0), M) := by
  obtain ⟨d, rfl⟩ : ∃ d, D = d + 1 := ⟨D - 1, by omega⟩
  rw [ca_Suit_judge, eq_Suit_judge_0]
  simp only [SW.all h.1, MR, ckk_T, deR_s, deQ_s, deQ_n, bkV_s, bkI_s, bkJ_s, bkQ_s, bkQ_n, ckb0, ckb1, ckb2, ckb3, eq_self, Nat.reduceEqDiff, Nat.reduceLeDiff, Nat.reduceLT, reduceIte, true_or, or_true, not_false_eq_true, not_true_eq_false, and_self, and_true, true_and, LIT, Int32.reduceLT, Int32.reduceLE, Int32.reduceToNatClampNeg]
  rw [p_judgNo (by omega) h hr]
  rfl
theorem c_judge {D : Nat} (hD : 7 ≤ D) {M : ej_Mem} {own : Nat → Nat} {V : View} (h : KC M own V) {r : Nat} (hr : r < vRn V) : ∃ M', cal D jm_Suit_judge [.ref 59, .int (nI r)] M = some (some (.int 1), M') ∧ FrG P88 M M' ∧ JM M' V (vF V) r 24 := by
  obtain ⟨d, rfl⟩ : ∃ d, D = d + 1 := ⟨D - 1, by omega⟩
  obtain ⟨M', e, f, j⟩ := p_judgRun (by omega : 6 ≤ d) h (fc := vF V) hr (show 24 ≤ 4000 by decide)
  rw [ca_Suit_judge, eq_Suit_judge_0]
  simp only [SW.all h.1, h.2.2.2.2.2.1.2.2.2.2.2.1, MR, ckk_T, deR_s, deQ_s, deQ_n, bkV_s, bkI_s, bkJ_s, bkQ_s, bkQ_n, ckb0, ckb1, ckb2, ckb3, eq_self, Nat.reduceEqDiff, Nat.reduceLeDiff, Nat.reduceLT, reduceIte, true_or, or_true, not_false_eq_true, not_true_eq_false, and_self, and_true, true_and, LIT, Int32.reduceLT, Int32.reduceLE, Int32.reduceToNatClampNeg]
  rw [show (24 : Int32) = nI 24 from rfl, e]
  exact ⟨M', rfl, f, j⟩
theorem roll_cases {V : View} (hV : VOK V) (r : Int32) : hasB (vRn V) r = false ∨ ∃ i, i < vRn V ∧ r = nI i ∧ hasB (vRn V) r = true := by
  have := hV.2.2.2.1.1
  cases hb : hasB (vRn V) r
  · exact Or.inl rfl
  · obtain ⟨i, hi, rfl⟩ := (hasB_iff (by omega)).mp hb
    exact Or.inr ⟨i, hi, rfl, rfl⟩
theorem inB_01 (x : Int32) : inB x 0 1 = false ∧ (x < 0 ∨ (¬ x < 0 ∧ 1 < x)) ∨ (inB x 0 1 = true ∧ ¬ x < 0 ∧ ¬ 1 < x) := by
  unfold inB
  by_cases h1 : x < 0
  · exact Or.inl ⟨decide_eq_false (fun q => absurd h1 (Int32.not_lt.mpr q.1)), Or.inl h1⟩
  · by_cases h2 : 1 < x
    · exact Or.inl ⟨decide_eq_false (fun q => absurd h2 (Int32.not_lt.mpr q.2)), Or.inr ⟨h1, h2⟩⟩
    · exact Or.inr ⟨decide_eq_true ⟨Int32.not_lt.mp h1, Int32.not_lt.mp h2⟩, h1, h2⟩
def a_judged (V : View) (r w : Int32) : Int32 := if (hasB (vRn V) r && inB w 0 1) = true then (if w = 0 then nI (jud V (vF V) r.toNatClampNeg 24).1 else (jud V (vF V) r.toNatClampNeg 24).2.1) else -1
def a_costs (V : View) (r w : Int32) : Int32 := if (hasB (vRn V) r && inB w 0 1) = true then (if w = 0 then (jud V (vF V) r.toNatClampNeg 24).2.2.1 else (jud V (vF V) r.toNatClampNeg 24).2.2.2) else -1
theorem c_judged {D : Nat} (hD : 8 ≤ D) {M : ej_Mem} {own : Nat → Nat} {V : View} (h : KC M own V) (r w : Int32) : ∃ M', cal D jm_Suit_judged [.ref 59, .int r, .int w] M = some (some (.int (a_judged V r w)), M') ∧ FrG (P7 own) M M' ∧ KC M' own V := by
  obtain ⟨d, rfl⟩ : ∃ d, D = d + 1 := ⟨D - 1, by omega⟩
  have h30 := h.2.2.2.2.2.2.1.2.2.2.1.1
  rw [ca_Suit_judged, eq_Suit_judged_0]
  simp only [SW.all h.1, MR, ckk_T, deR_s, deQ_s, deQ_n, bkV_s, bkI_s, bkJ_s, bkQ_s, bkQ_n, ckb0, ckb1, ckb2, ckb3, eq_self, Nat.reduceEqDiff, Nat.reduceLeDiff, Nat.reduceLT, reduceIte, true_or, or_true, not_false_eq_true, not_true_eq_false, and_self, and_true, true_and, LIT, Int32.reduceLT, Int32.reduceLE, Int32.reduceToNatClampNeg]
  unfold a_judged
  rcases inB_01 w with ⟨hb, q⟩ | ⟨hb, q1, q2⟩
  · rw [hb, Bool.and_false]
    refine ⟨M, ?_, FrG.refl _ M, h⟩
    rcases q with q | ⟨q1, q2⟩
    · rw [if_pos q]; rfl
    · rw [if_neg q1, if_pos q2]; rfl
  · rw [if_neg q1, if_neg q2, hb, Bool.and_true]
    rcases roll_cases h.2.2.2.2.2.2.1 r with hr | ⟨i, hi, rfl, hr⟩
    · rw [c_judgeNo (by omega) h hr, hr]
      exact ⟨M, rfl, FrG.refl _ M, h⟩
    · obtain ⟨M1, e, f, j⟩ := c_judge (by omega : 7 ≤ d) h hi
      have K1 := K88 h f
      rw [e, hr, if_pos rfl, nI_clamp (by omega)]
      simp only [SW.all K1.1, j.2.1, j.2.2.1, MR, ckk_T, deR_s, deQ_s, deQ_n, bkV_s, bkI_s, bkJ_s, bkQ_s, bkQ_n, ckb0, ckb1, ckb2, ckb3, eq_self, Nat.reduceEqDiff, Nat.reduceLeDiff, Nat.reduceLT, reduceIte, true_or, or_true, not_false_eq_true, not_true_eq_false, and_self, and_true, true_and, LIT, Int32.reduceLT, Int32.reduceLE, Int32.reduceToNatClampNeg]
      refine ⟨M1, ?_, g88 h.2.2.2.1 f, K1⟩
      by_cases q : w = 0
      · rw [if_pos q, if_pos q]
      · rw [if_neg q, if_neg q]
theorem c_costs {D : Nat} (hD : 8 ≤ D) {M : ej_Mem} {own : Nat → Nat} {V : View} (h : KC M own V) (r w : Int32) : ∃ M', cal D jm_Suit_costs [.ref 59, .int r, .int w] M = some (some (.int (a_costs V r w)), M') ∧ FrG (P7 own) M M' ∧ KC M' own V := by
  obtain ⟨d, rfl⟩ : ∃ d, D = d + 1 := ⟨D - 1, by omega⟩
  have h30 := h.2.2.2.2.2.2.1.2.2.2.1.1
  rw [ca_Suit_costs, eq_Suit_costs_0]
  simp only [SW.all h.1, MR, ckk_T, deR_s, deQ_s, deQ_n, bkV_s, bkI_s, bkJ_s, bkQ_s, bkQ_n, ckb0, ckb1, ckb2, ckb3, eq_self, Nat.reduceEqDiff, Nat.reduceLeDiff, Nat.reduceLT, reduceIte, true_or, or_true, not_false_eq_true, not_true_eq_false, and_self, and_true, true_and, LIT, Int32.reduceLT, Int32.reduceLE, Int32.reduceToNatClampNeg]
  unfold a_costs
  rcases inB_01 w with ⟨hb, q⟩ | ⟨hb, q1, q2⟩
  · rw [hb, Bool.and_false]
    refine ⟨M, ?_, FrG.refl _ M, h⟩
    rcases q with q | ⟨q1, q2⟩
    · rw [if_pos q]; rfl
    · rw [if_neg q1, if_pos q2]; rfl
  · rw [if_neg q1, if_neg q2, hb, Bool.and_true]
    rcases roll_cases h.2.2.2.2.2.2.1 r with hr | ⟨i, hi, rfl, hr⟩
    · rw [c_judgeNo (by omega) h hr, hr]
      exact ⟨M, rfl, FrG.refl _ M, h⟩
    · obtain ⟨M1, e, f, j⟩ := c_judge (by omega : 7 ≤ d) h hi
      have K1 := K88 h f
      rw [e, hr, if_pos rfl, nI_clamp (by omega)]
      simp only [SW.all K1.1, j.2.2.2.1, j.2.2.2.2, MR, ckk_T, deR_s, deQ_s, deQ_n, bkV_s, bkI_s, bkJ_s, bkQ_s, bkQ_n, ckb0, ckb1, ckb2, ckb3, eq_self, Nat.reduceEqDiff, Nat.reduceLeDiff, Nat.reduceLT, reduceIte, true_or, or_true, not_false_eq_true, not_true_eq_false, and_self, and_true, true_and, LIT, Int32.reduceLT, Int32.reduceLE, Int32.reduceToNatClampNeg]
      refine ⟨M1, ?_, g88 h.2.2.2.1 f, K1⟩
      by_cases q : w = 0
      · rw [if_pos q, if_pos q]
      · rw [if_neg q, if_neg q]
