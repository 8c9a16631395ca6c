def fgA (V : View) (a b : Int32) : Nat → Nat → Int32 → Int32
  | 0, _, acc => acc
  | n + 1, k, acc => fgA V a b n (k + 1) (if tTs (vT V 2 k) b = true ∧ tTs (vT V 2 k) a = false then acc ||| (1 <<< (nI k &&& 31)) else acc)
def hdA (V : View) (x : Int32) : Nat → Nat → Int32 → Int32
  | 0, _, acc => acc
  | n + 1, k, acc => hdA V x n (k + 1) (if bI x k = true ∧ vH V k ≠ -1 then acc ||| (1 <<< (vH V k &&& 31)) else acc)
def a_feigned (V : View) (r : Int32) : Int32 := if hasB (vRn V) r = true then fgA V (tGv (vT V 1 (vR V r.toNatClampNeg).1)) (jud V (vF V) r.toNatClampNeg 24).2.1 (vN V 2) 0 0 else -1
def a_claims (V : View) (r w : Int32) : Int32 := if (hasB (vRn V) r && inB w 0 1) = true then
  hdA V (tGv (vT V 1 (vR V r.toNatClampNeg).1) &&& (if w = 0 then (jud V (vF V) r.toNatClampNeg 24).2.1 ^^^ -1 else (jud V (vF V) r.toNatClampNeg 24).2.1)) 24 0 0 else -1
theorem fg_loop {D : Nat} (hD : 2 ≤ D) {own : Nat → Nat} {V : View} {M : ej_Mem} (h : KC M own V) {l1 a b : Int32} (ha : mI M 88 1 = a) (hb : mI M 88 2 = b) : ∀ (n k : Nat) (acc : Int32) (o4 : Option Value), k + n = vN V 2 → rn jm_Suit_feigned (cal D) 14 [some (.ref 59), some (.int l1), some (.int acc), some (.int (nI k)), o4] [] M = some (some (.int (fgA V a b n k acc)), M)
  | 0, k, acc, o4, hk => by
    have l2 := h.2.2.2.2.2.2.1.le (show 2 < 4 by decide)
    have hv := h.2.2.2.2.2.1
    rw [eq_Suit_feigned_14]
    simp only [SW.all h.1, MR, ckk_T, deR_s, deQ_s, deQ_n, bkV_s, bkI_s, bkJ_s, bkQ_s, bkQ_n, ckb0, ckb1, ckb2, ckb3, eq_self, Nat.reduceEqDiff, Nat.reduceLeDiff, Nat.reduceLT, reduceIte, true_or, or_true, not_false_eq_true, not_true_eq_false, and_self, and_true, true_and, LIT, Int32.reduceLT, Int32.reduceLE, Int32.reduceToNatClampNeg]
    rw [show aI M 70 2 = nI (vN V 2) from by rw [← hv.2.2.1 2 (by decide)]; exact (hv.2.1 2 (by decide)).1, if_pos (nI_le (by omega) (by omega))]
    rfl
  | n + 1, k, acc, o4, hk => by
    have l2 := h.2.2.2.2.2.2.1.le (show 2 < 4 by decide)
    have hv := h.2.2.2.2.2.1
    have hk2 : k < vN V 2 := by omega
    rw [eq_Suit_feigned_14]
    simp only [SW.all h.1, MR, ckk_T, deR_s, deQ_s, deQ_n, bkV_s, bkI_s, bkJ_s, bkQ_s, bkQ_n, ckb0, ckb1, ckb2, ckb3, eq_self, Nat.reduceEqDiff, Nat.reduceLeDiff, Nat.reduceLT, reduceIte, true_or, or_true, not_false_eq_true, not_true_eq_false, and_self, and_true, true_and, LIT, Int32.reduceLT, Int32.reduceLE, Int32.reduceToNatClampNeg]
    rw [show aI M 70 2 = nI (vN V 2) from by rw [← hv.2.2.1 2 (by decide)]; exact (hv.2.1 2 (by decide)).1, if_neg (nI_ge (by omega) (by omega))]
    have hW := ((hv.2.1 2 (by decide)).2.2 k (by rw [hv.2.2.1 2 (by decide)]; exact hk2)).2
    rw [p_writ_s (by omega) h.2.1 hv.1 hv.2.1 ks2 (by decide) (by rw [hv.2.2.1 2 (by decide)]; exact hk2)]
    simp only [SW.all h.1, hW.1, MR, ckk_T, deR_s, deQ_s, deQ_n, bkV_s, bkI_s, bkJ_s, bkQ_s, bkQ_n, ckb0, ckb1, ckb2, ckb3, eq_self, Nat.reduceEqDiff, Nat.reduceLeDiff, Nat.reduceLT, reduceIte, true_or, or_true, not_false_eq_true, not_true_eq_false, and_self, and_true, true_and, LIT, Int32.reduceLT, Int32.reduceLE, Int32.reduceToNatClampNeg]
    rw [p_isTrueC hD hW hW.ent, hv.tst (by decide) hk2, hb]
    unfold fgA
    cases q1 : tTs (vT V 2 k) b
    · simp only [MR, ckk_T, deR_s, deQ_s, deQ_n, bkV_s, bkI_s, bkJ_s, bkQ_s, bkQ_n, ckb0, ckb1, ckb2, ckb3, eq_self, Nat.reduceEqDiff, Nat.reduceLeDiff, Nat.reduceLT, reduceIte, true_or, or_true, not_false_eq_true, not_true_eq_false, and_self, and_true, true_and, LIT, Int32.reduceLT, Int32.reduceLE, Int32.reduceToNatClampNeg, b2i_f]
      rw [nI_1, fg_loop hD h ha hb n (k + 1) acc _ (by omega), if_neg (by simp)]
    · simp only [SW.all h.1, hW.1, MR, ckk_T, deR_s, deQ_s, deQ_n, bkV_s, bkI_s, bkJ_s, bkQ_s, bkQ_n, ckb0, ckb1, ckb2, ckb3, eq_self, Nat.reduceEqDiff, Nat.reduceLeDiff, Nat.reduceLT, reduceIte, true_or, or_true, not_false_eq_true, not_true_eq_false, and_self, and_true, true_and, LIT, Int32.reduceLT, Int32.reduceLE, Int32.reduceToNatClampNeg, b2i_t]
      rw [p_isTrueC hD hW hW.ent, hv.tst (by decide) hk2, ha]
      cases q2 : tTs (vT V 2 k) a
      · simp only [MR, ckk_T, deR_s, deQ_s, deQ_n, bkV_s, bkI_s, bkJ_s, bkQ_s, bkQ_n, ckb0, ckb1, ckb2, ckb3, eq_self, Nat.reduceEqDiff, Nat.reduceLeDiff, Nat.reduceLT, reduceIte, true_or, or_true, not_false_eq_true, not_true_eq_false, and_self, and_true, true_and, LIT, Int32.reduceLT, Int32.reduceLE, Int32.reduceToNatClampNeg, b2i_f]
        rw [nI_1, fg_loop hD h ha hb n (k + 1) _ _ (by omega)]
      · simp only [MR, ckk_T, deR_s, deQ_s, deQ_n, bkV_s, bkI_s, bkJ_s, bkQ_s, bkQ_n, ckb0, ckb1, ckb2, ckb3, eq_self, Nat.reduceEqDiff, Nat.reduceLeDiff, Nat.reduceLT, reduceIte, true_or, or_true, not_false_eq_true, not_true_eq_false, and_self, and_true, true_and, LIT, Int32.reduceLT, Int32.reduceLE, Int32.reduceToNatClampNeg, b2i_t]
        rw [nI_1, fg_loop hD h ha hb n (k + 1) acc _ (by omega), if_neg (by simp)]
theorem c_feigned {D : Nat} (hD : 8 ≤ D) {M : ej_Mem} {own : Nat → Nat} {V : View} (h : KC M own V) (r : Int32) : ∃ M', cal D jm_Suit_feigned [.ref 59, .int r] M = some (some (.int (a_feigned V r)), M') ∧ FrG (P7 own) M M' ∧ KC M' own V := by
  obtain ⟨d, rfl⟩ : ∃ d, D = d + 1 := ⟨D - 1, by omega⟩
  have h30 := h.2.2.2.2.2.2.1.2.2.2.1.1
  rw [ca_Suit_feigned, eq_Suit_feigned_0]
  simp only [SW.all h.1, MR, ckk_T, deR_s, deQ_s, deQ_n, bkV_s, bkI_s, bkJ_s, bkQ_s, bkQ_n, ckb0, ckb1, ckb2, ckb3, eq_self, Nat.reduceEqDiff, Nat.reduceLeDiff, Nat.reduceLT, reduceIte, true_or, or_true, not_false_eq_true, not_true_eq_false, and_self, and_true, true_and, LIT, Int32.reduceLT, Int32.reduceLE, Int32.reduceToNatClampNeg]
  unfold a_feigned
  rcases roll_cases h.2.2.2.2.2.2.1 r with hr | ⟨i, hi, rfl, hr⟩
  · rw [c_judgeNo (by omega) h hr, hr]
    exact ⟨M, rfl, FrG.refl _ M, h⟩
  · obtain ⟨M1, e, f, j⟩ := c_judge (by omega : 7 ≤ d) h hi
    have K1 := K88 h f
    rw [e, hr, if_pos rfl, nI_clamp (by omega)]
    simp only [MR, ckk_T, deR_s, deQ_s, deQ_n, bkV_s, bkI_s, bkJ_s, bkQ_s, bkQ_n, ckb0, ckb1, ckb2, ckb3, eq_self, Nat.reduceEqDiff, Nat.reduceLeDiff, Nat.reduceLT, reduceIte, true_or, or_true, not_false_eq_true, not_true_eq_false, and_self, and_true, true_and, LIT, Int32.reduceLT, Int32.reduceLE, Int32.reduceToNatClampNeg]
    have := fg_loop (D := d) (by omega) K1 (l1 := nI i) j.1 j.2.1 (vN V 2) 0 0 none (by omega)
    exact ⟨M1, this, g88 h.2.2.2.1 f, K1⟩
theorem hd_loop {cl : Nat → List Value → ej_Mem → Option ej_R} {own : Nat → Nat} {V : View} {M : ej_Mem} (h : KC M own V) {x : Int32} : ∀ (n k : Nat) (acc : Int32), k + n = 24 → rn jm_Land_holdersOf cl 4 [some (.ref 68), some (.int x), some (.int acc), some (.int (nI k))] [] M = some (some (.int (hdA V x n k acc)), M)
  | 0, k, acc, hk => by
    rw [eq_Land_holdersOf_4, show (24 : Int32) = nI 24 from rfl, if_pos (nI_le (by omega) (by omega))]
    rfl
  | n + 1, k, acc, hk => by
    have hv := h.2.2.2.2.2.1
    have hH := hv.2.2.2.2.2.2.1 k (by omega)
    rw [eq_Land_holdersOf_4, show (24 : Int32) = nI 24 from rfl, if_neg (nI_ge (by omega) (by omega))]
    simp only [SW.all h.1, MR, ckk_T, deR_s, deQ_s, deQ_n, bkV_s, bkI_s, bkJ_s, bkQ_s, bkQ_n, ckb0, ckb1, ckb2, ckb3, eq_self, Nat.reduceEqDiff, Nat.reduceLeDiff, Nat.reduceLT, reduceIte, true_or, or_true, not_false_eq_true, not_true_eq_false, and_self, and_true, true_and, LIT, Int32.reduceLT, Int32.reduceLE, Int32.reduceToNatClampNeg]
    unfold hdA
    cases q : bI x k
    · rw [if_pos ((low_0 (by omega)).mpr q), nI_1, hd_loop h n (k + 1) acc (by omega), if_neg (by simp)]
    · rw [if_neg (fun z => by rw [(low_0 (by omega)).mp z] at q; cases q), ckb_n (by omega) (by decide), nI_clamp (by omega), ckb_n (by omega) (by decide), hH]
      by_cases q2 : vH V k = -1
      · rw [if_pos q2, nI_1, hd_loop h n (k + 1) acc (by omega), if_neg (fun z => z.2 q2)]
      · rw [if_neg q2, nI_1, hd_loop h n (k + 1) _ (by omega), if_pos ⟨rfl, q2⟩]
theorem p_holdersOf {D : Nat} (hD : 1 ≤ D) {own : Nat → Nat} {V : View} {M : ej_Mem} (h : KC M own V) (x : Int32) : cal D jm_Land_holdersOf [.ref 68, .int x] M = some (some (.int (hdA V x 24 0 0)), M) := by
  obtain ⟨d, rfl⟩ : ∃ d, D = d + 1 := ⟨D - 1, by omega⟩
  rw [ca_Land_holdersOf, eq_Land_holdersOf_0]
  exact hd_loop h 24 0 0 rfl
theorem c_claims {D : Nat} (hD : 8 ≤ D) {M : ej_Mem} {own : Nat → Nat} {V : View} (h : KC M own V) (r w : Int32) : ∃ M', cal D jm_Suit_claims [.ref 59, .int r, .int w] M = some (some (.int (a_claims V r w)), M') ∧ FrG (P7 own) M M' ∧ KC M' own V := by
  obtain ⟨d, rfl⟩ : ∃ d, D = d + 1 := ⟨D - 1, by omega⟩
  have h30 := h.2.2.2.2.2.2.1.2.2.2.1.1
  rw [ca_Suit_claims, eq_Suit_claims_0]
  simp only [SW.all h.1, MR, ckk_T, deR_s, deQ_s, deQ_n, bkV_s, bkI_s, bkJ_s, bkQ_s, bkQ_n, ckb0, ckb1, ckb2, ckb3, eq_self, Nat.reduceEqDiff, Nat.reduceLeDiff, Nat.reduceLT, reduceIte, true_or, or_true, not_false_eq_true, not_true_eq_false, and_self, and_true, true_and, LIT, Int32.reduceLT, Int32.reduceLE, Int32.reduceToNatClampNeg]
  unfold a_claims
  rcases inB_01 w with ⟨hb, q⟩ | ⟨hb, q1, q2⟩
  · rw [hb, Bool.and_false]
    refine ⟨M, ?_, FrG.refl _ M, h⟩
    rcases q with q | ⟨q1, q2⟩
    · rw [if_pos q]; rfl
    · rw [if_neg q1, if_pos q2]; rfl
  · rw [if_neg q1, if_neg q2, hb, Bool.and_true]
    rcases roll_cases h.2.2.2.2.2.2.1 r with hr | ⟨i, hi, rfl, hr⟩
    · rw [c_judgeNo (by omega) h hr, hr]
      exact ⟨M, rfl, FrG.refl _ M, h⟩
    · obtain ⟨M1, e, f, j⟩ := c_judge (by omega : 7 ≤ d) h hi
      have K1 := K88 h f
      rw [e, hr, if_pos rfl, nI_clamp (by omega)]
      simp only [SW.all K1.1, j.1, j.2.1, MR, ckk_T, deR_s, deQ_s, deQ_n, bkV_s, bkI_s, bkJ_s, bkQ_s, bkQ_n, ckb0, ckb1, ckb2, ckb3, eq_self, Nat.reduceEqDiff, Nat.reduceLeDiff, Nat.reduceLT, reduceIte, true_or, or_true, not_false_eq_true, not_true_eq_false, and_self, and_true, true_and, LIT, Int32.reduceLT, Int32.reduceLE, Int32.reduceToNatClampNeg]
      refine ⟨M1, ?_, g88 h.2.2.2.1 f, K1⟩
      by_cases q : w = 0
      · rw [if_pos q, if_pos q, p_holdersOf (by omega) K1]; rfl
      · rw [if_neg q, if_neg q, p_holdersOf (by omega) K1]; rfl
def a_risk (V : View) (r k : Int32) : Int32 := if (hasB (vRn V) r && hasB (jud V (vF V) r.toNatClampNeg 24).1 k) = true then tTu (vT V 0 ((vR V r.toNatClampNeg).2.2.getD k.toNatClampNeg 0)) (jud V (vF V) r.toNatClampNeg k.toNatClampNeg).2.1 else -1
theorem jud_le {V : View} {fc : Int32} {r mo : Nat} : (jud V fc r mo).1 ≤ ((vR V r).2.2.take mo).length := by
  have := (jdA_le (V := V) (gi := (vR V r).1) (y := (vR V r).2.1) (fc := fc) ((vR V r).2.2.take mo) (0, tGv (vT V 1 (vR V r).1), 0, 0)).2
  simp only [Nat.zero_add] at this
  exact this
theorem c_risk {D : Nat} (hD : 8 ≤ D) {M : ej_Mem} {own : Nat → Nat} {V : View} (h : KC M own V) (r k : Int32) : ∃ M', cal D jm_Suit_risk [.ref 59, .int r, .int k] M = some (some (.int (a_risk V r k)), M') ∧ FrG (P7 own) M M' ∧ KC M' own V := by
  obtain ⟨d, rfl⟩ : ∃ d, D = d + 1 := ⟨D - 1, by omega⟩
  have hV := h.2.2.2.2.2.2.1
  have h30 := hV.2.2.2.1.1
  rw [ca_Suit_risk, eq_Suit_risk_0]
  simp only [SW.all h.1, MR, ckk_T, deR_s, deQ_s, deQ_n, bkV_s, bkI_s, bkJ_s, bkQ_s, bkQ_n, ckb0, ckb1, ckb2, ckb3, eq_self, Nat.reduceEqDiff, Nat.reduceLeDiff, Nat.reduceLT, reduceIte, true_or, or_true, not_false_eq_true, not_true_eq_false, and_self, and_true, true_and, LIT, Int32.reduceLT, Int32.reduceLE, Int32.reduceToNatClampNeg]
  unfold a_risk
  by_cases q : k < 0
  · have : ∀ n, hasB n k = false := fun n => decide_eq_false (fun z => absurd q (Int32.not_lt.mpr z.1))
    rw [if_pos q, this, Bool.and_false]
    exact ⟨M, rfl, FrG.refl _ M, h⟩
  · rw [if_neg q]
    rcases roll_cases hV r with hr | ⟨i, hi, rfl, hr⟩
    · rw [c_judgeNo (by omega) h hr, hr]
      exact ⟨M, rfl, FrG.refl _ M, h⟩
    · obtain ⟨M1, e, f, j⟩ := c_judge (by omega : 7 ≤ d) h hi
      have K1 := K88 h f
      have h24 := (hV.2.2.2.1.2 i hi).2.1
      have hj := jud_le (V := V) (fc := vF V) (r := i) (mo := 24)
      rw [List.length_take] at hj
      rw [e, hr, Bool.true_and, nI_clamp (by omega)]
      simp only [SW.all K1.1, j.2.2.1, K1.2.2.2.2.2.1.2.2.2.2.2.1, MR, ckk_T, deR_s, deQ_s, deQ_n, bkV_s, bkI_s, bkJ_s, bkQ_s, bkQ_n, ckb0, ckb1, ckb2, ckb3, eq_self, Nat.reduceEqDiff, Nat.reduceLeDiff, Nat.reduceLT, reduceIte, true_or, or_true, not_false_eq_true, not_true_eq_false, and_self, and_true, true_and, LIT, Int32.reduceLT, Int32.reduceLE, Int32.reduceToNatClampNeg]
      cases hk : hasB (jud V (vF V) i 24).1 k
      · rw [if_neg (fun z => by rw [show hasB (jud V (vF V) i 24).1 k = true from decide_eq_true ⟨Int32.not_lt.mp q, z⟩] at hk; cases hk)]
        exact ⟨M1, rfl, g88 h.2.2.2.1 f, K1⟩
      · obtain ⟨kn, hkn, rfl⟩ := (hasB_iff (by omega)).mp hk
        obtain ⟨M2, e2, f2, j2⟩ := p_judgRun (by omega : 6 ≤ d) K1 (fc := vF V) hi (show kn ≤ 4000 by omega)
        have K2 := K88 K1 f2
        have hv := K2.2.2.2.2.2.1
        have hm : (vR V i).2.2.getD kn 0 < vN V 0 := (hV.2.2.2.1.2 i hi).2.2 _ (by simp [List.getD, show kn < (vR V i).2.2.length by omega])
        rw [if_pos (nI_lt (by omega) (by omega)), e2, if_pos rfl, nI_clamp (by omega)]
        simp only [SW.all K2.1, MR, ckk_T, deR_s, deQ_s, deQ_n, bkV_s, bkI_s, bkJ_s, bkQ_s, bkQ_n, ckb0, ckb1, ckb2, ckb3, eq_self, Nat.reduceEqDiff, Nat.reduceLeDiff, Nat.reduceLT, reduceIte, true_or, or_true, not_false_eq_true, not_true_eq_false, and_self, and_true, true_and, LIT, Int32.reduceLT, Int32.reduceLE, Int32.reduceToNatClampNeg]
        have hW := ((hv.2.1 0 (by decide)).2.2 _ (by rw [hv.2.2.1 0 (by decide)]; exact hm)).2
        rw [p_rollMove (by omega) K2 hi (by omega)]
        simp only [SW.all K2.1, MR, ckk_T, deR_s, deQ_s, deQ_n, bkV_s, bkI_s, bkJ_s, bkQ_s, bkQ_n, ckb0, ckb1, ckb2, ckb3, eq_self, Nat.reduceEqDiff, Nat.reduceLeDiff, Nat.reduceLT, reduceIte, true_or, or_true, not_false_eq_true, not_true_eq_false, and_self, and_true, true_and, LIT, Int32.reduceLT, Int32.reduceLE, Int32.reduceToNatClampNeg]
        rw [p_writ_s (by omega) K2.2.1 hv.1 hv.2.1 ks0 (by decide) (by rw [hv.2.2.1 0 (by decide)]; exact hm)]
        simp only [SW.all K2.1, j2.2.1, hW.1, MR, ckk_T, deR_s, deQ_s, deQ_n, bkV_s, bkI_s, bkJ_s, bkQ_s, bkQ_n, ckb0, ckb1, ckb2, ckb3, eq_self, Nat.reduceEqDiff, Nat.reduceLeDiff, Nat.reduceLT, reduceIte, true_or, or_true, not_false_eq_true, not_true_eq_false, and_self, and_true, true_and, LIT, Int32.reduceLT, Int32.reduceLE, Int32.reduceToNatClampNeg]
        rw [p_turnersC (by omega) hW, hv.txt (by decide) hm]
        exact ⟨M2, rfl, (g88 h.2.2.2.1 f).trans (g88 K1.2.2.2.1 f2), K2⟩
