theorem r_risk {D : Nat} (hD : 8 ≤ D) {M : ej_Mem} {V : View} {mk : Nat} (h : KR M V mk) (r k : Int32) : ∃ M', cal D jm_Ref_risk [.ref 90, .int r, .int k] M = some (some (.int (a_risk V r k)), M') ∧ FrG P8 M M' ∧ KR M' V mk := by
  obtain ⟨d, rfl⟩ : ∃ d, D = d + 1 := ⟨D - 1, by omega⟩
  have hV := h.2.2.1
  have h30 := hV.2.2.2.1.1
  have l0 := hV.le (show 0 < 4 by decide)
  rw [ca_Ref_risk, eq_Ref_risk_0]
  simp only [RW.all h.1, MR, ckk_T, deR_s, deQ_s, deQ_n, bkV_s, bkI_s, bkJ_s, bkQ_s, bkQ_n, ckb0, ckb1, ckb2, ckb3, eq_self, Nat.reduceEqDiff, Nat.reduceLeDiff, Nat.reduceLT, reduceIte, true_or, or_true, not_false_eq_true, not_true_eq_false, and_self, and_true, true_and, LIT, Int32.reduceLT, Int32.reduceLE, Int32.reduceToNatClampNeg]
  rw [p_isRoll (by omega) h]
  unfold a_risk
  rcases roll_cases hV r with hr | ⟨i, hi, rfl, hr⟩
  · rw [hr]
    exact ⟨M, rfl, FrG.refl _ M, h⟩
  · have h24 := (hV.2.2.2.1.2 i hi).2.1
    have hj := jud_le (V := V) (fc := vF V) (r := i) (mo := 24)
    rw [List.length_take] at hj
    rw [hr]
    simp only [RW.all h.1, MR, ckk_T, deR_s, deQ_s, deQ_n, bkV_s, bkI_s, bkJ_s, bkQ_s, bkQ_n, ckb0, ckb1, ckb2, ckb3, eq_self, Nat.reduceEqDiff, Nat.reduceLeDiff, Nat.reduceLT, reduceIte, true_or, or_true, not_false_eq_true, not_true_eq_false, and_self, and_true, true_and, LIT, Int32.reduceLT, Int32.reduceLE, Int32.reduceToNatClampNeg, b2i_t, Bool.true_and]
    have E := p_inI (by omega : 1 ≤ d) k 0 (nI (vR V i).2.2.length - 1) M
    rw [show Int32.toInt64 0 = 0 from by decide, inB_has (by omega)] at E
    rw [ckb_n (by omega) (by decide), nI_clamp (by omega), (h.rl hi).2.2.1, E]
    cases hk0 : hasB (vR V i).2.2.length k
    · have hk : hasB (jud V (vF V) i 24).1 k = false := by
        cases hk : hasB (jud V (vF V) i 24).1 k
        · rfl
        · obtain ⟨kn, hkn, rfl⟩ := (hasB_iff (by omega)).mp hk
          rw [(hasB_iff (by omega)).mpr ⟨kn, by omega, rfl⟩] at hk0
          cases hk0
      rw [hk]
      exact ⟨M, rfl, FrG.refl _ M, h⟩
    · obtain ⟨kn, hkn, rfl⟩ := (hasB_iff (by omega)).mp hk0
      simp only [RW.all h.1, MR, ckk_T, deR_s, deQ_s, deQ_n, bkV_s, bkI_s, bkJ_s, bkQ_s, bkQ_n, ckb0, ckb1, ckb2, ckb3, eq_self, Nat.reduceEqDiff, Nat.reduceLeDiff, Nat.reduceLT, reduceIte, true_or, or_true, not_false_eq_true, not_true_eq_false, and_self, and_true, true_and, LIT, Int32.reduceLT, Int32.reduceLE, Int32.reduceToNatClampNeg, b2i_t]
      rw [ckb_n (by omega) (by decide), (h.rl hi).2.2.1]
      obtain ⟨M1, e, f, j⟩ := r_judges (by omega : 6 ≤ d) h hi (Nat.le_refl _)
      rw [take_all hV hi] at j
      have K1 := h.f52 f
      rw [e]
      simp only [RW.all K1.1, j.1, j.2, MR, ckk_T, deR_s, deQ_s, deQ_n, bkV_s, bkI_s, bkJ_s, bkQ_s, bkQ_n, ckb0, ckb1, ckb2, ckb3, eq_self, Nat.reduceEqDiff, Nat.reduceLeDiff, Nat.reduceLT, reduceIte, true_or, or_true, not_false_eq_true, not_true_eq_false, and_self, and_true, true_and, LIT, Int32.reduceLT, Int32.reduceLE, Int32.reduceToNatClampNeg]
      by_cases q : kn < (jud V (vF V) i 24).1
      · rw [if_pos (nI_lt q (by omega)), (hasB_iff (by omega)).mpr ⟨kn, q, rfl⟩, if_pos rfl, nI_clamp (by omega)]
        obtain ⟨M2, e2, f2, j2⟩ := r_judges (by omega : 6 ≤ d) K1 hi (mo := kn) (by omega)
        have K2 := K1.f52 f2
        have hm : (vR V i).2.2.getD kn 0 < vN V 0 := (hV.2.2.2.1.2 i hi).2.2 _ (by simp [List.getD, show kn < (vR V i).2.2.length by omega])
        rw [e2]
        simp only [RW.all K2.1, j2.2, MR, ckk_T, deR_s, deQ_s, deQ_n, bkV_s, bkI_s, bkJ_s, bkQ_s, bkQ_n, ckb0, ckb1, ckb2, ckb3, eq_self, Nat.reduceEqDiff, Nat.reduceLeDiff, Nat.reduceLT, reduceIte, true_or, or_true, not_false_eq_true, not_true_eq_false, and_self, and_true, true_and, LIT, Int32.reduceLT, Int32.reduceLE, Int32.reduceToNatClampNeg]
        have ei : 24 * nI i + nI kn = nI (24 * i + kn) := by
          rw [show (24 : Int32) = nI 24 from rfl, pk_mul, nI_add]
        obtain ⟨g', e3⟩ := (p_turns (by omega : 4 ≤ d) K2.1 (show (vR V i).2.2.getD kn 0 < 40 by omega) (K2.sl0 hm) (jud V (vF V) i kn).2.1).self
        rw [ei, ckb_n (by omega) (by decide), nI_clamp (by omega), (K2.rl hi).2.2.2 _ hkn, e3]
        have : rTurn (aI M2) ((vR V i).2.2.getD kn 0) = tTu (vT V 0 ((vR V i).2.2.getD kn 0)) := by rw [← K2.2.1.2.2.1 0 (by decide) _ hm]; rfl
        rw [this]
        exact ⟨setF M2 104 g', rfl, (g52 (f.trans f2)).trans (g104 M2 g'), K2.f104 g'⟩
      · rw [if_neg (fun z => by
          have : hasB (jud V (vF V) i 24).1 (nI kn) = true := decide_eq_true ⟨nI_pos' (by omega), z⟩
          obtain ⟨x, hx, ex⟩ := (hasB_iff (by omega)).mp this
          have := (nI_eq (a := kn) (b := x) (by omega) (by omega)).mp ex
          omega)]
        have : hasB (jud V (vF V) i 24).1 (nI kn) = false := by
          cases hk : hasB (jud V (vF V) i 24).1 (nI kn)
          · rfl
          · obtain ⟨x, hx, ex⟩ := (hasB_iff (by omega)).mp hk
            have := (nI_eq (a := kn) (b := x) (by omega) (by omega)).mp ex
            omega
        rw [this]
        exact ⟨M1, rfl, g52 f, K1⟩
theorem jdA_sum {V : View} {gi : Nat} {y fc : Int32} : ∀ (l : List Nat) (a : JD), (jdA V gi y fc l a).2.2.1 = (l.take ((jdA V gi y fc l a).1 - a.1)).foldl (fun acc m => acc + tFe (vT V 0 m)) a.2.2.1 ∧ (jdA V gi y fc l a).2.2.2 = (l.take ((jdA V gi y fc l a).1 - a.1)).foldl (fun acc m => acc + tDy (vT V 0 m)) a.2.2.2
  | [], a => ⟨by simp [jdA], by simp [jdA]⟩
  | m :: r, a => by
    unfold jdA
    cases hn : nxV V gi fc (fun m _ => vOp V y m) m a.2.1 with
    | none => simp
    | some t =>
      have ih := jdA_sum (V := V) (gi := gi) (y := y) (fc := fc) r (a.1 + 1, t, a.2.2.1 + tFe (vT V 0 m), a.2.2.2 + tDy (vT V 0 m))
      have le := (jdA_le (V := V) (gi := gi) (y := y) (fc := fc) r (a.1 + 1, t, a.2.2.1 + tFe (vT V 0 m), a.2.2.2 + tDy (vT V 0 m))).1
      simp only at ih le ⊢
      generalize jdA V gi y fc r (a.1 + 1, t, a.2.2.1 + tFe (vT V 0 m), a.2.2.2 + tDy (vT V 0 m)) = J at ih le ⊢
      rw [show J.1 - a.1 = (J.1 - (a.1 + 1)) + 1 by omega, List.take_succ_cons, List.foldl_cons, List.foldl_cons]
      exact ih
def cst (V : View) (w : Int32) (m : Nat) : Int32 := if w = 0 then tFe (vT V 0 m) else tDy (vT V 0 m)
theorem p_costOf {D : Nat} (hD : 2 ≤ D) {M : ej_Mem} {V : View} {mk : Nat} (h : KR M V mk) {m : Nat} (hm : m < vN V 0) (w : Int32) : cal D jm_Ref_costOf [.ref 90, .int (nI m), .int w] M = some (some (.int (cst V w m)), M) := by
  obtain ⟨d, rfl⟩ : ∃ d, D = d + 1 := ⟨D - 1, by omega⟩
  have l0 := h.2.2.1.le (show 0 < 4 by decide)
  have t := h.2.1.2.2.1 0 (by decide) m hm
  rw [ca_Ref_costOf, eq_Ref_costOf_0]
  simp only [RW.all h.1, MR, ckk_T, deR_s, deQ_s, deQ_n, bkV_s, bkI_s, bkJ_s, bkQ_s, bkQ_n, ckb0, ckb1, ckb2, ckb3, eq_self, Nat.reduceEqDiff, Nat.reduceLeDiff, Nat.reduceLT, reduceIte, true_or, or_true, not_false_eq_true, not_true_eq_false, and_self, and_true, true_and, LIT, Int32.reduceLT, Int32.reduceLE, Int32.reduceToNatClampNeg]
  have E := fun k => p_union (by omega : 1 ≤ d) h.1 (show m < 72 by omega) (h.sl0 hm) k (aI M 104)
  rw [setF_self] at E
  rw [E, E]
  unfold cst
  rw [← t]
  by_cases q : w = 0
  · rw [if_pos q, if_pos q]; rfl
  · rw [if_neg q, if_neg q]; rfl
theorem rcs_loop {D : Nat} (hD : 2 ≤ D) {M : ej_Mem} {V : View} {mk r N : Nat} (h : KR M V mk) (hr : r < vRn V) (w : Int32) (hN : mI M 90 52 = nI N) (hN2 : N ≤ (vR V r).2.2.length) : ∀ (n k : Nat) (acc : Int32), k + n = N → rn jm_Ref_costs (cal D) 36 [some (.ref 90), some (.int (nI r)), some (.int w), some (.int acc), some (.int (nI k))] [] M = some (some (.int ((((vR V r).2.2.drop k).take n).foldl (fun acc m => acc + cst V w m) acc)), M)
  | 0, k, acc, hk => by
    have h24 := (h.2.2.1.2.2.2.1.2 r hr).2.1
    rw [eq_Ref_costs_36]
    simp only [RW.all h.1, hN, MR, ckk_T, deR_s, deQ_s, deQ_n, bkV_s, bkI_s, bkJ_s, bkQ_s, bkQ_n, ckb0, ckb1, ckb2, ckb3, eq_self, Nat.reduceEqDiff, Nat.reduceLeDiff, Nat.reduceLT, reduceIte, true_or, or_true, not_false_eq_true, not_true_eq_false, and_self, and_true, true_and, LIT, Int32.reduceLT, Int32.reduceLE, Int32.reduceToNatClampNeg]
    rw [if_pos (nI_le (by omega) (by omega))]
    rfl
  | n + 1, k, acc, hk => by
    have hV := h.2.2.1
    have h30 := hV.2.2.2.1.1
    have h24 := (hV.2.2.2.1.2 r hr).2.1
    have hm : (vR V r).2.2.getD k 0 < vN V 0 := (hV.2.2.2.1.2 r hr).2.2 _ (by simp [List.getD, show k < (vR V r).2.2.length by omega])
    rw [eq_Ref_costs_36]
    simp only [RW.all h.1, hN, MR, ckk_T, deR_s, deQ_s, deQ_n, bkV_s, bkI_s, bkJ_s, bkQ_s, bkQ_n, ckb0, ckb1, ckb2, ckb3, eq_self, Nat.reduceEqDiff, Nat.reduceLeDiff, Nat.reduceLT, reduceIte, true_or, or_true, not_false_eq_true, not_true_eq_false, and_self, and_true, true_and, LIT, Int32.reduceLT, Int32.reduceLE, Int32.reduceToNatClampNeg]
    have ei : 24 * nI r + nI k = nI (24 * r + k) := by
      rw [show (24 : Int32) = nI 24 from rfl, pk_mul, nI_add]
    rw [if_neg (nI_ge (by omega) (by omega)), ei, ckb_n (by omega) (by decide), nI_clamp (by omega), (h.rl hr).2.2.2 _ (by omega), p_costOf hD h hm]
    simp only [RW.all h.1, MR, ckk_T, deR_s, deQ_s, deQ_n, bkV_s, bkI_s, bkJ_s, bkQ_s, bkQ_n, ckb0, ckb1, ckb2, ckb3, eq_self, Nat.reduceEqDiff, Nat.reduceLeDiff, Nat.reduceLT, reduceIte, true_or, or_true, not_false_eq_true, not_true_eq_false, and_self, and_true, true_and, LIT, Int32.reduceLT, Int32.reduceLE, Int32.reduceToNatClampNeg]
    rw [nI_1, rcs_loop hD h hr w hN hN2 n (k + 1) _ (by omega)]
    rw [List.drop_eq_getElem_cons (show k < (vR V r).2.2.length by omega), List.take_succ_cons, List.foldl_cons]
    have : (vR V r).2.2.getD k 0 = (vR V r).2.2[k]'(by omega) := by simp [List.getD, show k < (vR V r).2.2.length by omega]
    rw [this]
theorem r_costs {D : Nat} (hD : 8 ≤ D) {M : ej_Mem} {V : View} {mk : Nat} (h : KR M V mk) (r w : Int32) : ∃ M', cal D jm_Ref_costs [.ref 90, .int r, .int w] M = some (some (.int (a_costs V r w)), M') ∧ FrG P8 M M' ∧ KR M' V mk := by
  obtain ⟨d, rfl⟩ : ∃ d, D = d + 1 := ⟨D - 1, by omega⟩
  have hV := h.2.2.1
  have h30 := hV.2.2.2.1.1
  rw [ca_Ref_costs, eq_Ref_costs_0]
  simp only [RW.all h.1, MR, ckk_T, deR_s, deQ_s, deQ_n, bkV_s, bkI_s, bkJ_s, bkQ_s, bkQ_n, ckb0, ckb1, ckb2, ckb3, eq_self, Nat.reduceEqDiff, Nat.reduceLeDiff, Nat.reduceLT, reduceIte, true_or, or_true, not_false_eq_true, not_true_eq_false, and_self, and_true, true_and, LIT, Int32.reduceLT, Int32.reduceLE, Int32.reduceToNatClampNeg]
  rw [p_isRoll (by omega) h]
  unfold a_costs
  rcases roll_cases h.2.2.1 r with hr | ⟨i, hi, rfl, hr⟩
  · rw [hr]
    exact ⟨M, rfl, FrG.refl _ M, h⟩
  · rw [hr]
    simp only [RW.all h.1, MR, ckk_T, deR_s, deQ_s, deQ_n, bkV_s, bkI_s, bkJ_s, bkQ_s, bkQ_n, ckb0, ckb1, ckb2, ckb3, eq_self, Nat.reduceEqDiff, Nat.reduceLeDiff, Nat.reduceLT, reduceIte, true_or, or_true, not_false_eq_true, not_true_eq_false, and_self, and_true, true_and, LIT, Int32.reduceLT, Int32.reduceLE, Int32.reduceToNatClampNeg, b2i_t]
    rw [in01 (by omega)]
    cases hw : inB w 0 1
    · exact ⟨M, rfl, FrG.refl _ M, h⟩
    · simp only [RW.all h.1, MR, ckk_T, deR_s, deQ_s, deQ_n, bkV_s, bkI_s, bkJ_s, bkQ_s, bkQ_n, ckb0, ckb1, ckb2, ckb3, eq_self, Nat.reduceEqDiff, Nat.reduceLeDiff, Nat.reduceLT, reduceIte, true_or, or_true, not_false_eq_true, not_true_eq_false, and_self, and_true, true_and, LIT, Int32.reduceLT, Int32.reduceLE, Int32.reduceToNatClampNeg, b2i_t, Bool.and_self]
      rw [ckb_n (by omega) (by decide), nI_clamp (by omega), (h.rl hi).2.2.1]
      obtain ⟨M1, e, f, j⟩ := r_judges (by omega : 6 ≤ d) h hi (Nat.le_refl _)
      have h24 := (hV.2.2.2.1.2 i hi).2.1
      have hj := jud_le (V := V) (fc := vF V) (r := i) (mo := 24)
      rw [List.length_take] at hj
      rw [take_all h.2.2.1 hi] at j
      have K1 := h.f52 f
      rw [e]
      have L := rcs_loop (D := d) (by omega) K1 hi w j.1 (by omega) _ 0 0 (Nat.zero_add _)
      refine ⟨M1, L.trans ?_, g52 f, K1⟩
      have S := jdA_sum (V := V) (gi := (vR V i).1) (y := (vR V i).2.1) (fc := vF V) ((vR V i).2.2.take 24) (0, tGv (vT V 1 (vR V i).1), 0, 0)
      rw [List.take_of_length_le h24] at S
      have eJ : jdA V (vR V i).1 (vR V i).2.1 (vF V) (vR V i).2.2 (0, tGv (vT V 1 (vR V i).1), 0, 0) = jud V (vF V) i 24 := by
        unfold jud
        rw [List.take_of_length_le h24]
      rw [eJ] at S
      simp only [Nat.sub_zero] at S
      rw [List.drop_zero]
      unfold cst
      by_cases q : w = 0
      · simp only [if_pos q]; rw [S.1]
      · simp only [if_neg q]; rw [S.2]
/-- all the rolls of a row of bits stand -/
def cnA (V : View) (x : Int32) : Nat → Nat → Bool → Bool
  | 0, _, b => b
  | n + 1, k, b => cnA V x n (k + 1) (b && (!bI x k || decide ((jud V (vF V) k 24).1 = (vR V k).2.2.length)))
theorem cnA_f {V : View} {x : Int32} : ∀ n k, cnA V x n k false = false
  | 0, _ => rfl
  | n + 1, k => by unfold cnA; rw [Bool.false_and]; exact cnA_f n (k + 1)
theorem rcn_loop {D : Nat} (hD : 6 ≤ D) {V : View} {mk : Nat} {x : Int32} : ∀ (n k : Nat) (b : Bool) (M : ej_Mem), KR M V mk → k + n = vRn V → ∃ M', rn jm_Ref_canAll (cal D) 4 [some (.ref 90), some (.int x), some (.int (b2i b)), some (.int (nI k))] [] M = some (some (.int (b2i (cnA V x n k b))), M') ∧ Fr P52 M M'
  | 0, k, b, M, h, hk => by
    have h30 := h.2.2.1.2.2.2.1.1
    have hf : mI M 90 47 = nI (vRn V) := h.2.1.2.2.2.2.2.2.1.1
    rw [eq_Ref_canAll_4]
    simp only [RW.all h.1, hf, MR, ckk_T, deR_s, deQ_s, deQ_n, bkV_s, bkI_s, bkJ_s, bkQ_s, bkQ_n, ckb0, ckb1, ckb2, ckb3, eq_self, Nat.reduceEqDiff, Nat.reduceLeDiff, Nat.reduceLT, reduceIte, true_or, or_true, not_false_eq_true, not_true_eq_false, and_self, and_true, true_and, LIT, Int32.reduceLT, Int32.reduceLE, Int32.reduceToNatClampNeg]
    rw [if_pos (nI_le (by omega) (by omega)), ckk_t (b2i_01 b)]
    exact ⟨M, rfl, Fr.refl _ M⟩
  | n + 1, k, b, M, h, hk => by
    have hV := h.2.2.1
    have h30 := hV.2.2.2.1.1
    have hf : mI M 90 47 = nI (vRn V) := h.2.1.2.2.2.2.2.2.1.1
    have hr : k < vRn V := by omega
    have h24 := (hV.2.2.2.1.2 k hr).2.1
    have hj := jud_le (V := V) (fc := vF V) (r := k) (mo := 24)
    rw [List.length_take] at hj
    rw [eq_Ref_canAll_4]
    simp only [RW.all h.1, hf, MR, ckk_T, deR_s, deQ_s, deQ_n, bkV_s, bkI_s, bkJ_s, bkQ_s, bkQ_n, ckb0, ckb1, ckb2, ckb3, eq_self, Nat.reduceEqDiff, Nat.reduceLeDiff, Nat.reduceLT, reduceIte, true_or, or_true, not_false_eq_true, not_true_eq_false, and_self, and_true, true_and, LIT, Int32.reduceLT, Int32.reduceLE, Int32.reduceToNatClampNeg]
    rw [if_neg (nI_ge (by omega) (by omega))]
    cases b with
    | false =>
      rw [cnA_f]
      exact ⟨M, rfl, Fr.refl _ M⟩
    | true =>
      rw [if_neg (by decide)]
      unfold cnA
      cases q : bI x k
      · rw [if_neg (fun z => by rw [(low_1 (by omega)).mp z] at q; cases q), nI_1]
        exact rcn_loop hD n (k + 1) true M h (by omega)
      · obtain ⟨M1, e, f, j⟩ := r_judges (by omega : 6 ≤ D) h hr (Nat.le_refl _)
        rw [take_all h.2.2.1 hr] at j
        have K1 := h.f52 f
        rw [if_pos ((low_1 (by omega)).mpr q), ckb_n (by omega) (by decide), nI_clamp (by omega), (h.rl hr).2.2.1, e]
        simp only [RW.all K1.1, j.1, MR, ckk_T, deR_s, deQ_s, deQ_n, bkV_s, bkI_s, bkJ_s, bkQ_s, bkQ_n, ckb0, ckb1, ckb2, ckb3, eq_self, Nat.reduceEqDiff, Nat.reduceLeDiff, Nat.reduceLT, reduceIte, true_or, or_true, not_false_eq_true, not_true_eq_false, and_self, and_true, true_and, LIT, Int32.reduceLT, Int32.reduceLE, Int32.reduceToNatClampNeg, nI_1]
        rw [ckb_n (by omega) (by decide), (K1.rl hr).2.2.1]
        by_cases q3 : (jud V (vF V) k 24).1 = (vR V k).2.2.length
        · rw [if_pos (by rw [q3]), decide_eq_true q3]
          obtain ⟨M2, e2, f2⟩ := rcn_loop hD (x := x) n (k + 1) true M1 K1 (by omega)
          exact ⟨M2, e2, f.trans f2⟩
        · rw [if_neg (fun z => q3 ((nI_eq (by omega) (by omega)).mp z)), decide_eq_false q3]
          obtain ⟨M2, e2, f2⟩ := rcn_loop hD (x := x) n (k + 1) false M1 K1 (by omega)
          exact ⟨M2, e2, f.trans f2⟩
theorem p_canAll {D : Nat} (hD : 7 ≤ D) {M : ej_Mem} {V : View} {mk : Nat} (h : KR M V mk) (x : Int32) : ∃ M', cal D jm_Ref_canAll [.ref 90, .int x] M = some (some (.int (b2i (cnA V x (vRn V) 0 true))), M') ∧ Fr P52 M M' := by
  obtain ⟨d, rfl⟩ : ∃ d, D = d + 1 := ⟨D - 1, by omega⟩
  rw [ca_Ref_canAll, eq_Ref_canAll_0]
  exact rcn_loop (D := d) (by omega) (vRn V) 0 true M h (by omega)
