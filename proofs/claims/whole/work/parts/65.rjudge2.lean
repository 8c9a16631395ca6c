theorem r_judges {D : Nat} (hD : 6 ≤ D) {M : ej_Mem} {V : View} {mk : Nat} (h : KR M V mk) {r mo : Nat} (hr : r < vRn V) (hmo : mo ≤ (vR V r).2.2.length) : ∃ M', cal D jm_Ref_judges [.ref 90, .int (nI r), .int (nI mo)] M = some (none, M') ∧ Fr P52 M M' ∧ mI M' 90 52 = nI (jud V (vF V) r mo).1 ∧ mI M' 90 53 = (jud V (vF V) r mo).2.1 := by
  obtain ⟨d, rfl⟩ : ∃ d, D = d + 1 := ⟨D - 1, by omega⟩
  have hV := h.2.2.1
  have h30 := hV.2.2.2.1.1
  have hg := (hV.2.2.2.1.2 r hr).1
  have l1 := hV.1 1 (by decide)
  have m1 : mst 1 = 8 := rfl
  rw [ca_Ref_judges, eq_Ref_judges_0]
  simp only [RW.all h.1, MR, ckk_T, deR_s, deQ_s, deQ_n, bkV_s, bkI_s, bkJ_s, bkQ_s, bkQ_n, ckb0, ckb1, ckb2, ckb3, eq_self, Nat.reduceEqDiff, Nat.reduceLeDiff, Nat.reduceLT, reduceIte, true_or, or_true, not_false_eq_true, not_true_eq_false, and_self, and_true, true_and, LIT, Int32.reduceLT, Int32.reduceLE, Int32.reduceToNatClampNeg]
  have E := p_firstOf (by omega : 2 ≤ d) h.1 (show (vR V r).1 < 8 by omega) (h.sl (show 1 < 4 by decide) hg) (aI M 104)
  rw [setF_self] at E
  rw [ckb_n (by omega) (by decide), nI_clamp (by omega), (h.rl hr).1, E, first_v h.2.1 hg]
  simp only [RW.all h.1, MR, ckk_T, deR_s, deQ_s, deQ_n, bkV_s, bkI_s, bkJ_s, bkQ_s, bkQ_n, ckb0, ckb1, ckb2, ckb3, eq_self, Nat.reduceEqDiff, Nat.reduceLeDiff, Nat.reduceLT, reduceIte, true_or, or_true, not_false_eq_true, not_true_eq_false, and_self, and_true, true_and, LIT, Int32.reduceLT, Int32.reduceLE, Int32.reduceToNatClampNeg]
  generalize hM1 : setI (setI M 90 53 (tGv (vT V 1 (vR V r).1))) 90 52 0 = M1
  have f1 : Fr P52 M M1 := by
    rw [← hM1]
    exact (Fr.setI (P := P52) _ _ (Or.inr ⟨rfl, by omega, by omega⟩)).trans (Fr.setI (P := P52) _ _ (Or.inr ⟨rfl, by omega, by omega⟩))
  obtain ⟨M2, e2, f2, r2⟩ := judges_loop (D := d) (by omega) hr hmo ((vR V r).2.2.take mo) (0, tGv (vT V 1 (vR V r).1), 0, 0) M1 (by rw [List.drop_zero]) (Nat.zero_le _) (h.f52 f1) (by rw [← hM1, gI_s]; rfl) (by rw [← hM1, gI_n (by omega), gI_s])
  exact ⟨M2, e2, f1.trans f2, r2⟩
theorem p_isRoll {D : Nat} (hD : 2 ≤ D) {M : ej_Mem} {V : View} {mk : Nat} (h : KR M V mk) (r : Int32) : cal D jm_Ref_isRoll [.ref 90, .int r] M = some (some (.int (b2i (hasB (vRn V) r))), M) := by
  obtain ⟨d, rfl⟩ : ∃ d, D = d + 1 := ⟨D - 1, by omega⟩
  have h30 := h.2.2.1.2.2.2.1.1
  rw [ca_Ref_isRoll, eq_Ref_isRoll_0]
  have hf : mI M 90 47 = nI (vRn V) := h.2.1.2.2.2.2.2.2.1.1
  simp only [RW.all h.1, hf, MR, ckk_T, deR_s, deQ_s, deQ_n, bkV_s, bkI_s, bkJ_s, bkQ_s, bkQ_n, ckb0, ckb1, ckb2, ckb3, eq_self, Nat.reduceEqDiff, Nat.reduceLeDiff, Nat.reduceLT, reduceIte, true_or, or_true, not_false_eq_true, not_true_eq_false, and_self, and_true, true_and, LIT, Int32.reduceLT, Int32.reduceLE, Int32.reduceToNatClampNeg]
  have E := p_inI (by omega : 1 ≤ d) r 0 (nI (vRn V) - 1) M
  rw [show Int32.toInt64 0 = 0 from by decide, inB_has (by omega)] at E
  rw [E]
  cases hasB (vRn V) r <;> rfl
theorem take_all {V : View} (hV : VOK V) {r : Nat} (hr : r < vRn V) (fc : Int32) : jud V fc r (vR V r).2.2.length = jud V fc r 24 := by
  have h24 := (hV.2.2.2.1.2 r hr).2.1
  unfold jud
  rw [List.take_of_length_le (Nat.le_refl _), List.take_of_length_le h24]
theorem in01 {D : Nat} (hD : 1 ≤ D) (w : Int32) (M : ej_Mem) : cal D jm_Ref_in [.long w.toInt64, .long 0, .long 1] M = some (some (.int (b2i (inB w 0 1))), M) := by
  have E := p_inI hD w 0 1 M
  rw [show Int32.toInt64 0 = 0 from by decide, show Int32.toInt64 1 = 1 from by decide] at E
  exact E
theorem r_judged {D : Nat} (hD : 8 ≤ D) {M : ej_Mem} {V : View} {mk : Nat} (h : KR M V mk) (r w : Int32) : ∃ M', cal D jm_Ref_judged [.ref 90, .int r, .int w] M = some (some (.int (a_judged V r w)), M') ∧ FrG P8 M M' ∧ KR M' V mk := by
  obtain ⟨d, rfl⟩ : ∃ d, D = d + 1 := ⟨D - 1, by omega⟩
  have h30 := h.2.2.1.2.2.2.1.1
  rw [ca_Ref_judged, eq_Ref_judged_0]
  simp only [RW.all h.1, MR, ckk_T, deR_s, deQ_s, deQ_n, bkV_s, bkI_s, bkJ_s, bkQ_s, bkQ_n, ckb0, ckb1, ckb2, ckb3, eq_self, Nat.reduceEqDiff, Nat.reduceLeDiff, Nat.reduceLT, reduceIte, true_or, or_true, not_false_eq_true, not_true_eq_false, and_self, and_true, true_and, LIT, Int32.reduceLT, Int32.reduceLE, Int32.reduceToNatClampNeg]
  rw [p_isRoll (by omega) h]
  unfold a_judged
  rcases roll_cases h.2.2.1 r with hr | ⟨i, hi, rfl, hr⟩
  · rw [hr]
    exact ⟨M, rfl, FrG.refl _ M, h⟩
  · rw [hr]
    simp only [RW.all h.1, MR, ckk_T, deR_s, deQ_s, deQ_n, bkV_s, bkI_s, bkJ_s, bkQ_s, bkQ_n, ckb0, ckb1, ckb2, ckb3, eq_self, Nat.reduceEqDiff, Nat.reduceLeDiff, Nat.reduceLT, reduceIte, true_or, or_true, not_false_eq_true, not_true_eq_false, and_self, and_true, true_and, LIT, Int32.reduceLT, Int32.reduceLE, Int32.reduceToNatClampNeg, b2i_t]
    rw [in01 (by omega)]
    cases hw : inB w 0 1
    · exact ⟨M, rfl, FrG.refl _ M, h⟩
    · simp only [RW.all h.1, MR, ckk_T, deR_s, deQ_s, deQ_n, bkV_s, bkI_s, bkJ_s, bkQ_s, bkQ_n, ckb0, ckb1, ckb2, ckb3, eq_self, Nat.reduceEqDiff, Nat.reduceLeDiff, Nat.reduceLT, reduceIte, true_or, or_true, not_false_eq_true, not_true_eq_false, and_self, and_true, true_and, LIT, Int32.reduceLT, Int32.reduceLE, Int32.reduceToNatClampNeg, b2i_t]
      rw [ckb_n (by omega) (by decide), nI_clamp (by omega), (h.rl hi).2.2.1]
      obtain ⟨M1, e, f, j⟩ := r_judges (by omega : 6 ≤ d) h hi (Nat.le_refl _)
      rw [take_all h.2.2.1 hi] at j
      have K1 := h.f52 f
      rw [e]
      simp only [RW.all K1.1, j.1, j.2, MR, ckk_T, deR_s, deQ_s, deQ_n, bkV_s, bkI_s, bkJ_s, bkQ_s, bkQ_n, ckb0, ckb1, ckb2, ckb3, eq_self, Nat.reduceEqDiff, Nat.reduceLeDiff, Nat.reduceLT, reduceIte, true_or, or_true, not_false_eq_true, not_true_eq_false, and_self, and_true, true_and, LIT, Int32.reduceLT, Int32.reduceLE, Int32.reduceToNatClampNeg]
      refine ⟨M1, ?_, g52 f, K1⟩
      by_cases q : w = 0
      · rw [if_pos q, if_pos q]; rfl
      · rw [if_neg q, if_neg q]; rfl
theorem or_0 (x : Int32) : x ||| 0 = x := by
  apply Int32.toBitVec_inj.mp
  rw [Int32.toBitVec_or]
  exact BitVec.or_zero
theorem rfg_loop {D : Nat} (hD : 4 ≤ D) {V : View} {mk r : Nat} (hr : r < vRn V) {b : Int32} : ∀ (n k : Nat) (acc : Int32) (M : ej_Mem), KR M V mk → mI M 90 53 = b → k + n = vN V 2 → ∃ M', rn jm_Ref_feigned (cal D) 25 [some (.ref 90), some (.int (nI r)), some (.int acc), some (.int (nI k))] [] M = some (some (.int (fgA V (tGv (vT V 1 (vR V r).1)) b n k acc)), M') ∧ Fr P52 M M'
  | 0, k, acc, M, h, hb, hk => by
    have l2 := h.2.2.1.le (show 2 < 4 by decide)
    rw [eq_Ref_feigned_25]
    simp only [RW.all h.1, MR, ckk_T, deR_s, deQ_s, deQ_n, bkV_s, bkI_s, bkJ_s, bkQ_s, bkQ_n, ckb0, ckb1, ckb2, ckb3, eq_self, Nat.reduceEqDiff, Nat.reduceLeDiff, Nat.reduceLT, reduceIte, true_or, or_true, not_false_eq_true, not_true_eq_false, and_self, and_true, true_and, LIT, Int32.reduceLT, Int32.reduceLE, Int32.reduceToNatClampNeg]
    rw [show aI M 92 2 = nI (vN V 2) from by rw [← h.2.1.2.1 2 (by decide)]; exact (h.2.1.1 2 (by decide)).1, if_pos (nI_le (by omega) (by omega))]
    exact ⟨M, rfl, Fr.refl _ M⟩
  | n + 1, k, acc, M, h, hb, hk => by
    have hV := h.2.2.1
    have l2 := hV.1 2 (by decide)
    have m2 : mst 2 = 16 := rfl
    have h30 := hV.2.2.2.1.1
    have hg := (hV.2.2.2.1.2 r hr).1
    have l1 := hV.1 1 (by decide)
    have m1 : mst 1 = 8 := rfl
    have hk2 : k < vN V 2 := by omega
    rw [eq_Ref_feigned_25]
    simp only [RW.all h.1, MR, ckk_T, deR_s, deQ_s, deQ_n, bkV_s, bkI_s, bkJ_s, bkQ_s, bkQ_n, ckb0, ckb1, ckb2, ckb3, eq_self, Nat.reduceEqDiff, Nat.reduceLeDiff, Nat.reduceLT, reduceIte, true_or, or_true, not_false_eq_true, not_true_eq_false, and_self, and_true, true_and, LIT, Int32.reduceLT, Int32.reduceLE, Int32.reduceToNatClampNeg]
    rw [show aI M 92 2 = nI (vN V 2) from by rw [← h.2.1.2.1 2 (by decide)]; exact (h.2.1.1 2 (by decide)).1, if_neg (nI_ge (by omega) (by omega)), hb]
    obtain ⟨g1, e1⟩ := (p_isWished (by omega : 4 ≤ D) h.1 (show k < 16 by omega) (h.sl (show 2 < 4 by decide) hk2) b).self
    rw [e1, rTs_2 h.2.1 hk2]
    have f1 : Fr P52 M (setF M 104 g1) := (fr104 M g1).mono (fun o k q => Or.inl q)
    have K1 := h.f52 f1
    unfold fgA
    cases q1 : tTs (vT V 2 k) b
    · simp only [MR, ckk_T, deR_s, deQ_s, deQ_n, bkV_s, bkI_s, bkJ_s, bkQ_s, bkQ_n, ckb0, ckb1, ckb2, ckb3, eq_self, Nat.reduceEqDiff, Nat.reduceLeDiff, Nat.reduceLT, reduceIte, true_or, or_true, not_false_eq_true, not_true_eq_false, and_self, and_true, true_and, LIT, Int32.reduceLT, Int32.reduceLE, Int32.reduceToNatClampNeg, b2i_f, or_0]
      rw [nI_1, if_neg (by simp)]
      obtain ⟨M', e, f⟩ := rfg_loop hD hr (b := b) n (k + 1) acc (setF M 104 g1) K1 hb (by omega)
      exact ⟨M', e, f1.trans f⟩
    · simp only [RW.all h.1, MR, ckk_T, deR_s, deQ_s, deQ_n, bkV_s, bkI_s, bkJ_s, bkQ_s, bkQ_n, ckb0, ckb1, ckb2, ckb3, eq_self, Nat.reduceEqDiff, Nat.reduceLeDiff, Nat.reduceLT, reduceIte, true_or, or_true, not_false_eq_true, not_true_eq_false, and_self, and_true, true_and, LIT, Int32.reduceLT, Int32.reduceLE, Int32.reduceToNatClampNeg, b2i_t]
      rw [ckb_n (by omega) (by decide), nI_clamp (by omega), (h.rl hr).1, p_firstOf (by omega) h.1 (show (vR V r).1 < 8 by omega) (h.sl (show 1 < 4 by decide) hg), first_v h.2.1 hg]
      simp only [RW.all h.1, MR, ckk_T, deR_s, deQ_s, deQ_n, bkV_s, bkI_s, bkJ_s, bkQ_s, bkQ_n, ckb0, ckb1, ckb2, ckb3, eq_self, Nat.reduceEqDiff, Nat.reduceLeDiff, Nat.reduceLT, reduceIte, true_or, or_true, not_false_eq_true, not_true_eq_false, and_self, and_true, true_and, LIT, Int32.reduceLT, Int32.reduceLE, Int32.reduceToNatClampNeg]
      obtain ⟨g2, e2⟩ := (p_isWished (by omega : 4 ≤ D) h.1 (show k < 16 by omega) (h.sl (show 2 < 4 by decide) hk2) (tGv (vT V 1 (vR V r).1))) g1
      rw [e2, rTs_2 h.2.1 hk2]
      have f2 : Fr P52 M (setF M 104 g2) := (fr104 M g2).mono (fun o k q => Or.inl q)
      have K2 := h.f52 f2
      cases q2 : tTs (vT V 2 k) (tGv (vT V 1 (vR V r).1))
      · simp only [MR, ckk_T, deR_s, deQ_s, deQ_n, bkV_s, bkI_s, bkJ_s, bkQ_s, bkQ_n, ckb0, ckb1, ckb2, ckb3, eq_self, Nat.reduceEqDiff, Nat.reduceLeDiff, Nat.reduceLT, reduceIte, true_or, or_true, not_false_eq_true, not_true_eq_false, and_self, and_true, true_and, LIT, Int32.reduceLT, Int32.reduceLE, Int32.reduceToNatClampNeg, b2i_f]
        rw [nI_1]
        obtain ⟨M', e, f⟩ := rfg_loop hD hr (b := b) n (k + 1) (acc ||| 1 <<< (nI k &&& 31)) (setF M 104 g2) K2 hb (by omega)
        exact ⟨M', e, f2.trans f⟩
      · simp only [MR, ckk_T, deR_s, deQ_s, deQ_n, bkV_s, bkI_s, bkJ_s, bkQ_s, bkQ_n, ckb0, ckb1, ckb2, ckb3, eq_self, Nat.reduceEqDiff, Nat.reduceLeDiff, Nat.reduceLT, reduceIte, true_or, or_true, not_false_eq_true, not_true_eq_false, and_self, and_true, true_and, LIT, Int32.reduceLT, Int32.reduceLE, Int32.reduceToNatClampNeg, b2i_t, or_0]
        rw [nI_1, if_neg (by simp)]
        obtain ⟨M', e, f⟩ := rfg_loop hD hr (b := b) n (k + 1) acc (setF M 104 g2) K2 hb (by omega)
        exact ⟨M', e, f2.trans f⟩
theorem r_feigned {D : Nat} (hD : 8 ≤ D) {M : ej_Mem} {V : View} {mk : Nat} (h : KR M V mk) (r : Int32) : ∃ M', cal D jm_Ref_feigned [.ref 90, .int r] M = some (some (.int (a_feigned V r)), M') ∧ FrG P8 M M' ∧ KR M' V mk := by
  obtain ⟨d, rfl⟩ : ∃ d, D = d + 1 := ⟨D - 1, by omega⟩
  have h30 := h.2.2.1.2.2.2.1.1
  rw [ca_Ref_feigned, eq_Ref_feigned_0]
  simp only [RW.all h.1, MR, ckk_T, deR_s, deQ_s, deQ_n, bkV_s, bkI_s, bkJ_s, bkQ_s, bkQ_n, ckb0, ckb1, ckb2, ckb3, eq_self, Nat.reduceEqDiff, Nat.reduceLeDiff, Nat.reduceLT, reduceIte, true_or, or_true, not_false_eq_true, not_true_eq_false, and_self, and_true, true_and, LIT, Int32.reduceLT, Int32.reduceLE, Int32.reduceToNatClampNeg]
  rw [p_isRoll (by omega) h]
  unfold a_feigned
  rcases roll_cases h.2.2.1 r with hr | ⟨i, hi, rfl, hr⟩
  · rw [hr]
    exact ⟨M, rfl, FrG.refl _ M, h⟩
  · rw [hr]
    simp only [RW.all h.1, MR, ckk_T, deR_s, deQ_s, deQ_n, bkV_s, bkI_s, bkJ_s, bkQ_s, bkQ_n, ckb0, ckb1, ckb2, ckb3, eq_self, Nat.reduceEqDiff, Nat.reduceLeDiff, Nat.reduceLT, reduceIte, true_or, or_true, not_false_eq_true, not_true_eq_false, and_self, and_true, true_and, LIT, Int32.reduceLT, Int32.reduceLE, Int32.reduceToNatClampNeg, b2i_t]
    rw [ckb_n (by omega) (by decide), nI_clamp (by omega), (h.rl hi).2.2.1]
    obtain ⟨M1, e, f, j⟩ := r_judges (by omega : 6 ≤ d) h hi (Nat.le_refl _)
    rw [take_all h.2.2.1 hi] at j
    have K1 := h.f52 f
    rw [e]
    obtain ⟨M2, e2, f2⟩ := rfg_loop (D := d) (by omega) hi (b := (jud V (vF V) i 24).2.1) (vN V 2) 0 0 M1 K1 j.2 (by omega)
    exact ⟨M2, e2, g52 (f.trans f2), K1.f52 f2⟩
theorem rhd_loop {cl : Nat → List Value → ej_Mem → Option ej_R} {V : View} {M : ej_Mem} {mk : Nat} (h : KR M V mk) {x l1 l2 : Int32} : ∀ (n k : Nat) (acc : Int32), k + n = 24 → rn jm_Ref_claims cl 66 [some (.ref 90), some (.int l1), some (.int l2), some (.int x), some (.int acc), some (.int (nI k))] [] M = some (some (.int (hdA V x n k acc)), M)
  | 0, k, acc, hk => by
    rw [eq_Ref_claims_66, show (24 : Int32) = nI 24 from rfl, if_pos (nI_le (by omega) (by omega))]
    rfl
  | n + 1, k, acc, hk => by
    have hH := h.2.1.2.2.2.2.2.1 k (by omega)
    rw [eq_Ref_claims_66, show (24 : Int32) = nI 24 from rfl, if_neg (nI_ge (by omega) (by omega))]
    simp only [RW.all h.1, MR, ckk_T, deR_s, deQ_s, deQ_n, bkV_s, bkI_s, bkJ_s, bkQ_s, bkQ_n, ckb0, ckb1, ckb2, ckb3, eq_self, Nat.reduceEqDiff, Nat.reduceLeDiff, Nat.reduceLT, reduceIte, true_or, or_true, not_false_eq_true, not_true_eq_false, and_self, and_true, true_and, LIT, Int32.reduceLT, Int32.reduceLE, Int32.reduceToNatClampNeg, or_0]
    unfold hdA
    cases q : bI x k
    · rw [if_neg (fun z => by rw [(low_1 (by omega)).mp z] at q; cases q), nI_1, rhd_loop h n (k + 1) acc (by omega), if_neg (by simp)]
    · rw [if_pos ((low_1 (by omega)).mpr q), ckb_n (by omega) (by decide), nI_clamp (by omega), ckb_n (by omega) (by decide), hH]
      by_cases q2 : vH V k = -1
      · rw [if_pos q2, nI_1, rhd_loop h n (k + 1) acc (by omega), if_neg (fun z => z.2 q2)]
      · rw [if_neg q2, nI_1, rhd_loop h n (k + 1) _ (by omega), if_pos ⟨rfl, q2⟩]
theorem r_claims {D : Nat} (hD : 8 ≤ D) {M : ej_Mem} {V : View} {mk : Nat} (h : KR M V mk) (r w : Int32) : ∃ M', cal D jm_Ref_claims [.ref 90, .int r, .int w] M = some (some (.int (a_claims V r w)), M') ∧ FrG P8 M M' ∧ KR M' V mk := by
  obtain ⟨d, rfl⟩ : ∃ d, D = d + 1 := ⟨D - 1, by omega⟩
  have hV := h.2.2.1
  have h30 := hV.2.2.2.1.1
  have l1 := hV.1 1 (by decide)
  have m1 : mst 1 = 8 := rfl
  rw [ca_Ref_claims, eq_Ref_claims_0]
  simp only [RW.all h.1, MR, ckk_T, deR_s, deQ_s, deQ_n, bkV_s, bkI_s, bkJ_s, bkQ_s, bkQ_n, ckb0, ckb1, ckb2, ckb3, eq_self, Nat.reduceEqDiff, Nat.reduceLeDiff, Nat.reduceLT, reduceIte, true_or, or_true, not_false_eq_true, not_true_eq_false, and_self, and_true, true_and, LIT, Int32.reduceLT, Int32.reduceLE, Int32.reduceToNatClampNeg]
  rw [p_isRoll (by omega) h]
  unfold a_claims
  rcases roll_cases h.2.2.1 r with hr | ⟨i, hi, rfl, hr⟩
  · rw [hr]
    exact ⟨M, rfl, FrG.refl _ M, h⟩
  · rw [hr]
    simp only [RW.all h.1, MR, ckk_T, deR_s, deQ_s, deQ_n, bkV_s, bkI_s, bkJ_s, bkQ_s, bkQ_n, ckb0, ckb1, ckb2, ckb3, eq_self, Nat.reduceEqDiff, Nat.reduceLeDiff, Nat.reduceLT, reduceIte, true_or, or_true, not_false_eq_true, not_true_eq_false, and_self, and_true, true_and, LIT, Int32.reduceLT, Int32.reduceLE, Int32.reduceToNatClampNeg, b2i_t]
    rw [in01 (by omega)]
    cases hw : inB w 0 1
    · exact ⟨M, rfl, FrG.refl _ M, h⟩
    · have hg := (hV.2.2.2.1.2 i hi).1
      simp only [RW.all h.1, MR, ckk_T, deR_s, deQ_s, deQ_n, bkV_s, bkI_s, bkJ_s, bkQ_s, bkQ_n, ckb0, ckb1, ckb2, ckb3, eq_self, Nat.reduceEqDiff, Nat.reduceLeDiff, Nat.reduceLT, reduceIte, true_or, or_true, not_false_eq_true, not_true_eq_false, and_self, and_true, true_and, LIT, Int32.reduceLT, Int32.reduceLE, Int32.reduceToNatClampNeg, b2i_t]
      rw [ckb_n (by omega) (by decide), nI_clamp (by omega), (h.rl hi).2.2.1]
      obtain ⟨M1, e, f, j⟩ := r_judges (by omega : 6 ≤ d) h hi (Nat.le_refl _)
      rw [take_all h.2.2.1 hi] at j
      have K1 := h.f52 f
      rw [e]
      have E := p_firstOf (by omega : 2 ≤ d) K1.1 (show (vR V i).1 < 8 by omega) (K1.sl (show 1 < 4 by decide) hg) (aI M1 104)
      rw [setF_self] at E
      simp only [RW.all K1.1, j.1, j.2, MR, ckk_T, deR_s, deQ_s, deQ_n, bkV_s, bkI_s, bkJ_s, bkQ_s, bkQ_n, ckb0, ckb1, ckb2, ckb3, eq_self, Nat.reduceEqDiff, Nat.reduceLeDiff, Nat.reduceLT, reduceIte, true_or, or_true, not_false_eq_true, not_true_eq_false, and_self, and_true, true_and, LIT, Int32.reduceLT, Int32.reduceLE, Int32.reduceToNatClampNeg]
      rw [ckb_n (by omega) (by decide), (K1.rl hi).1, E, first_v K1.2.1 hg]
      simp only [RW.all K1.1, j.1, j.2, MR, ckk_T, deR_s, deQ_s, deQ_n, bkV_s, bkI_s, bkJ_s, bkQ_s, bkQ_n, ckb0, ckb1, ckb2, ckb3, eq_self, Nat.reduceEqDiff, Nat.reduceLeDiff, Nat.reduceLT, reduceIte, true_or, or_true, not_false_eq_true, not_true_eq_false, and_self, and_true, true_and, LIT, Int32.reduceLT, Int32.reduceLE, Int32.reduceToNatClampNeg, Bool.and_self]
      refine ⟨M1, ?_, g52 f, K1⟩
      by_cases q : w = 0
      · rw [if_pos q, if_pos q]; exact rhd_loop K1 24 0 0 rfl
      · rw [if_neg q, if_neg q]; exact rhd_loop K1 24 0 0 rfl
