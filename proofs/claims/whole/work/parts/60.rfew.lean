/-! fewest: the reference -/
theorem rlent_loop {D : Nat} (hD : 1 ≤ D) {M : ej_Mem} {V : View} {mk : Nat} (h : KR M V mk) : ∀ (n m : Nat), m + n = vN V 0 →
    rn jm_Ref_lentBy (cal D) 4 [some (.ref 90), some (.int (lnU V (fun _ => true) m)), some (.int (nI m))] [] M = some (some (.int (lnA V)), M)
  | 0, m, hm => by
    have l0 := h.2.2.1.le (show 0 < 4 by decide)
    rw [eq_Ref_lentBy_4]
    simp only [RW.all h.1, MR, ckk_T, deR_s, deQ_s, deQ_n, bkV_s, bkI_s, bkJ_s, bkQ_s, bkQ_n, ckb0, ckb1, ckb2, ckb3, eq_self, Nat.reduceEqDiff, Nat.reduceLeDiff, Nat.reduceLT, reduceIte, true_or, or_true, not_false_eq_true, not_true_eq_false, and_self, and_true, true_and, LIT, Int32.reduceLT, Int32.reduceLE, Int32.reduceToNatClampNeg]
    rw [(h.2.1.1 0 (by decide)).1, h.2.1.2.1 0 (by decide), if_pos (nI_le (by omega) (by omega)), show m = vN V 0 by omega]
    rfl
  | n + 1, m, hm => by
    have l0 := h.2.2.1.le (show 0 < 4 by decide)
    have ih := rlent_loop hD h n (m + 1) (by omega)
    rw [eq_Ref_lentBy_4]
    simp only [RW.all h.1, MR, ckk_T, deR_s, deQ_s, deQ_n, bkV_s, bkI_s, bkJ_s, bkQ_s, bkQ_n, ckb0, ckb1, ckb2, ckb3, eq_self, Nat.reduceEqDiff, Nat.reduceLeDiff, Nat.reduceLT, reduceIte, true_or, or_true, not_false_eq_true, not_true_eq_false, and_self, and_true, true_and, LIT, Int32.reduceLT, Int32.reduceLE, Int32.reduceToNatClampNeg]
    rw [(h.2.1.1 0 (by decide)).1, h.2.1.2.1 0 (by decide), if_neg (nI_ge (by omega) (by omega)), nI_1]
    have E := p_union hD h.1 (show m < 72 by omega) (h.sl0 (show m < vN V 0 by omega)) 5 (aI M 104)
    rw [setF_self] at E
    rw [E]
    simp only [MR, ckk_T, deR_s, deQ_s, deQ_n, bkV_s, bkI_s, bkJ_s, bkQ_s, bkQ_n, ckb0, ckb1, ckb2, ckb3, eq_self, Nat.reduceEqDiff, Nat.reduceLeDiff, Nat.reduceLT, reduceIte, true_or, or_true, not_false_eq_true, not_true_eq_false, and_self, and_true, true_and, LIT, Int32.reduceLT, Int32.reduceLE, Int32.reduceToNatClampNeg]
    have ht : rU (aI M) m 5 = tLn (vT V 0 m) := by rw [← h.2.1.2.2.1 0 (by decide) m (by omega)]; rfl
    rw [ht]; exact ih
theorem p_lentByR {D : Nat} (hD : 2 ≤ D) {M : ej_Mem} {V : View} {mk : Nat} (h : KR M V mk) : cal D jm_Ref_lentBy [.ref 90] M = some (some (.int (lnA V)), M) := by
  obtain ⟨d, rfl⟩ : ∃ d, D = d + 1 := ⟨D - 1, by omega⟩
  rw [ca_Ref_lentBy, eq_Ref_lentBy_0]
  exact rlent_loop (by omega) h (vN V 0) 0 (by omega)
theorem fwX_some {V : View} (hV : VOK V) (i : Nat) : ¬ fwX V (some i) = -2 := (xS_ne hV i).2.1
theorem rfew_loop {D : Nat} (hD : 7 ≤ D) {V : View} {gi wi : Nat} {y : Int32} {xj : Nat} (hx : xj ≤ 1) (hg : gi < vN V 1) (hw : wi < vN V 2) (hp : pc (lnA V) ≤ 10) : ∀ (n i mq : Nat) (M : ej_Mem) (o9 : Option Value), i + n = cS (lnA V) → KS M V mq → mq + n < 2 ^ 30 → mI M 90 41 = -1 → mI M 90 42 = -1 →
    ∃ M' mk', rn jm_Ref_fewest (cal D) 52 [some (.ref 90), some (.int (nI gi)), some (.int (nI wi)), some (.int y), some (.int (nI xj)), some (.int (lnA V)), some (.int (fwX V (amF (fwOk V gi wi y) (fwSz V) i))), some (.int (if i < cS (lnA V) then xS (lnA V) i else 0)), some (.int (if i < cS (lnA V) then 1 else 0)), o9] [] M =
      some (some (.int (fwA V (nI xj) (amF (fwOk V gi wi y) (fwSz V) (cS (lnA V))))), M') ∧ FrG P8 M M' ∧ KR M' V mk' ∧ mk' ≤ mq + n
  | 0, i, mq, M, o9, hi, h, hb, q41, q42 => by
    have hV := h.2.2.1
    rw [eq_Ref_fewest_52]
    simp only [if_neg (show ¬ i < cS (lnA V) by omega), RW.all h.1, MR, ckk_T, deR_s, deQ_s, deQ_n, bkV_s, bkI_s, bkJ_s, bkQ_s, bkQ_n, ckb0, ckb1, ckb2, ckb3, eq_self, Nat.reduceEqDiff, Nat.reduceLeDiff, Nat.reduceLT, reduceIte, true_or, or_true, not_false_eq_true, not_true_eq_false, and_self, and_true, true_and, LIT, Int32.reduceLT, Int32.reduceLE, Int32.reduceToNatClampNeg]
    have K := h.set (k := 40) (by omega) (-1)
    have KRf : KR (setI M 90 40 (-1)) V mq := ⟨K.1, K.2.1, K.2.2.1, ⟨gI_s _ _ _ _, by rw [gI_n (by omega)]; exact q41, by rw [gI_n (by omega)]; exact q42⟩, K.2.2.2⟩
    refine ⟨setI M 90 40 (-1), mq, ?_, gset8 M 40 (-1), KRf, by omega⟩
    rw [show i = cS (lnA V) by omega]
    cases hr : amF (fwOk V gi wi y) (fwSz V) (cS (lnA V)) with
    | none => rw [if_pos (show fwX V none = -2 from rfl)]; rfl
    | some j =>
      rw [if_neg (fwX_some hV j)]
      have : xj = 0 ∨ xj = 1 := by omega
      rcases this with rfl | rfl
      · rw [if_pos (by rfl), p_Ref_bits (by omega)]; rfl
      · rw [if_neg (by decide)]; rfl
  | n + 1, i, mq, M, o9, hi, h, hb, q41, q42 => by
    have hV := h.2.2.1
    have l0 := hV.le (show 0 < 4 by decide)
    have hT := cS_1024 hp
    have hi2 : i < cS (lnA V) := by omega
    rw [eq_Ref_fewest_52]
    simp only [if_pos hi2, RW.all h.1, MR, ckk_T, deR_s, deQ_s, deQ_n, bkV_s, bkI_s, bkJ_s, bkQ_s, bkQ_n, ckb0, ckb1, ckb2, ckb3, eq_self, Nat.reduceEqDiff, Nat.reduceLeDiff, Nat.reduceLT, reduceIte, true_or, or_true, not_false_eq_true, not_true_eq_false, and_self, and_true, true_and, LIT, Int32.reduceLT, Int32.reduceLE, Int32.reduceToNatClampNeg]
    have K1 := h.set (k := 40) (by omega) (xS (lnA V) i)
    have z41 : mI (setI M 90 40 (xS (lnA V) i)) 90 41 = -1 := by rw [gI_n (by omega)]; exact q41
    have z42 : mI (setI M 90 40 (xS (lnA V) i)) 90 42 = -1 := by rw [gI_n (by omega)]; exact q42
    have z40 : mI (setI M 90 40 (xS (lnA V) i)) 90 40 = xS (lnA V) i := gI_s _ _ _ _
    have g1 := gset8 M 40 (xS (lnA V) i)
    generalize setI M 90 40 (xS (lnA V) i) = M1 at *
    rw [xS_next _ hi2]
    -- going on with the next set
    have nxt : ∀ (M2 : ej_Mem) (mq2 : Nat) (o : Option Value), KS M2 V mq2 → mq2 ≤ mq + 1 → mI M2 90 41 = -1 → mI M2 90 42 = -1 → FrG P8 M M2 →
        ∃ M' mk', (if (if i + 1 < cS (lnA V) then xS (lnA V) (i + 1) else 0) = 0 then rn jm_Ref_fewest (cal D) 52 [some (.ref 90), some (.int (nI gi)), some (.int (nI wi)), some (.int y), some (.int (nI xj)), some (.int (lnA V)), some (.int (fwX V (amF (fwOk V gi wi y) (fwSz V) (i + 1)))), some (.int (if i + 1 < cS (lnA V) then xS (lnA V) (i + 1) else 0)), some (.int 0), o] [] M2
          else rn jm_Ref_fewest (cal D) 52 [some (.ref 90), some (.int (nI gi)), some (.int (nI wi)), some (.int y), some (.int (nI xj)), some (.int (lnA V)), some (.int (fwX V (amF (fwOk V gi wi y) (fwSz V) (i + 1)))), some (.int (if i + 1 < cS (lnA V) then xS (lnA V) (i + 1) else 0)), some (.int 1), o] [] M2) =
          some (some (.int (fwA V (nI xj) (amF (fwOk V gi wi y) (fwSz V) (cS (lnA V))))), M') ∧ FrG P8 M M' ∧ KR M' V mk' ∧ mk' ≤ mq + (n + 1) := by
      intro M2 mq2 o K2 hm2 a41 a42 G2
      obtain ⟨M', mk', e, f, K, hmk⟩ := rfew_loop hD hx hg hw hp n (i + 1) mq2 M2 o (by omega) K2 (by omega) a41 a42
      refine ⟨M', mk', ?_, G2.trans f, K, by omega⟩
      rw [← e]
      by_cases q : i + 1 < cS (lnA V)
      · have hne : ¬ xS (lnA V) (i + 1) = 0 := fun z => by have := xS_pos _ q z; omega
        simp only [if_pos q]
        rw [if_neg hne]
      · simp only [if_neg q]
        rw [if_pos trivial]
    have fin : ∀ (M2 : ej_Mem) (o : Option Value) (bst : Int32), amF (fwOk V gi wi y) (fwSz V) (i + 1) = amF (fwOk V gi wi y) (fwSz V) (i + 1) → True := fun _ _ _ _ => trivial
    have rch : ∃ M2, cal D jm_Ref_reaches [.ref 90, .int (nI gi), .int (nI wi), .int y] M1 = some (some (.int (nI (srch V gi wi (vF V) (okL V y (xS (lnA V) i))).2.2.2)), M2) ∧ Fr Prc M1 M2 ∧ KS M2 V (mq + 1) := by
      obtain ⟨M2, e2, f2, r2, K2⟩ := r_srch hD K1 (by omega) hg hw y (ok := okL V y (xS (lnA V) i)) (fun m hm s => by
        rw [z41, z40, z42]
        have hne : nI m ≠ -1 := by
          intro q
          have := nI_pos' (n := m) (by omega)
          rw [q] at this
          exact absurd this (by decide)
        unfold tolV okL lendB
        rw [decide_eq_true hne, decide_eq_false (xS_ne hV i).2.2, decide_eq_true (rfl : (-1 : Int32) = -1), Bool.true_and, Bool.false_or, Bool.true_or, Bool.and_true, Bool.and_comm])
      exact ⟨M2, e2, f2, K2⟩
    obtain ⟨M2, e2, f2, K2⟩ := rch
    have B := srch_end hV gi wi (vF V) (okL V y (xS (lnA V) i))
    have w41 : mI M2 90 41 = -1 := by rw [f2.i (by unfold Prc; omega)]; exact z41
    have w42 : mI M2 90 42 = -1 := by rw [f2.i (by unfold Prc; omega)]; exact z42
    have G2 := g1.trans (grc f2)
    have hst : ∀ b : Bool, fwOk V gi wi y i = b → (nI (srch V gi wi (vF V) (okL V y (xS (lnA V) i))).2.2.2 = 2 ↔ b = true) := by
      intro b hb
      rw [← hb]
      unfold fwOk
      rw [decide_eq_true_iff]
      exact ⟨fun q => (st_eq B.1.2.2.2.2.2.2.2.2 (by decide)).mp q, fun q => by rw [q]; rfl⟩
    cases hr : amF (fwOk V gi wi y) (fwSz V) i with
    | none =>
      rw [if_pos (show fwX V none = -2 from rfl), e2]
      simp only [MR, ckk_T, deR_s, deQ_s, deQ_n, bkV_s, bkI_s, bkJ_s, bkQ_s, bkQ_n, ckb0, ckb1, ckb2, ckb3, eq_self, Nat.reduceEqDiff, Nat.reduceLeDiff, Nat.reduceLT, reduceIte, true_or, or_true, not_false_eq_true, not_true_eq_false, and_self, and_true, true_and, LIT, Int32.reduceLT, Int32.reduceLE, Int32.reduceToNatClampNeg]
      cases ho : fwOk V gi wi y i
      · have ha : amF (fwOk V gi wi y) (fwSz V) (i + 1) = none := by unfold amF; rw [hr]; show (if fwOk V gi wi y i = true then _ else _) = _; rw [ho]; rfl
        rw [if_neg (fun q => by have := (hst _ ho).mp q; cases this)]
        have N := nxt M2 (mq + 1) (some (.int 1)) K2 (by omega) w41 w42 G2
        rw [ha] at N
        exact N
      · have ha : amF (fwOk V gi wi y) (fwSz V) (i + 1) = some i := by unfold amF; rw [hr]; show (if fwOk V gi wi y i = true then _ else _) = _; rw [ho]; rfl
        rw [if_pos ((hst _ ho).mpr rfl)]
        have N := nxt M2 (mq + 1) (some (.int 1)) K2 (by omega) w41 w42 G2
        rw [ha] at N
        exact N
    | some j =>
      rw [if_neg (fwX_some hV j), p_Ref_bits (by omega)]
      simp only [MR, ckk_T, deR_s, deQ_s, deQ_n, bkV_s, bkI_s, bkJ_s, bkQ_s, bkQ_n, ckb0, ckb1, ckb2, ckb3, eq_self, Nat.reduceEqDiff, Nat.reduceLeDiff, Nat.reduceLT, reduceIte, true_or, or_true, not_false_eq_true, not_true_eq_false, and_self, and_true, true_and, LIT, Int32.reduceLT, Int32.reduceLE, Int32.reduceToNatClampNeg]
      rw [p_Ref_bits (by omega)]
      simp only [RW.all K1.1, MR, ckk_T, deR_s, deQ_s, deQ_n, bkV_s, bkI_s, bkJ_s, bkQ_s, bkQ_n, ckb0, ckb1, ckb2, ckb3, eq_self, Nat.reduceEqDiff, Nat.reduceLeDiff, Nat.reduceLT, reduceIte, true_or, or_true, not_false_eq_true, not_true_eq_false, and_self, and_true, true_and, LIT, Int32.reduceLT, Int32.reduceLE, Int32.reduceToNatClampNeg]
      have b1 := pc_le (xS (lnA V) i)
      have b2 := pc_le (xS (lnA V) j)
      by_cases q : fwSz V i < fwSz V j
      · rw [if_neg (show ¬ nI (pc (fwX V (some j))) ≤ nI (pc (xS (lnA V) i)) from nI_ge q (by show pc (xS (lnA V) j) < _; omega)), e2]
        simp only [MR, ckk_T, deR_s, deQ_s, deQ_n, bkV_s, bkI_s, bkJ_s, bkQ_s, bkQ_n, ckb0, ckb1, ckb2, ckb3, eq_self, Nat.reduceEqDiff, Nat.reduceLeDiff, Nat.reduceLT, reduceIte, true_or, or_true, not_false_eq_true, not_true_eq_false, and_self, and_true, true_and, LIT, Int32.reduceLT, Int32.reduceLE, Int32.reduceToNatClampNeg]
        cases ho : fwOk V gi wi y i
        · have ha : amF (fwOk V gi wi y) (fwSz V) (i + 1) = some j := by unfold amF; rw [hr]; show (if fwOk V gi wi y i = true ∧ _ then _ else _) = _; rw [if_neg (fun z => by rw [ho] at z; cases z.1)]
          rw [if_neg (fun q => by have := (hst _ ho).mp q; cases this)]
          have N := nxt M2 (mq + 1) (some (.int 1)) K2 (by omega) w41 w42 G2
          rw [ha] at N
          exact N
        · have ha : amF (fwOk V gi wi y) (fwSz V) (i + 1) = some i := by unfold amF; rw [hr]; show (if fwOk V gi wi y i = true ∧ _ then _ else _) = _; rw [if_pos ⟨ho, q⟩]
          rw [if_pos ((hst _ ho).mpr rfl)]
          have N := nxt M2 (mq + 1) (some (.int 1)) K2 (by omega) w41 w42 G2
          rw [ha] at N
          exact N
      · rw [if_pos (show nI (pc (fwX V (some j))) ≤ nI (pc (xS (lnA V) i)) from nI_le (by show pc (xS (lnA V) j) ≤ pc (xS (lnA V) i); unfold fwSz at q; omega) (by omega))]
        have ha : amF (fwOk V gi wi y) (fwSz V) (i + 1) = some j := by unfold amF; rw [hr]; show (if fwOk V gi wi y i = true ∧ _ then _ else _) = _; rw [if_neg (fun z => q z.2)]
        have N := nxt M1 mq (some (.int 0)) K1 (by omega) z41 z42 g1
        rw [ha] at N
        exact N
theorem r_fewest {D : Nat} (hD : 8 ≤ D) {M : ej_Mem} {V : View} {mk : Nat} (h : KR M V mk) (hmk : mk < 2 ^ 29) (g w y x : Int32) : ∃ M' mk', cal D jm_Ref_fewest [.ref 90, .int g, .int w, .int y, .int x] M = some (some (.int (a_fewest V g w y x)), M') ∧ FrG P8 M M' ∧ KR M' V mk' ∧ mk' ≤ mk + 1024 := by
  obtain ⟨d, rfl⟩ : ∃ d, D = d + 1 := ⟨D - 1, by omega⟩
  rw [ca_Ref_fewest, eq_Ref_fewest_0]
  simp only [RW.all h.1, MR, ckk_T, deR_s, deQ_s, deQ_n, bkV_s, bkI_s, bkJ_s, bkQ_s, bkQ_n, ckb0, ckb1, ckb2, ckb3, eq_self, Nat.reduceEqDiff, Nat.reduceLeDiff, Nat.reduceLT, reduceIte, true_or, or_true, not_false_eq_true, not_true_eq_false, and_self, and_true, true_and, LIT, Int32.reduceLT, Int32.reduceLE, Int32.reduceToNatClampNeg]
  rw [p_isAsked (by omega) h]
  simp only [RW.all h.1, MR, ckk_T, deR_s, deQ_s, deQ_n, bkV_s, bkI_s, bkJ_s, bkQ_s, bkQ_n, ckb0, ckb1, ckb2, ckb3, eq_self, Nat.reduceEqDiff, Nat.reduceLeDiff, Nat.reduceLT, reduceIte, true_or, or_true, not_false_eq_true, not_true_eq_false, and_self, and_true, true_and, LIT, Int32.reduceLT, Int32.reduceLE, Int32.reduceToNatClampNeg]
  unfold a_fewest
  cases ha : askB V g w y
  · rw [Bool.and_false]
    exact ⟨M, mk, rfl, FrG.refl _ M, h, by omega⟩
  · have E := p_inI (by omega : 1 ≤ d) x 0 1 M
    rw [show Int32.toInt64 0 = 0 from by decide, show Int32.toInt64 1 = 1 from by decide] at E
    rw [if_neg (by decide), E]
    cases hin : inB x 0 1
    · exact ⟨M, mk, rfl, FrG.refl _ M, h, by omega⟩
    · obtain ⟨gi, wi, hg, hw, rfl, rfl, eg, ew, _⟩ := ask_get h.2.2.1 ha
      have hx := hin
      unfold inB at hx
      rw [decide_eq_true_iff] at hx
      obtain ⟨xj, hxj, rfl⟩ := nI_of2 (n := 1) (by decide : (1 : Int32).toInt = 1) (Int32.not_lt.mpr hx.1) hx.2
      simp only [RW.all h.1, MR, ckk_T, deR_s, deQ_s, deQ_n, bkV_s, bkI_s, bkJ_s, bkQ_s, bkQ_n, ckb0, ckb1, ckb2, ckb3, eq_self, Nat.reduceEqDiff, Nat.reduceLeDiff, Nat.reduceLT, reduceIte, true_or, or_true, not_false_eq_true, not_true_eq_false, and_self, and_true, true_and, LIT, Int32.reduceLT, Int32.reduceLE, Int32.reduceToNatClampNeg, b2i_t]
      rw [p_lentByR (by omega) h]
      simp only [MR, ckk_T, deR_s, deQ_s, deQ_n, bkV_s, bkI_s, bkJ_s, bkQ_s, bkQ_n, ckb0, ckb1, ckb2, ckb3, eq_self, Nat.reduceEqDiff, Nat.reduceLeDiff, Nat.reduceLT, reduceIte, true_or, or_true, not_false_eq_true, not_true_eq_false, and_self, and_true, true_and, LIT, Int32.reduceLT, Int32.reduceLE, Int32.reduceToNatClampNeg]
      rw [p_Ref_bits (by omega)]
      simp only [MR, ckk_T, deR_s, deQ_s, deQ_n, bkV_s, bkI_s, bkJ_s, bkQ_s, bkQ_n, ckb0, ckb1, ckb2, ckb3, eq_self, Nat.reduceEqDiff, Nat.reduceLeDiff, Nat.reduceLT, reduceIte, true_or, or_true, not_false_eq_true, not_true_eq_false, and_self, and_true, true_and, LIT, Int32.reduceLT, Int32.reduceLE, Int32.reduceToNatClampNeg, Bool.and_self, if_true]
      rw [eg, ew]
      by_cases hp : pc (lnA V) ≤ 10
      · rw [if_pos (show nI (pc (lnA V)) ≤ 10 from nI_le (b := 10) hp (by decide)), if_pos hp]
        have hT := cS_1024 hp
        obtain ⟨M', mk', e, f, K, hm⟩ := rfew_loop (by omega : 7 ≤ d) (y := y) hxj hg hw hp (cS (lnA V)) 0 mk M none (by omega) h.ks (by omega) h.2.2.2.1.2.1 h.2.2.2.1.2.2
        have hpos : 0 < cS (lnA V) := Nat.two_pow_pos _
        have e0 : fwX V (amF (fwOk V gi wi y) (fwSz V) 0) = -2 := rfl
        simp only [if_pos hpos, xS_0, e0] at e
        exact ⟨M', mk', e, f, K, by omega⟩
      · rw [if_neg (show ¬ nI (pc (lnA V)) ≤ 10 from nI_ge (a := 10) (by omega) (by have := pc_le (lnA V); omega)), if_neg hp]
        exact ⟨M, mk, rfl, FrG.refl _ M, h, by omega⟩
