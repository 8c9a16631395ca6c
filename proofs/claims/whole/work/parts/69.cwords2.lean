theorem wdC_out {D : Nat} (hD : 7 ≤ D) {own : Nat → Nat} {V : View} {gi wi : Nat} {y x l1 l2 l5 : Int32} (hg : gi < vN V 1) (hw : wi < vN V 2) : ∀ (r s : Nat) (M : ej_Mem) (o7 o8 o9 : Option Value), s + r = vN V 3 + 1 → KC M own V → TQ M V gi wi y → (∀ j, j < 2 ^ vN V 3 → wdOk V gi wi y x j = true → s ≤ wdSz j) →
    ∃ M', rn jm_Suit_words (cal D) 90 [some (.ref 59), some (.int l1), some (.int l2), some (.int y), some (.int x), some (.int l5), some (.int (nI s)), o7, o8, o9] [] M = some (some (.int (wdA l5 (wdF (wdOk V gi wi y x) wdSz (2 ^ vN V 3)))), M') ∧ FrG (P7 own) M M' ∧ KC M' own V
  | 0, s, M, o7, o8, o9, hs, h, t, hno => by
    have hV := h.2.2.2.2.2.2.1
    have hv := h.2.2.2.2.2.1
    have l3 := hV.1 3 (by decide)
    have m3 : mst 3 = 8 := rfl
    have h3 : aI M 70 3 = nI (vN V 3) := by rw [← hv.2.2.1 3 (by decide)]; exact (hv.2.1 3 (by decide)).1
    rw [eq_Suit_words_90]
    simp only [SW.all h.1, h3, MR, ckk_T, deR_s, deQ_s, deQ_n, bkV_s, bkI_s, bkJ_s, bkQ_s, bkQ_n, ckb0, ckb1, ckb2, ckb3, eq_self, Nat.reduceEqDiff, Nat.reduceLeDiff, Nat.reduceLT, reduceIte, true_or, or_true, not_false_eq_true, not_true_eq_false, and_self, and_true, true_and, LIT, Int32.reduceLT, Int32.reduceLE, Int32.reduceToNatClampNeg]
    rw [if_pos (nI_lt (by omega) (by omega)), wd_no]
    · exact ⟨M, rfl, FrG.refl _ M, h⟩
    · intro j hj
      cases e : wdOk V gi wi y x j
      · rfl
      · have := hno j hj e
        have := pc_full (vN V 3) (by omega) j hj
        unfold wdSz at *
        omega
  | r + 1, s, M, o7, o8, o9, hs, h, t, hno => by
    have hV := h.2.2.2.2.2.2.1
    have hv := h.2.2.2.2.2.1
    have l3 := hV.1 3 (by decide)
    have m3 : mst 3 = 8 := rfl
    have hT : 2 ^ vN V 3 ≤ 2 ^ 30 := pow_30 (by omega)
    have h3 : aI M 70 3 = nI (vN V 3) := by rw [← hv.2.2.1 3 (by decide)]; exact (hv.2.1 3 (by decide)).1
    rw [eq_Suit_words_90]
    simp only [SW.all h.1, h3, MR, ckk_T, deR_s, deQ_s, deQ_n, bkV_s, bkI_s, bkJ_s, bkQ_s, bkQ_n, ckb0, ckb1, ckb2, ckb3, eq_self, Nat.reduceEqDiff, Nat.reduceLeDiff, Nat.reduceLT, reduceIte, true_or, or_true, not_false_eq_true, not_true_eq_false, and_self, and_true, true_and, LIT, Int32.reduceLT, Int32.reduceLE, Int32.reduceToNatClampNeg]
    rw [if_neg (nI_nlt (by omega) (by omega))]
    obtain ⟨M1, e1, f1, K1, T1⟩ := wdC_in hD (x := x) (l1 := l1) (l2 := l2) (l5 := l5) (s := s) (by omega) hg hw (2 ^ vN V 3) 0 M (by omega) h t
    have e1' : rn jm_Suit_words (cal D) 113 [some (.ref 59), some (.int l1), some (.int l2), some (.int y), some (.int x), some (.int l5), some (.int (nI s)), some (.int (-1)), some (.int 0), some (.int 0)] [] M = _ := e1
    rw [e1']
    have hv1 := K1.2.2.2.2.2.1
    have h31 : aI M1 70 3 = nI (vN V 3) := by rw [← hv1.2.2.1 3 (by decide)]; exact (hv1.2.1 3 (by decide)).1
    have hc : (1 : Int32) <<< (aI M1 70 3 &&& 31) = nI (2 ^ vN V 3) := by rw [h31, shl_30 (by omega)]
    rw [eq_Suit_words_113]
    simp only [SW.all K1.1, hc, MR, ckk_T, deR_s, deQ_s, deQ_n, bkV_s, bkI_s, bkJ_s, bkQ_s, bkQ_n, ckb0, ckb1, ckb2, ckb3, eq_self, Nat.reduceEqDiff, Nat.reduceLeDiff, Nat.reduceLT, reduceIte, true_or, or_true, not_false_eq_true, not_true_eq_false, and_self, and_true, true_and, LIT, Int32.reduceLT, Int32.reduceLE, Int32.reduceToNatClampNeg]
    rw [if_pos (nI_le (Nat.le_refl _) (by omega))]
    cases hr : wdF (fun i => decide (wdSz i = s) && wdOk V gi wi y x i) (fun _ => 0) (2 ^ vN V 3) with
    | none =>
      rw [if_pos (show wd8 none ≤ 0 by decide), nI_1]
      have hn := wd_none hr
      obtain ⟨M2, e2, f2, K2⟩ := wdC_out hD (x := x) (l1 := l1) (l2 := l2) (l5 := l5) hg hw r (s + 1) M1 (some (.int (wd7 none))) (some (.int (wd8 none))) (some (.int (nI (2 ^ vN V 3)))) (by omega) K1 T1 (fun j hj oj => by
        have := hno j hj oj
        have := hn j hj oj
        omega)
      exact ⟨M2, e2, f1.trans f2, K2⟩
    | some a =>
      obtain ⟨j, c⟩ := a
      have hcn := wdF_cnt _ _ _ hr
      rw [wd_in hno hr]
      rw [if_neg (show ¬ wd8 (some (j, c)) ≤ 0 from nI_nle (by omega) (by omega))]
      refine ⟨M1, ?_, f1, K1⟩
      show (if l5 = 0 then _ else _) = some (some (Value.int (if l5 = 0 then nI j else nI c)), M1)
      by_cases q : l5 = 0
      · rw [if_pos q, if_pos q]; rfl
      · rw [if_neg q, if_neg q]; rfl
theorem c_words {D : Nat} (hD : 8 ≤ D) {M : ej_Mem} {own : Nat → Nat} {V : View} (h : KC M own V) (g w y x k : Int32) : ∃ M', cal D jm_Suit_words [.ref 59, .int g, .int w, .int y, .int x, .int k] M = some (some (.int (a_words V g w y x k)), M') ∧ FrG (P7 own) M M' ∧ KC M' own V := by
  obtain ⟨d, rfl⟩ : ∃ d, D = d + 1 := ⟨D - 1, by omega⟩
  have hV := h.2.2.2.2.2.2.1
  have h30 := hV.2.2.2.1.1
  have l0 := hV.le (show 0 < 4 by decide)
  have l3 := hV.1 3 (by decide)
  have m3 : mst 3 = 8 := rfl
  have hr : mI M 74 0 = nI (vRn V) := h.2.2.2.2.2.1.2.2.2.2.2.2.2.1.1
  rw [ca_Suit_words, eq_Suit_words_0]
  simp only [SW.all h.1, hr, MR, ckk_T, deR_s, deQ_s, deQ_n, bkV_s, bkI_s, bkJ_s, bkQ_s, bkQ_n, ckb0, ckb1, ckb2, ckb3, eq_self, Nat.reduceEqDiff, Nat.reduceLeDiff, Nat.reduceLT, reduceIte, true_or, or_true, not_false_eq_true, not_true_eq_false, and_self, and_true, true_and, LIT, Int32.reduceLT, Int32.reduceLE, Int32.reduceToNatClampNeg]
  unfold a_words
  rcases inB_01 k with ⟨hb, q⟩ | ⟨hb, q1, q2⟩
  · rw [hb, Bool.false_and]
    refine ⟨M, ?_, FrG.refl _ M, h⟩
    rcases q with q | ⟨q1, q2⟩
    · rw [if_pos q]; rfl
    · rw [if_neg q1, if_pos q2]; rfl
  · rw [if_neg q1, if_neg q2, hb, Bool.true_and]
    by_cases x0 : x < 0
    · rw [if_pos x0, bits_n x0]
      exact ⟨M, rfl, FrG.refl _ M, h⟩
    · rw [if_neg x0]
      cases hx : bitsB (vRn V) x
      · have : (1 <<< (nI (vRn V) &&& 31)) ≤ x := by
          by_cases z : (1 <<< (nI (vRn V) &&& 31)) ≤ x
          · exact z
          · rw [(bits_c h30 x x0).mpr z] at hx; cases hx
        rw [if_pos this]
        exact ⟨M, rfl, FrG.refl _ M, h⟩
      · rw [if_neg ((bits_c h30 x x0).mp hx), Bool.true_and]
        obtain ⟨M1, e1, f1, tm⟩ := p_setTerms (by omega : 2 ≤ d) h g w y
        have K1 := Pq80 h f1
        have G1 := g80 h.2.2.2.1 f1
        rw [e1]
        simp only [MR, ckk_T, deR_s, deQ_s, deQ_n, bkV_s, bkI_s, bkJ_s, bkQ_s, bkQ_n, ckb0, ckb1, ckb2, ckb3, eq_self, Nat.reduceEqDiff, Nat.reduceLeDiff, Nat.reduceLT, reduceIte, true_or, or_true, not_false_eq_true, not_true_eq_false, and_self, and_true, true_and, LIT, Int32.reduceLT, Int32.reduceLE, Int32.reduceToNatClampNeg]
        cases ha : askB V g w y
        · exact ⟨M1, rfl, G1, K1⟩
        · obtain ⟨gi, wi, hg, hw, _, _, eg, ew, hy, ts⟩ := tm.ts hV f1 h.2.2.1 ha
          rw [eg, ew]
          have hv1 := K1.2.2.2.2.2.1
          have h31 : aI M1 70 3 = nI (vN V 3) := by rw [← hv1.2.2.1 3 (by decide)]; exact (hv1.2.1 3 (by decide)).1
          have hc : (1 : Int32) <<< (aI M1 70 3 &&& 31) = nI (2 ^ vN V 3) := by rw [h31, shl_30 (by omega)]
          simp only [SW.all K1.1, hc, MR, ckk_T, deR_s, deQ_s, deQ_n, bkV_s, bkI_s, bkJ_s, bkQ_s, bkQ_n, ckb0, ckb1, ckb2, ckb3, eq_self, Nat.reduceEqDiff, Nat.reduceLeDiff, Nat.reduceLT, reduceIte, true_or, or_true, not_false_eq_true, not_true_eq_false, and_self, and_true, true_and, LIT, Int32.reduceLT, Int32.reduceLE, Int32.reduceToNatClampNeg, b2i_t]
          have K2 := K80I K1 3 (nI (2 ^ vN V 3) - 1)
          have G2 := G1.trans (G80I K1.2.2.2.1 3 (nI (2 ^ vN V 3) - 1))
          have T1 : TQ M1 V gi wi y := ⟨ts.1, ts.2.1, fun k hk => tm.op hV hk, tm.2.2.2.2⟩
          have T2 := T1.i3 (nI (2 ^ vN V 3) - 1)
          obtain ⟨M3, e3, f3, r3, K3⟩ := c_whole (by omega : 6 ≤ d) K2 hg hw T2.1 T2.2.1 (ok := fun m _ => vOp V y m) (fun m hm s => by rw [T2.2.2.1 m hm, T2.2.2.2, trC_all, Bool.and_true])
          rw [gI_s] at e3 r3
          rw [e3]
          simp only [MR, ckk_T, deR_s, deQ_s, deQ_n, bkV_s, bkI_s, bkJ_s, bkQ_s, bkQ_n, ckb0, ckb1, ckb2, ckb3, eq_self, Nat.reduceEqDiff, Nat.reduceLeDiff, Nat.reduceLT, reduceIte, true_or, or_true, not_false_eq_true, not_true_eq_false, and_self, and_true, true_and, LIT, Int32.reduceLT, Int32.reduceLE, Int32.reduceToNatClampNeg]
          have B := srch_end hV gi wi (nI (2 ^ vN V 3) - 1) (fun m _ => vOp V y m)
          have G3 := G2.trans (g81 K2.2.2.2.1 f3)
          by_cases q3 : (srch V gi wi (nI (2 ^ vN V 3) - 1) (fun m _ => vOp V y m)).2.2.2 = 3
          · rw [if_pos (by rw [q3]; rfl)]
            obtain ⟨M4, e4, f4, K4⟩ := wdC_out (D := d) (by omega) (x := x) (l1 := g) (l2 := w) (l5 := k) hg hw (vN V 3 + 1) 0 M3 none none none (by omega) K3 (T2.h81 f3) (fun j _ _ => Nat.zero_le _)
            exact ⟨M4, e4, G3.trans f4, K4⟩
          · have n3 : ¬ nI (srch V gi wi (nI (2 ^ vN V 3) - 1) (fun m _ => vOp V y m)).2.2.2 = 3 := fun z => q3 ((st_eq B.1.2.2.2.2.2.2.2.2 (by decide)).mp z)
            rw [if_neg n3, wd_no]
            · exact ⟨M3, rfl, G3, K3⟩
            · intro j hj
              unfold wdOk
              rw [decide_eq_false, Bool.and_false]
              intro z
              apply q3
              unfold srch at z ⊢
              exact b_all_mono l0 (by decide) (nxV_fc (fun i hi _ => bI_full (vN V 3) (by omega) i hi)) z
