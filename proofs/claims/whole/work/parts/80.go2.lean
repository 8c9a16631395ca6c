theorem c_go {D : Nat} (hD : 8 ≤ D) {M : ej_Mem} {own : Nat → Nat} {V : View} (h : KC M own V) (n : Int32) : ∃ M', cal D jm_Suit_go [.ref 59, .int n] M = some (some (.int (a_go V n)), M') ∧ FrG (P2 own) M M' ∧ KC M' own (u_go V n) := by
  obtain ⟨d, rfl⟩ : ∃ d, D = d + 1 := ⟨D - 1, by omega⟩
  have hV := h.2.2.2.2.2.2.1
  have hv := h.2.2.2.2.2.1
  rw [ca_Suit_go, eq_Suit_go_0]
  simp only [SW.all h.1, MR, ckk_T, deR_s, deQ_s, deQ_n, bkV_s, bkI_s, bkJ_s, bkQ_s, bkQ_n, ckb0, ckb1, ckb2, ckb3, eq_self, Nat.reduceEqDiff, Nat.reduceLeDiff, Nat.reduceLT, reduceIte, true_or, or_true, not_false_eq_true, not_true_eq_false, and_self, and_true, true_and, LIT, Int32.reduceLT, Int32.reduceLE, Int32.reduceToNatClampNeg]
  unfold a_go u_go
  have no : goOk V n = false → ∃ M', (some (some (Value.int (-1)), M) : Option ej_R) = some (some (.int (if goOk V n = true then nI ((goB V n.toNatClampNeg).2.2.1 - (vB V).2.2.1) else -1)), M') ∧ FrG (P2 own) M M' ∧ KC M' own (if goOk V n = true then setVB V (goB V n.toNatClampNeg) (vG V) (vW V) (vY V) else V) := by
    intro e
    rw [e]
    exact ⟨M, rfl, FrG.refl _ M, h⟩
  rcases hv.2.2.2.2.2.2.2.2.1 with ⟨e7, eb⟩ | ⟨hh, e7, H⟩
  · rw [e7]
    simp only [MR, ckk_T, deR_s, deQ_s, deQ_n, bkV_s, bkI_s, bkJ_s, bkQ_s, bkQ_n, ckb0, ckb1, ckb2, ckb3, eq_self, Nat.reduceEqDiff, Nat.reduceLeDiff, Nat.reduceLT, reduceIte, true_or, or_true, not_false_eq_true, not_true_eq_false, and_self, and_true, true_and, LIT, Int32.reduceLT, Int32.reduceLE, Int32.reduceToNatClampNeg]
    have := no (by unfold goOk; rw [eb]; show (_ && decide (¬ (0 : Nat) = 0)) = false; simp)
    split
    · exact this
    · split
      · exact this
      · exact this
  · rw [e7]
    simp only [MR, ckk_T, deR_s, deQ_s, deQ_n, bkV_s, bkI_s, bkJ_s, bkQ_s, bkQ_n, ckb0, ckb1, ckb2, ckb3, eq_self, Nat.reduceEqDiff, Nat.reduceLeDiff, Nat.reduceLT, reduceIte, true_or, or_true, not_false_eq_true, not_true_eq_false, and_self, and_true, true_and, LIT, Int32.reduceLT, Int32.reduceLE, Int32.reduceToNatClampNeg]
    cases hn : inB n 1 4000
    · have hx : ¬ (¬ n < 1 ∧ ¬ 4000 < n) := fun z => by rw [(in4000 n).mpr z] at hn; cases hn
      have no2 := no (by unfold goOk; rw [hn]; rfl)
      by_cases q1 : n < 1
      · rw [if_pos q1]; exact no2
      · rw [if_neg q1, if_pos (show 4000 < n by
          by_cases z : 4000 < n
          · exact z
          · exact absurd ⟨q1, z⟩ hx)]
        exact no2
    · have hp := (in4000 n).mp hn
      obtain ⟨j, j1, j2, rfl⟩ := in4000_get hn
      rw [if_neg hp.1, if_neg hp.2]
      have c1 : mC M hh = 1 := H.1.1.1
      have i7 : mI M hh 7 = nI (vB V).2.2.2 := H.2.1.2.2
      simp only [SW.all h.1, c1, i7, MR, ckk_T, deR_s, deQ_s, deQ_n, bkV_s, bkI_s, bkJ_s, bkQ_s, bkQ_n, ckb0, ckb1, ckb2, ckb3, eq_self, Nat.reduceEqDiff, Nat.reduceLeDiff, Nat.reduceLT, reduceIte, true_or, or_true, not_false_eq_true, not_true_eq_false, and_self, and_true, true_and, LIT, Int32.reduceLT, Int32.reduceLE, Int32.reduceToNatClampNeg]
      by_cases q : (vB V).2.2.2 = 0
      · rw [if_pos (by rw [q]; rfl)]
        exact no (by unfold goOk; rw [hn, decide_eq_false (fun z => z q)]; rfl)
      · obtain ⟨b1, b2, b3, b4⟩ := hV.b1 q
        have hst := b1.2.2.2.2.2.2.2.2
        have l1 := hV.le (show 1 < 4 by decide)
        have l2 := hV.le (show 2 < 4 by decide)
        have n0 : ¬ nI (vB V).2.2.2 = 0 := fun z => q ((nI_eq (a := (vB V).2.2.2) (b := 0) (by omega) (by decide)).mp z)
        rw [if_neg n0]
        have hOk : goOk V (nI j) = true := by unfold goOk; rw [hn, decide_eq_true q]; rfl
        rw [hOk, if_pos rfl, if_pos rfl, nI_clamp (by omega)]
        have nb : vB V ≠ b_none := fun z => q (by rw [z]; rfl)
        obtain ⟨i8, i9, i10⟩ := hv.2.2.2.2.2.2.2.2.2 nb
        rw [i8, i9, i10]
        obtain ⟨M1, e1, f1, tm⟩ := p_setTerms (by omega : 2 ≤ d) h (nI (vG V)) (nI (vW V)) (vY V)
        have K1 := Pq80 h f1
        have G1 := g80 h.2.2.2.1 f1
        rw [e1]
        simp only [SW.all K1.1, MR, ckk_T, deR_s, deQ_s, deQ_n, bkV_s, bkI_s, bkJ_s, bkQ_s, bkQ_n, ckb0, ckb1, ckb2, ckb3, eq_self, Nat.reduceEqDiff, Nat.reduceLeDiff, Nat.reduceLT, reduceIte, true_or, or_true, not_false_eq_true, not_true_eq_false, and_self, and_true, true_and, LIT, Int32.reduceLT, Int32.reduceLE, Int32.reduceToNatClampNeg]
        have hz := h.2.2.1
        have s68 := f1.all (o := 68) ⟨by omega, fun k q => by omega⟩
        have wl : ∀ k i, wL M1 68 k i = wL M 68 k i := by
          intro k i
          unfold wL
          rw [(f1.all (o := 69) ⟨by omega, fun k q => by omega⟩).2.2.2.2]
        have e71 : mR M1 68 7 = some hh := by rw [s68.2.2.1]; exact e7
        have r0 : mR M1 80 0 = some (wL M1 68 1 (vG V)) := by rw [tm.1, if_pos ((hasB_iff (by omega)).mpr ⟨_, b3, rfl⟩), wl, nI_clamp (by omega)]
        have r1 : mR M1 80 1 = some (wL M1 68 2 (vW V)) := by rw [tm.2.1, if_pos ((hasB_iff (by omega)).mpr ⟨_, b4, rfl⟩), wl, nI_clamp (by omega)]
        have C := K1.hcS e71 b3 b4 r0 r1
        have H1 := (K1.sr e71).2
        obtain ⟨M2, e2, f2, H2⟩ := p_runC (by omega : 6 ≤ d) (n0 := j) (by omega) hz4 C H1 b1
        have hv1 := K1.2.2.2.2.2.1
        have ec : nxV V (vG V) (mI M1 80 3) (fun m s => bJ (mL M1 80 2) m && trC V (mI M1 80 4) m s) = nxV V (vG V) (vF V) (fun m _ => vOp V (vY V) m) := by
          rw [tm.2.2.2.1]
          exact nxV_congr (fun m hm s => by rw [tm.op hV hm, tm.2.2.2.2, trC_all, Bool.and_true])
        rw [hv1.2.2.1 0 (by decide), nxC_v hv1 b3, wsC_v hv1 b4, ec] at e2 H2
        rw [e2]
        simp only [MR, ckk_T, deR_s, deQ_s, deQ_n, bkV_s, bkI_s, bkJ_s, bkQ_s, bkQ_n, ckb0, ckb1, ckb2, ckb3, eq_self, Nat.reduceEqDiff, Nat.reduceLeDiff, Nat.reduceLT, reduceIte, true_or, or_true, not_false_eq_true, not_true_eq_false, and_self, and_true, true_and, LIT, Int32.reduceLT, Int32.reduceLE, Int32.reduceToNatClampNeg]
        obtain ⟨K2, G2⟩ := K1.sought e71 f2 H2 (g := vG V) (w := vW V) (y := vY V) (by rw [s68.1]; exact ⟨i8, i9, i10⟩) (hV.go q j)
        exact ⟨M2, ckk_t H1.1.1.1 _, (g72 G1).trans G2, K2⟩
theorem r_go {D : Nat} (hD : 8 ≤ D) {M : ej_Mem} {V : View} {mk : Nat} (h : KR M V mk) (hmk : mk < 2 ^ 29) (n : Int32) : ∃ M' mk', cal D jm_Ref_go [.ref 90, .int n] M = some (some (.int (a_go V n)), M') ∧ FrG P8 M M' ∧ KR M' (u_go V n) mk' ∧ mk' ≤ mk + 1 := by
  obtain ⟨_, h2, hV, _⟩ := id h
  have l3 := hV.1 3 (by decide)
  have m3 : mst 3 = 8 := rfl
  have f31 : mI M 90 31 = nI (vB V).2.2.2 := h2.2.2.2.2.2.2.2.1.1.1
  unfold a_go u_go
  cases hn : inB n 1 4000
  · have e : goOk V n = false := by unfold goOk; rw [hn]; rfl
    obtain ⟨d, rfl⟩ : ∃ d, D = d + 1 := ⟨D - 1, by omega⟩
    rw [e]
    exact ⟨M, mk, p_goR_n (by omega) h.1 (Or.inl hn), FrG.refl _ M, h, by omega⟩
  · by_cases q : (vB V).2.2.2 = 0
    · have e : goOk V n = false := by unfold goOk; rw [decide_eq_false (fun z => z q), Bool.and_false]
      obtain ⟨d, rfl⟩ : ∃ d, D = d + 1 := ⟨D - 1, by omega⟩
      rw [e]
      exact ⟨M, mk, p_goR_n (by omega) h.1 (Or.inr (by rw [f31, q]; rfl)), FrG.refl _ M, h, by omega⟩
    · obtain ⟨b1, b2, b3, b4⟩ := hV.b1 q
      obtain ⟨j, j1, j2, rfl⟩ := in4000_get hn
      have hOk : goOk V (nI j) = true := by unfold goOk; rw [hn, decide_eq_true q]; rfl
      rw [hOk, if_pos rfl, if_pos rfl, nI_clamp (by omega)]
      have nb : vB V ≠ b_none := fun z => q (by rw [z]; rfl)
      obtain ⟨i34, i35, i36⟩ := h2.2.2.2.2.2.2.2.2 nb
      have X : GX M (vG V) (vW V) (vY V) := ⟨⟨h.1, h2.1, by rw [h2.2.1 1 (by decide)]; exact b3, fun i e => by cases e; rw [h2.2.1 2 (by decide)]; exact b4⟩, i34, i35, i36⟩
      obtain ⟨M', e, f, H, K⟩ := p_goR (by omega : 7 ≤ D) j1 j2 X (RG_c.mpr h2.2.2.2.2.2.2.2.1) h.2.2.2.2 (by omega) b1
      rw [h2.2.1 0 (by decide), nxG_v h2 (by omega) b3, wsR_v h2 b4] at e H
      have ai : ∀ o, ((92 ≤ o ∧ o ≤ 103) ∨ (115 ≤ o ∧ o ≤ 118)) → aI M' o = aI M o := fun o ho => f.af (fun k q => by unfold Pgo at q; omega)
      have mi : ∀ k, (k = 9 ∨ k = 34 ∨ k = 35 ∨ k = 36 ∨ k = 47 ∨ (40 ≤ k ∧ k ≤ 42)) → mI M' 90 k = mI M 90 k := fun k hk => f.i (fun q => by unfold Pgo at q; omega)
      refine ⟨M', mk + 1, e, f.g.mono (fun o k _ q => by unfold Pgo at q; unfold P8; omega), ⟨f.rw h.1, ?_, hV.go q j, ⟨by rw [mi 40 (by omega)]; exact h.2.2.2.1.1, by rw [mi 41 (by omega)]; exact h.2.2.2.1.2.1, by rw [mi 42 (by omega)]; exact h.2.2.2.1.2.2⟩, K⟩, by omega⟩
      refine h2.new (fun k _ => by rw [ai 92 (by omega)]) (fun k _ i _ => ⟨by rw [ai 95 (by omega)], fun q _ _ => ⟨by rw [ai 96 (by omega)], by rw [ai 97 (by omega)], by rw [ai 98 (by omega)], by rw [ai 99 (by omega)]⟩, fun e _ _ => ⟨by rw [ai 93 (by omega)], by rw [ai 94 (by omega)]⟩⟩) ⟨rfl, rfl⟩ ?_ ?_ ?_ ?_ (RG_c.mp H) (fun _ => ?_)
      · rw [ai 101 (by omega), ai 102 (by omega)]; exact h2.2.2.2.1
      · rw [mi 9 (by omega)]; exact h2.2.2.2.2.1
      · rw [ai 103 (by omega)]; exact h2.2.2.2.2.2.1
      · have r := h2.2.2.2.2.2.2.1
        unfold RlR at r ⊢
        rw [mi 47 (by omega), ai 115 (by omega), ai 116 (by omega), ai 117 (by omega), ai 118 (by omega)]
        exact r
      · rw [mi 34 (by omega), mi 35 (by omega), mi 36 (by omega)]
        exact ⟨i34, i35, i36⟩
