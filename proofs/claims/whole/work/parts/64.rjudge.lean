/-! judgments: the reference -/
def P52 (o k : Nat) : Prop := o = 104 ∨ (o = 90 ∧ 52 ≤ k ∧ k ≤ 53)
theorem KR.f52 {M M' : ej_Mem} {V : View} {mk : Nat} (h : KR M V mk) (f : Fr P52 M M') : KR M' V mk := by
  obtain ⟨h1, h2, h3, h4, h5⟩ := h
  exact ⟨f.rw h1, h2.fr h3 f (fun o k q z => by unfold P52 at z; omega) (fun k q z => by unfold P52 at z; omega), h3, ⟨by rw [f.i (by unfold P52; omega)]; exact h4.1, by rw [f.i (by unfold P52; omega)]; exact h4.2.1, by rw [f.i (by unfold P52; omega)]; exact h4.2.2⟩, h5.fr f (fun j => by unfold P52; omega) (by unfold P52; omega)⟩
theorem g52 {M M' : ej_Mem} (f : Fr P52 M M') : FrG P8 M M' := f.g.mono (fun o k _ q => by unfold P52 at q; unfold P8; omega)
theorem may_nx {M : ej_Mem} {V : View} {mk : Nat} (h : KR M V mk) {gi mi : Nat} (hg : gi < vN V 1) (hm : mi < vN V 0) (y s : Int32) : rMay (aI M) (mI M 90 9) (rN (aI M) 3) gi y mi s = (nxV V gi (vF V) (fun m _ => vOp V y m) mi s).isSome := by
  have l3 := h.2.2.1.1 3 (by decide)
  have m3 : mst 3 = 8 := rfl
  have q := rMay_v h.2.1 (by omega) hg hm y s
  unfold nxV
  cases hm2 : rMay (aI M) (mI M 90 9) (rN (aI M) 3) gi y mi s
  · rw [if_neg]
    · rfl
    · rintro ⟨_, z⟩
      rw [q.mpr z] at hm2
      cases hm2
  · rw [if_pos ⟨hm, q.mp hm2⟩]; rfl
theorem KR.rl {M : ej_Mem} {V : View} {mk : Nat} (h : KR M V mk) {r : Nat} (hr : r < vRn V) : aI M 115 r = nI (vR V r).1 ∧ aI M 116 r = (vR V r).2.1 ∧ aI M 117 r = nI (vR V r).2.2.length ∧ ∀ j, j < (vR V r).2.2.length → aI M 118 (24 * r + j) = nI ((vR V r).2.2.getD j 0) := h.2.1.2.2.2.2.2.2.1.2 r hr
theorem judges_loop {D : Nat} (hD : 5 ≤ D) {V : View} {mk r mo : Nat} (hr : r < vRn V) (hmo : mo ≤ (vR V r).2.2.length) : ∀ (l : List Nat) (a : JD) (M : ej_Mem), l = ((vR V r).2.2.take mo).drop a.1 → a.1 ≤ mo → KR M V mk → mI M 90 52 = nI a.1 → mI M 90 53 = a.2.1 →
    ∃ M', rn jm_Ref_judges (cal D) 19 [some (.ref 90), some (.int (nI r)), some (.int (nI mo))] [] M = some (none, M') ∧ Fr P52 M M' ∧ mI M' 90 52 = nI (jdA V (vR V r).1 (vR V r).2.1 (vF V) l a).1 ∧ mI M' 90 53 = (jdA V (vR V r).1 (vR V r).2.1 (vF V) l a).2.1
  | [], a, M, hl, ha, h, q2, q3 => by
    have hV := h.2.2.1
    have h24 := (hV.2.2.2.1.2 r hr).2.1
    have hlen : mo ≤ a.1 := by
      have := congrArg List.length hl
      rw [List.length_drop, List.length_take] at this
      rw [List.length_nil] at this
      omega
    rw [eq_Ref_judges_19]
    simp only [RW.all h.1, q2, MR, ckk_T, deR_s, deQ_s, deQ_n, bkV_s, bkI_s, bkJ_s, bkQ_s, bkQ_n, ckb0, ckb1, ckb2, ckb3, eq_self, Nat.reduceEqDiff, Nat.reduceLeDiff, Nat.reduceLT, reduceIte, true_or, or_true, not_false_eq_true, not_true_eq_false, and_self, and_true, true_and, LIT, Int32.reduceLT, Int32.reduceLE, Int32.reduceToNatClampNeg]
    rw [if_pos (nI_le (by omega) (by omega))]
    exact ⟨M, rfl, Fr.refl _ M, q2, q3⟩
  | m :: rest, a, M, hl, ha, h, q2, q3 => by
    have hV := h.2.2.1
    have l0 := hV.le (show 0 < 4 by decide)
    have l1 := hV.1 1 (by decide)
    have m1 : mst 1 = 8 := rfl
    have h30 := hV.2.2.2.1.1
    have h24 := (hV.2.2.2.1.2 r hr).2.1
    have hlt : a.1 < ((vR V r).2.2.take mo).length := by
      have := congrArg List.length hl
      rw [List.length_drop] at this
      rw [List.length_cons] at this
      omega
    have hlt2 := hlt
    rw [List.length_take] at hlt2
    have hget : (vR V r).2.2.getD a.1 0 = m ∧ rest = ((vR V r).2.2.take mo).drop (a.1 + 1) := by
      rw [List.drop_eq_getElem_cons hlt] at hl
      injection hl with e1 e2
      refine ⟨?_, e2⟩
      rw [e1]
      simp [List.getD, show a.1 < (vR V r).2.2.length by omega]
    have hmem : m ∈ (vR V r).2.2 := by
      rw [← hget.1]
      simp [List.getD, show a.1 < (vR V r).2.2.length by omega]
    have hm : m < vN V 0 := (hV.2.2.2.1.2 r hr).2.2 m hmem
    have hg := (hV.2.2.2.1.2 r hr).1
    have ei : 24 * nI r + nI a.1 = nI (24 * r + a.1) := by
      rw [show (24 : Int32) = nI 24 from rfl, pk_mul, nI_add]
    rw [eq_Ref_judges_19]
    simp only [RW.all h.1, q2, q3, MR, ckk_T, deR_s, deQ_s, deQ_n, bkV_s, bkI_s, bkJ_s, bkQ_s, bkQ_n, ckb0, ckb1, ckb2, ckb3, eq_self, Nat.reduceEqDiff, Nat.reduceLeDiff, Nat.reduceLT, reduceIte, true_or, or_true, not_false_eq_true, not_true_eq_false, and_self, and_true, true_and, LIT, Int32.reduceLT, Int32.reduceLE, Int32.reduceToNatClampNeg]
    rw [if_neg (nI_ge (by omega) (by omega)), ckb_n (by omega) (by decide), nI_clamp (by omega), (h.rl hr).1, ckb_n (by omega) (by decide), (h.rl hr).2.1, ei, ckb_n (by omega) (by decide), nI_clamp (by omega), (h.rl hr).2.2.2 _ (by omega), hget.1]
    obtain ⟨s1, s2, s3⟩ := h.stops
    obtain ⟨g', e⟩ := (p_mayBe (by omega : 5 ≤ D) h.1 (show m < 40 by omega) (h.sl0 hm) (show (vR V r).1 < 8 by omega) (h.sl (show 1 < 4 by decide) hg) s1 s2 s3 (vR V r).2.1 a.2.1).self
    rw [e, may_nx h hg hm]
    unfold jdA
    cases hn : nxV V (vR V r).1 (vF V) (fun m _ => vOp V (vR V r).2.1 m) m a.2.1 with
    | none =>
      exact ⟨setF M 104 g', rfl, (fr104 M g').mono (fun o k q => Or.inl q), q2, q3⟩
    | some t =>
      have ht : t = vCh V m a.2.1 := by
        unfold nxV at hn
        split at hn
        · exact (Option.some.inj hn).symm
        · cases hn
      rw [show b2i (some t).isSome = 1 from rfl]
      simp only [RW.all h.1, q2, q3, MR, ckk_T, deR_s, deQ_s, deQ_n, bkV_s, bkI_s, bkJ_s, bkQ_s, bkQ_n, ckb0, ckb1, ckb2, ckb3, eq_self, Nat.reduceEqDiff, Nat.reduceLeDiff, Nat.reduceLT, reduceIte, true_or, or_true, not_false_eq_true, not_true_eq_false, and_self, and_true, true_and, LIT, Int32.reduceLT, Int32.reduceLE, Int32.reduceToNatClampNeg]
      rw [ei, ckb_n (by omega) (by decide), nI_clamp (by omega), (h.rl hr).2.2.2 _ (by omega), hget.1, p_behind (by omega) h.1 (show m < 40 by omega) (h.sl0 hm), rBeh_v h.2.1 hm, ← ht]
      simp only [RW.all h.1, q2, q3, MR, ckk_T, deR_s, deQ_s, deQ_n, bkV_s, bkI_s, bkJ_s, bkQ_s, bkQ_n, ckb0, ckb1, ckb2, ckb3, eq_self, Nat.reduceEqDiff, Nat.reduceLeDiff, Nat.reduceLT, reduceIte, true_or, or_true, not_false_eq_true, not_true_eq_false, and_self, and_true, true_and, LIT, Int32.reduceLT, Int32.reduceLE, Int32.reduceToNatClampNeg, up_n (show (52 : Nat) ≠ 53 by decide), nI_1]
      generalize hM1 : setI (setI (setF M 104 g') 90 53 t) 90 52 (nI (a.1 + 1)) = M1
      have f1 : Fr P52 M M1 := by
        rw [← hM1]
        exact (((fr104 M g').mono (fun o k q => Or.inl q)).trans (Fr.setI (P := P52) _ _ (Or.inr ⟨rfl, by omega, by omega⟩))).trans (Fr.setI (P := P52) _ _ (Or.inr ⟨rfl, by omega, by omega⟩))
      obtain ⟨M2, e2, f2, r2⟩ := judges_loop hD hr hmo rest (a.1 + 1, t, a.2.2.1 + tFe (vT V 0 m), a.2.2.2 + tDy (vT V 0 m)) M1 hget.2 (by show a.1 + 1 ≤ mo; omega) (h.f52 f1) (by rw [← hM1, gI_s]) (by rw [← hM1, gI_n (by omega), gI_s])
      exact ⟨M2, e2, f1.trans f2, r2⟩
