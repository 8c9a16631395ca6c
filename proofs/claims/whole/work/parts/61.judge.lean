/-! judgments: the class -/
abbrev JD : Type := Nat × Int32 × Int32 × Int32
def jdA (V : View) (gi : Nat) (y fc : Int32) : List Nat → JD → JD
  | [], a => a
  | m :: r, a => match nxV V gi fc (fun m _ => vOp V y m) m a.2.1 with
    | none => a
    | some t => jdA V gi y fc r (a.1 + 1, t, a.2.2.1 + tFe (vT V 0 m), a.2.2.2 + tDy (vT V 0 m))
theorem jdA_le {V : View} {gi : Nat} {y fc : Int32} : ∀ (l : List Nat) (a : JD), a.1 ≤ (jdA V gi y fc l a).1 ∧ (jdA V gi y fc l a).1 ≤ a.1 + l.length
  | [], a => ⟨Nat.le_refl _, Nat.le_refl _⟩
  | m :: r, a => by
    unfold jdA
    cases nxV V gi fc (fun m _ => vOp V y m) m a.2.1 with
    | none => exact ⟨Nat.le_refl _, by simp⟩
    | some t =>
      have := jdA_le (V := V) (gi := gi) (y := y) (fc := fc) r (a.1 + 1, t, a.2.2.1 + tFe (vT V 0 m), a.2.2.2 + tDy (vT V 0 m))
      simp only [List.length_cons]
      simp only at this
      exact ⟨by omega, by omega⟩
def P88 (o k : Nat) : Prop := o = 89 ∨ (o = 88 ∧ 1 ≤ k)
theorem K88 {own : Nat → Nat} {M M' : ej_Mem} {V : View} (h : KC M own V) (f : FrG P88 M M') : KC M' own V := by
  have f2 : FrG Pq M M' := f.mono (fun o k _ q => by unfold P88 at q; unfold Pq; omega)
  obtain ⟨b, hb⟩ := h.2.2.2.2.2.2.2
  refine h.query f2 ⟨b, hb.g f (fun o h1 h2 => ⟨by have := h.2.2.1; omega, fun k q => by unfold P88 at q; omega⟩)⟩
theorem g88 {own : Nat → Nat} {M M' : ej_Mem} (h : OwnB own M) (f : FrG P88 M M') : FrG (P7 own) M M' := f.mono (fun o k _ q => by unfold P88 at q; unfold P7; omega)
theorem p_rollHas {D : Nat} (hD : 1 ≤ D) {M : ej_Mem} {own : Nat → Nat} {V : View} (h : KC M own V) (r : Int32) : cal D jm_Rolls_has [.ref 74, .int r] M = some (some (.int (b2i (hasB (vRn V) r))), M) := by
  obtain ⟨d, rfl⟩ : ∃ d, D = d + 1 := ⟨D - 1, by omega⟩
  have hr : mI M 74 0 = nI (vRn V) := h.2.2.2.2.2.1.2.2.2.2.2.2.2.1.1
  rw [ca_Rolls_has, eq_Rolls_has_0]
  simp only [SW.all h.1, hr, MR, ckk_T, deR_s, deQ_s, deQ_n, bkV_s, bkI_s, bkJ_s, bkQ_s, bkQ_n, ckb0, ckb1, ckb2, ckb3, eq_self, Nat.reduceEqDiff, Nat.reduceLeDiff, Nat.reduceLT, reduceIte, true_or, or_true, not_false_eq_true, not_true_eq_false, and_self, and_true, true_and, LIT, Int32.reduceLT, Int32.reduceLE, Int32.reduceToNatClampNeg]
  unfold hasB
  by_cases q1 : r < 0
  · rw [if_pos q1, decide_eq_false (fun z => absurd q1 (Int32.not_lt.mpr z.1))]; rfl
  · rw [if_neg q1]
    by_cases q2 : nI (vRn V) ≤ r
    · rw [if_pos q2, decide_eq_false (fun z => absurd z.2 (Int32.not_lt.mpr q2))]; rfl
    · rw [if_neg q2, decide_eq_true ⟨Int32.not_lt.mp q1, Int32.not_le.mp q2⟩]; rfl
theorem KC.rl {M : ej_Mem} {own : Nat → Nat} {V : View} (h : KC M own V) {r : Nat} (hr : r < vRn V) : aI M 75 r = nI (vR V r).1 ∧ aI M 76 r = (vR V r).2.1 ∧ aI M 77 r = nI (vR V r).2.2.length ∧ ∀ j, j < (vR V r).2.2.length → aI M 78 (24 * r + j) = nI ((vR V r).2.2.getD j 0) := h.2.2.2.2.2.1.2.2.2.2.2.2.2.1.2 r hr
theorem p_rollLen {D : Nat} (hD : 2 ≤ D) {M : ej_Mem} {own : Nat → Nat} {V : View} (h : KC M own V) {r : Nat} (hr : r < vRn V) : cal D jm_Rolls_length [.ref 74, .int (nI r)] M = some (some (.int (nI (vR V r).2.2.length)), M) := by
  obtain ⟨d, rfl⟩ : ∃ d, D = d + 1 := ⟨D - 1, by omega⟩
  have h30 := h.2.2.2.2.2.2.1.2.2.2.1.1
  rw [ca_Rolls_length, eq_Rolls_length_0]
  simp only [SW.all h.1, MR, ckk_T, deR_s, deQ_s, deQ_n, bkV_s, bkI_s, bkJ_s, bkQ_s, bkQ_n, ckb0, ckb1, ckb2, ckb3, eq_self, Nat.reduceEqDiff, Nat.reduceLeDiff, Nat.reduceLT, reduceIte, true_or, or_true, not_false_eq_true, not_true_eq_false, and_self, and_true, true_and, LIT, Int32.reduceLT, Int32.reduceLE, Int32.reduceToNatClampNeg]
  rw [p_rollHas (by omega) h, (hasB_iff (by omega)).mpr ⟨r, hr, rfl⟩]
  simp only [SW.all h.1, MR, ckk_T, deR_s, deQ_s, deQ_n, bkV_s, bkI_s, bkJ_s, bkQ_s, bkQ_n, ckb0, ckb1, ckb2, ckb3, eq_self, Nat.reduceEqDiff, Nat.reduceLeDiff, Nat.reduceLT, reduceIte, true_or, or_true, not_false_eq_true, not_true_eq_false, and_self, and_true, true_and, LIT, Int32.reduceLT, Int32.reduceLE, Int32.reduceToNatClampNeg, b2i_t]
  rw [ckb_n (by omega) (by decide), nI_clamp (by omega), (h.rl hr).2.2.1]
theorem p_rollMove {D : Nat} (hD : 3 ≤ D) {M : ej_Mem} {own : Nat → Nat} {V : View} (h : KC M own V) {r k : Nat} (hr : r < vRn V) (hk : k < (vR V r).2.2.length) : cal D jm_Rolls_move [.ref 74, .int (nI r), .int (nI k)] M = some (some (.int (nI ((vR V r).2.2.getD k 0))), M) := by
  obtain ⟨d, rfl⟩ : ∃ d, D = d + 1 := ⟨D - 1, by omega⟩
  have h30 := h.2.2.2.2.2.2.1.2.2.2.1.1
  have h24 := (h.2.2.2.2.2.2.1.2.2.2.1.2 r hr).2.1
  rw [ca_Rolls_move, eq_Rolls_move_0, if_neg (nI_pos (by omega))]
  simp only [SW.all h.1, MR, ckk_T, deR_s, deQ_s, deQ_n, bkV_s, bkI_s, bkJ_s, bkQ_s, bkQ_n, ckb0, ckb1, ckb2, ckb3, eq_self, Nat.reduceEqDiff, Nat.reduceLeDiff, Nat.reduceLT, reduceIte, true_or, or_true, not_false_eq_true, not_true_eq_false, and_self, and_true, true_and, LIT, Int32.reduceLT, Int32.reduceLE, Int32.reduceToNatClampNeg]
  rw [p_rollLen (by omega) h hr]
  simp only [SW.all h.1, MR, ckk_T, deR_s, deQ_s, deQ_n, bkV_s, bkI_s, bkJ_s, bkQ_s, bkQ_n, ckb0, ckb1, ckb2, ckb3, eq_self, Nat.reduceEqDiff, Nat.reduceLeDiff, Nat.reduceLT, reduceIte, true_or, or_true, not_false_eq_true, not_true_eq_false, and_self, and_true, true_and, LIT, Int32.reduceLT, Int32.reduceLE, Int32.reduceToNatClampNeg]
  have e : nI r * 24 + nI k = nI (24 * r + k) := by
    rw [show (24 : Int32) = nI 24 from rfl, pk_mul, nI_add, Nat.mul_comm]
  rw [if_neg (nI_ge hk (by omega)), e, ckb_n (by omega) (by decide), nI_clamp (by omega), (h.rl hr).2.2.2 k hk]
theorem judg_loop {D : Nat} (hD : 5 ≤ D) {own : Nat → Nat} {V : View} {r mo : Nat} {y fc : Int32} {gi : Nat} (hg : gi < vN V 1) (hr : r < vRn V) (hmo : mo ≤ 4000) (hy : (vR V r).2.1 = y) : ∀ (l : List Nat) (a : JD) (M : ej_Mem) (o6 o7 o8 : Option Value), l = ((vR V r).2.2.take mo).drop a.1 → a.1 ≤ ((vR V r).2.2.take mo).length → KC M own V → mR M 89 0 = some (wL M 68 1 gi) → mI M 89 3 = fc → (∀ k, k < vN V 0 → bJ (mL M 89 2) k = vOp V y k) →
    mI M 88 2 = a.2.1 → mI M 88 3 = nI a.1 → mI M 88 4 = a.2.2.1 → mI M 88 5 = a.2.2.2 → bI a.2.1 31 = false →
    ∃ M', rn jm_Judg_run (cal D) 105 [some (.ref 88), some (.ref 68), some (.int (nI r)), some (.int fc), some (.int (nI mo)), some (.ref (wL M 68 1 gi)), o6, o7, o8] [] M = some (some (.int 1), M') ∧ FrG (fun o k => o = 88 ∧ 2 ≤ k) M M' ∧ (mI M' 88 2 = (jdA V gi y fc l a).2.1 ∧ mI M' 88 3 = nI (jdA V gi y fc l a).1 ∧ mI M' 88 4 = (jdA V gi y fc l a).2.2.1 ∧ mI M' 88 5 = (jdA V gi y fc l a).2.2.2)
  | [], a, M, o6, o7, o8, hl, ha, h, t0, t3, tm, q2, q3, q4, q5, hb => by
    have hV := h.2.2.2.2.2.2.1
    have h24 := (hV.2.2.2.1.2 r hr).2.1
    have hlen : ((vR V r).2.2.take mo).length ≤ a.1 := by
      have := congrArg List.length hl
      rw [List.length_drop] at this
      rw [List.length_nil] at this
      omega
    rw [List.length_take] at hlen ha
    rw [eq_Judg_run_105]
    simp only [SW.all h.1, q3, MR, ckk_T, deR_s, deQ_s, deQ_n, bkV_s, bkI_s, bkJ_s, bkQ_s, bkQ_n, ckb0, ckb1, ckb2, ckb3, eq_self, Nat.reduceEqDiff, Nat.reduceLeDiff, Nat.reduceLT, reduceIte, true_or, or_true, not_false_eq_true, not_true_eq_false, and_self, and_true, true_and, LIT, Int32.reduceLT, Int32.reduceLE, Int32.reduceToNatClampNeg]
    refine ⟨M, ?_, FrG.refl _ M, q2, q3, q4, q5⟩
    by_cases z : mo ≤ a.1
    · rw [if_pos (nI_le z (by omega))]
    · rw [if_neg (nI_ge (by omega) (by omega)), p_rollLen (by omega) h hr]
      simp only [SW.all h.1, q3, MR, ckk_T, deR_s, deQ_s, deQ_n, bkV_s, bkI_s, bkJ_s, bkQ_s, bkQ_n, ckb0, ckb1, ckb2, ckb3, eq_self, Nat.reduceEqDiff, Nat.reduceLeDiff, Nat.reduceLT, reduceIte, true_or, or_true, not_false_eq_true, not_true_eq_false, and_self, and_true, true_and, LIT, Int32.reduceLT, Int32.reduceLE, Int32.reduceToNatClampNeg]
      rw [if_pos (nI_le (by omega) (by omega))]
  | m :: rest, a, M, o6, o7, o8, hl, ha, h, t0, t3, tm, q2, q3, q4, q5, hb => by
    have hV := h.2.2.2.2.2.2.1
    have hv := h.2.2.2.2.2.1
    have l0 := hV.le (show 0 < 4 by decide)
    have h24 := (hV.2.2.2.1.2 r hr).2.1
    have hlt : a.1 < ((vR V r).2.2.take mo).length := by
      have := congrArg List.length hl
      rw [List.length_drop] at this
      rw [List.length_cons] at this
      omega
    have hlt2 := hlt
    rw [List.length_take] at hlt2
    have hget : (vR V r).2.2.getD a.1 0 = m ∧ rest = ((vR V r).2.2.take mo).drop (a.1 + 1) := by
      rw [List.drop_eq_getElem_cons hlt] at hl
      injection hl with e1 e2
      refine ⟨?_, e2⟩
      rw [e1]
      simp [List.getD, show a.1 < (vR V r).2.2.length by omega]
    have hmem : m ∈ (vR V r).2.2 := by
      rw [← hget.1]
      simp [List.getD, show a.1 < (vR V r).2.2.length by omega]
    have hm : m < vN V 0 := (hV.2.2.2.1.2 r hr).2.2 m hmem
    have hW := ((hv.2.1 0 (by decide)).2.2 m (by rw [hv.2.2.1 0 (by decide)]; exact hm)).2
    have hG : WA M (wL M 68 1 gi) := ((hv.2.1 1 (by decide)).2.2 gi (by rw [hv.2.2.1 1 (by decide)]; exact hg)).2
    have c89 : mC M 89 = 6 := (SW.all h.1).2.2.2.2.2.2.2.2.2.2.2.2.2.2.2.2.2.2.2.2.2.2.2.2.2.2.2.2.2.2.1
    rw [eq_Judg_run_105]
    simp only [SW.all h.1, q3, MR, ckk_T, deR_s, deQ_s, deQ_n, bkV_s, bkI_s, bkJ_s, bkQ_s, bkQ_n, ckb0, ckb1, ckb2, ckb3, eq_self, Nat.reduceEqDiff, Nat.reduceLeDiff, Nat.reduceLT, reduceIte, true_or, or_true, not_false_eq_true, not_true_eq_false, and_self, and_true, true_and, LIT, Int32.reduceLT, Int32.reduceLE, Int32.reduceToNatClampNeg]
    rw [if_neg (nI_ge (by omega) (by omega)), p_rollLen (by omega) h hr]
    simp only [SW.all h.1, q3, MR, ckk_T, deR_s, deQ_s, deQ_n, bkV_s, bkI_s, bkJ_s, bkQ_s, bkQ_n, ckb0, ckb1, ckb2, ckb3, eq_self, Nat.reduceEqDiff, Nat.reduceLeDiff, Nat.reduceLT, reduceIte, true_or, or_true, not_false_eq_true, not_true_eq_false, and_self, and_true, true_and, LIT, Int32.reduceLT, Int32.reduceLE, Int32.reduceToNatClampNeg]
    rw [if_neg (nI_ge (by omega) (by omega)), p_rollMove (by omega) h hr (by omega), hget.1]
    simp only [SW.all h.1, q3, MR, ckk_T, deR_s, deQ_s, deQ_n, bkV_s, bkI_s, bkJ_s, bkQ_s, bkQ_n, ckb0, ckb1, ckb2, ckb3, eq_self, Nat.reduceEqDiff, Nat.reduceLeDiff, Nat.reduceLT, reduceIte, true_or, or_true, not_false_eq_true, not_true_eq_false, and_self, and_true, true_and, LIT, Int32.reduceLT, Int32.reduceLE, Int32.reduceToNatClampNeg]
    rw [p_writ_s (by omega) h.2.1 hv.1 hv.2.1 ks0 (by decide) (by rw [hv.2.2.1 0 (by decide)]; exact hm)]
    simp only [SW.all h.1, q2, MR, ckk_T, deR_s, deQ_s, deQ_n, bkV_s, bkI_s, bkJ_s, bkQ_s, bkQ_n, ckb0, ckb1, ckb2, ckb3, eq_self, Nat.reduceEqDiff, Nat.reduceLeDiff, Nat.reduceLT, reduceIte, true_or, or_true, not_false_eq_true, not_true_eq_false, and_self, and_true, true_and, LIT, Int32.reduceLT, Int32.reduceLE, Int32.reduceToNatClampNeg]
    rw [p_ledTo (by omega) h.2.1 hv.1 hv.2.1 c89 t0 hG (by rw [hv.2.2.1 0 (by decide)]; exact hm), ledC_v hv hg _ _ hm, t3]
    have ec : nxV V gi fc (fun m _ => bJ (mL M 89 2) m) = nxV V gi fc (fun m _ => vOp V y m) := nxV_congr (fun m hm s => tm m hm)
    rw [ec]
    simp only [SW.all h.1, MR, ckk_T, deR_s, deQ_s, deQ_n, bkV_s, bkI_s, bkJ_s, bkQ_s, bkQ_n, ckb0, ckb1, ckb2, ckb3, eq_self, Nat.reduceEqDiff, Nat.reduceLeDiff, Nat.reduceLT, reduceIte, true_or, or_true, not_false_eq_true, not_true_eq_false, and_self, and_true, true_and, LIT, Int32.reduceLT, Int32.reduceLE, Int32.reduceToNatClampNeg]
    unfold jdA
    cases hn : nxV V gi fc (fun m _ => vOp V y m) m a.2.1 with
    | none =>
      rw [if_pos (show (none : Option Int32).getD (-1) = -1 from rfl)]
      exact ⟨M, rfl, FrG.refl _ M, q2, q3, q4, q5⟩
    | some t =>
      have ht : t = vCh V m a.2.1 := by
        unfold nxV at hn
        split at hn
        · exact (Option.some.inj hn).symm
        · cases hn
      have htb : bI t 31 = false := by rw [ht]; exact vCh_pos hV hm hb
      have hne : ¬ t = -1 := by
        intro q
        rw [q, m1_bit] at htb
        cases htb
      rw [if_neg (show ¬ (some t).getD (-1) = -1 from hne)]
      simp only [SW.all h.1, hW.1, MR, ckk_T, deR_s, deQ_s, deQ_n, bkV_s, bkI_s, bkJ_s, bkQ_s, bkQ_n, ckb0, ckb1, ckb2, ckb3, eq_self, Nat.reduceEqDiff, Nat.reduceLeDiff, Nat.reduceLT, reduceIte, true_or, or_true, not_false_eq_true, not_true_eq_false, and_self, and_true, true_and, LIT, Int32.reduceLT, Int32.reduceLE, Int32.reduceToNatClampNeg]
      have w88 : wL M 68 0 m ≠ 88 := by
        intro e
        have := hW.1
        rw [e] at this
        have c := (SW.all h.1).2.2.2.2.2.2.2.2.2.2.2.2.2.2.2.2.2.2.2.2.2.2.2.2.2.2.2.2.2.1
        rw [c] at this
        cases this
      simp only [if_neg w88, up_n (show (4 : Nat) ≠ 2 by decide), up_n (show (5 : Nat) ≠ 4 by decide), up_n (show (5 : Nat) ≠ 2 by decide), up_n (show (3 : Nat) ≠ 5 by decide), up_n (show (3 : Nat) ≠ 4 by decide), up_n (show (3 : Nat) ≠ 2 by decide), q3, q4, q5, nI_1]
      have hfe : mI M (wL M 68 0 m) 3 = tFe (vT V 0 m) := by rw [← hv.txt (by decide) hm]; rfl
      have hdy : mI M (wL M 68 0 m) 2 = tDy (vT V 0 m) := by rw [← hv.txt (by decide) hm]; rfl
      rw [hfe, hdy]
      show ∃ M', rn jm_Judg_run (cal D) 105 [some (.ref 88), some (.ref 68), some (.int (nI r)), some (.int fc), some (.int (nI mo)), some (.ref (wL M 68 1 gi)), some (.int (nI m)), some (.ref (wL M 68 0 m)), some (.int t)] [] (setI (setI (setI (setI M 88 2 t) 88 4 (a.2.2.1 + tFe (vT V 0 m))) 88 5 (a.2.2.2 + tDy (vT V 0 m))) 88 3 (nI (a.1 + 1))) = _ ∧ _
      generalize hM1 : setI (setI (setI (setI M 88 2 t) 88 4 (a.2.2.1 + tFe (vT V 0 m))) 88 5 (a.2.2.2 + tDy (vT V 0 m))) 88 3 (nI (a.1 + 1)) = M1
      have f1 : FrG (fun o k => o = 88 ∧ 2 ≤ k) M M1 := by
        rw [← hM1]
        exact (((FrG.setI (P := fun o k => o = 88 ∧ 2 ≤ k) M _ (by omega)).trans (FrG.setI (P := fun o k => o = 88 ∧ 2 ≤ k) _ _ (by omega))).trans (FrG.setI (P := fun o k => o = 88 ∧ 2 ≤ k) _ _ (by omega))).trans (FrG.setI (P := fun o k => o = 88 ∧ 2 ≤ k) _ _ (by omega))
      have K1 := K88 h (f1.mono (fun o k _ q => by unfold P88; omega))
      have wl : wL M1 68 1 gi = wL M 68 1 gi := by rw [← hM1]; rfl
      have s89 := f1.all (o := 89) ⟨by have := h.2.2.1; omega, fun k q => by omega⟩
      obtain ⟨M2, e2, f2, r2⟩ := judg_loop (fc := fc) (y := y) hD hg hr hmo hy rest (a.1 + 1, t, a.2.2.1 + tFe (vT V 0 m), a.2.2.2 + tDy (vT V 0 m)) M1 (some (.int (nI m))) (some (.ref (wL M 68 0 m))) (some (.int t)) hget.2 hlt K1 (by rw [s89.2.2.1, wl]; exact t0) (by rw [s89.1]; exact t3) (by rw [s89.2.1]; exact tm)
        (by rw [← hM1, gI_n (by omega), gI_n (by omega), gI_n (by omega), gI_s]) (by rw [← hM1, gI_s]) (by rw [← hM1, gI_n (by omega), gI_n (by omega), gI_s]) (by rw [← hM1, gI_n (by omega), gI_s]) htb
      rw [wl] at e2
      exact ⟨M2, e2, f1.trans f2, r2⟩
