/-! words: the reference -/
def setVF (V : View) (fc : Int32) : View := (V.1, V.2.1, V.2.2.1, fc, V.2.2.2.2)
theorem VOK.vf {V : View} (h : VOK V) (fc : Int32) : VOK (setVF V fc) := h
theorem RV.vf {M : ej_Mem} {V : View} (h : RV (aI M) (mI M 90) V) (fc : Int32) : RV (aI (setI M 90 9 fc)) (mI (setI M 90 9 fc) 90) (setVF V fc) := by
  have e : ∀ k, k ≠ 9 → mI (setI M 90 9 fc) 90 k = mI M 90 k := fun k hk => gI_n (by omega)
  obtain ⟨h1, h2, h3, h4, h5, h6, h7, h8, h9⟩ := h
  refine ⟨h1, h2, h3, h4, gI_s _ _ _ _, h6, ⟨by rw [e 47 (by decide)]; exact h7.1, h7.2⟩, ?_, ?_⟩
  · unfold RGc at h8 ⊢
    rw [e 31 (by decide), e 32 (by decide), e 33 (by decide), e 37 (by decide)]
    exact h8
  · rw [e 34 (by decide), e 35 (by decide), e 36 (by decide)]
    exact h9
theorem KR.vf {M : ej_Mem} {V : View} {mk : Nat} (h : KR M V mk) (fc : Int32) : KR (setI M 90 9 fc) (setVF V fc) mk := by
  obtain ⟨h1, h2, h3, h4, h5⟩ := h
  have f : Fr (fun o k => o = 90 ∧ k = 9) M (setI M 90 9 fc) := Fr.setI M fc ⟨rfl, rfl⟩
  exact ⟨f.rw h1, h2.vf fc, h3.vf fc, ⟨by rw [gI_n (by omega)]; exact h4.1, by rw [gI_n (by omega)]; exact h4.2.1, by rw [gI_n (by omega)]; exact h4.2.2⟩, h5.fr f (fun j => by omega) (by omega)⟩
theorem vSs_vf (V : View) (a fc s : Int32) : ∀ n k, vSs (setVF V a) fc s n k = vSs V fc s n k
  | 0, _ => rfl
  | n + 1, k => by unfold vSs; rw [vSs_vf V a fc s n (k + 1)]; rfl
theorem nxV_vf (V : View) (a : Int32) (gi : Nat) (fc : Int32) (ok : Nat → Int32 → Bool) : nxV (setVF V a) gi fc ok = nxV V gi fc ok := by
  funext m s
  unfold nxV vStop
  rw [vSs_vf]
  rfl
theorem jdA_vf (V : View) (a : Int32) (gi : Nat) (y fc : Int32) : ∀ l b, jdA (setVF V a) gi y fc l b = jdA V gi y fc l b
  | [], _ => rfl
  | m :: r, b => by
    unfold jdA
    rw [nxV_vf]
    show (match nxV V gi fc (fun m _ => vOp V y m) m b.2.1 with
      | none => b
      | some t => jdA (setVF V a) gi y fc r (b.1 + 1, t, b.2.2.1 + tFe (vT V 0 m), b.2.2.2 + tDy (vT V 0 m))) = _
    cases nxV V gi fc (fun m _ => vOp V y m) m b.2.1 with
    | none => rfl
    | some t => exact jdA_vf V a gi y fc r _
theorem jud_vf (V : View) (a fc : Int32) (r mo : Nat) : jud (setVF V a) fc r mo = jud V fc r mo := jdA_vf V a _ _ fc _ _
theorem srch_vf (V : View) (a : Int32) (gi wi : Nat) (fc : Int32) (ok : Nat → Int32 → Bool) : srch (setVF V a) gi wi fc ok = srch V gi wi fc ok := by
  unfold srch
  rw [nxV_vf]
  rfl
theorem cnA_vf (V : View) (fc x : Int32) : ∀ n k b, cnA (setVF V fc) x n k b = (b && cnF V fc x n k)
  | 0, _, b => by unfold cnA cnF; rw [Bool.and_true]
  | n + 1, k, b => by
    unfold cnA cnF
    rw [cnA_vf V fc x n (k + 1), jud_vf]
    show (b && (!bI x k || decide ((jud V fc k 24).1 = (vR V k).2.2.length)) && cnF V fc x n (k + 1)) = _
    rw [Bool.and_assoc]
def wq7 (r : Option (Nat × Nat)) : Int32 := match r with
  | none => -2
  | some (j, _) => nI j
theorem wq7_s {j c : Nat} (hj : j < 2 ^ 31) : ¬ wq7 (some (j, c)) = -2 := by
  intro q
  have := nI_pos' hj
  have q : nI j = -2 := q
  rw [q] at this
  exact absurd this (by decide)
theorem rwd_loop {D : Nat} (hD : 7 ≤ D) {V : View} {gi wi : Nat} {y x k : Int32} (hg : gi < vN V 1) (hw : wi < vN V 2) : ∀ (n i mq : Nat) (fcur : Int32) (M : ej_Mem) (o10 : Option Value), i + n = 2 ^ vN V 3 → KR M (setVF V fcur) mq → mq + n < 2 ^ 30 →
    ∃ M' mk', rn jm_Ref_words (cal D) 54 [some (.ref 90), some (.int (nI gi)), some (.int (nI wi)), some (.int y), some (.int x), some (.int k), some (.int (vF V)), some (.int (wq7 (wdF (wdOk V gi wi y x) wdSz i))), some (.int (wd8 (wdF (wdOk V gi wi y x) wdSz i))), some (.int (nI i)), o10] [] M =
      some (some (.int (wdA k (wdF (wdOk V gi wi y x) wdSz (2 ^ vN V 3)))), M') ∧ FrG P8 M M' ∧ KR M' V mk' ∧ mk' ≤ mq + n
  | 0, i, mq, fcur, M, o10, hi, h, hb => by
    have hV := h.2.2.1
    have l3 : vN V 3 ≤ mst 3 := hV.1 3 (by decide)
    have m3 : mst 3 = 8 := rfl
    have hT : 2 ^ vN V 3 ≤ 2 ^ 30 := pow_30 (by omega)
    have h3 : aI M 92 3 = nI (vN V 3) := by
      have := h.2.1.2.1 3 (by decide)
      rw [(h.2.1.1 3 (by decide)).1, this]; rfl
    have hc : (1 : Int32) <<< (aI M 92 3 &&& 31) = nI (2 ^ vN V 3) := by rw [h3, shl_30 (by omega)]
    rw [eq_Ref_words_54]
    simp only [RW.all h.1, hc, MR, ckk_T, deR_s, deQ_s, deQ_n, bkV_s, bkI_s, bkJ_s, bkQ_s, bkQ_n, ckb0, ckb1, ckb2, ckb3, eq_self, Nat.reduceEqDiff, Nat.reduceLeDiff, Nat.reduceLT, reduceIte, true_or, or_true, not_false_eq_true, not_true_eq_false, and_self, and_true, true_and, LIT, Int32.reduceLT, Int32.reduceLE, Int32.reduceToNatClampNeg]
    rw [show i = 2 ^ vN V 3 by omega, if_pos (nI_le (Nat.le_refl _) (by omega))]
    refine ⟨setI M 90 9 (vF V), mq, ?_, gset8 M 9 (vF V), h.vf (vF V), by omega⟩
    cases hr : wdF (wdOk V gi wi y x) wdSz (2 ^ vN V 3) with
    | none => rw [if_pos (show wq7 none = -2 from rfl)]; rfl
    | some a =>
      obtain ⟨j, c⟩ := a
      have := wdF_cnt _ _ _ hr
      rw [if_neg (wq7_s (by omega))]
      show (if k = 0 then _ else _) = some (some (Value.int (if k = 0 then nI j else nI c)), _)
      by_cases q : k = 0
      · rw [if_pos q, if_pos q]; rfl
      · rw [if_neg q, if_neg q]; rfl
  | n + 1, i, mq, fcur, M, o10, hi, h, hb => by
    have hV : VOK V := h.2.2.1
    have l3 : vN V 3 ≤ mst 3 := hV.1 3 (by decide)
    have m3 : mst 3 = 8 := rfl
    have hT : 2 ^ vN V 3 ≤ 2 ^ 30 := pow_30 (by omega)
    have h3 : aI M 92 3 = nI (vN V 3) := by
      have := h.2.1.2.1 3 (by decide)
      rw [(h.2.1.1 3 (by decide)).1, this]; rfl
    have hc : (1 : Int32) <<< (aI M 92 3 &&& 31) = nI (2 ^ vN V 3) := by rw [h3, shl_30 (by omega)]
    have K1 : KR (setI M 90 9 (nI i)) (setVF V (nI i)) mq := h.vf (nI i)
    have g1 := gset8 M 9 (nI i)
    obtain ⟨Ma, ea, fa⟩ := p_canAll hD K1 x
    have Ka := K1.f52 fa
    have Ga := g1.trans (g52 fa)
    have ea' : cal D jm_Ref_canAll [.ref 90, .int x] (setI M 90 9 (nI i)) = some (some (.int (b2i (cnF V (nI i) x (vRn V) 0))), Ma) := by
      rw [ea]
      have := cnA_vf V (nI i) x (vRn V) 0 true
      rw [Bool.true_and] at this
      rw [← this]; rfl
    obtain ⟨Mb, eb, fb, rb, kb⟩ := r_srch hD Ka.ks (by omega) hg hw y (ok := fun m _ => vOp V y m) (fun m hm s => by rw [Ka.2.2.2.1.1, Ka.2.2.2.1.2.1, Ka.2.2.2.1.2.2, tol_none Ka.2.2.1 hm, Bool.true_and]; rfl)
    have Kb := Ka.back fb kb
    have Gb := Ga.trans (grc fb)
    have eb' : cal D jm_Ref_reaches [.ref 90, .int (nI gi), .int (nI wi), .int y] Ma = some (some (.int (nI (srch V gi wi (nI i) (fun m _ => vOp V y m)).2.2.2)), Mb) := by
      rw [eb, srch_vf]; rfl
    have B := srch_end hV gi wi (nI i) (fun m _ => vOp V y m)
    have n3 : ∀ b, decide ((srch V gi wi (nI i) (fun m _ => vOp V y m)).2.2.2 = 3) = b → (nI (srch V gi wi (nI i) (fun m _ => vOp V y m)).2.2.2 = 3 ↔ b = true) := by
      intro b e
      rw [← e, decide_eq_true_iff]
      exact st_eq B.1.2.2.2.2.2.2.2.2 (by decide)
    have go : ∀ (M1 : ej_Mem) (mq1 : Nat) (fc1 : Int32) (r : Option (Nat × Nat)) (o : Option Value), wdF (wdOk V gi wi y x) wdSz (i + 1) = r → FrG P8 M M1 → KR M1 (setVF V fc1) mq1 → mq1 ≤ mq + 1 →
        ∃ M' mk', rn jm_Ref_words (cal D) 54 [some (.ref 90), some (.int (nI gi)), some (.int (nI wi)), some (.int y), some (.int x), some (.int k), some (.int (vF V)), some (.int (wq7 r)), some (.int (wd8 r)), some (.int (nI (i + 1))), o] [] M1 =
          some (some (.int (wdA k (wdF (wdOk V gi wi y x) wdSz (2 ^ vN V 3)))), M') ∧ FrG P8 M M' ∧ KR M' V mk' ∧ mk' ≤ mq + (n + 1) := by
      intro M1 mq1 fc1 r o er G1 K1 hm
      obtain ⟨M2, mk2, e2, f2, K2, hm2⟩ := rwd_loop hD (x := x) (k := k) hg hw n (i + 1) mq1 fc1 M1 o (by omega) K1 (by omega)
      rw [er] at e2
      exact ⟨M2, mk2, e2, G1.trans f2, K2, by omega⟩
    rw [eq_Ref_words_54]
    simp only [RW.all h.1, hc, MR, ckk_T, deR_s, deQ_s, deQ_n, bkV_s, bkI_s, bkJ_s, bkQ_s, bkQ_n, ckb0, ckb1, ckb2, ckb3, eq_self, Nat.reduceEqDiff, Nat.reduceLeDiff, Nat.reduceLT, reduceIte, true_or, or_true, not_false_eq_true, not_true_eq_false, and_self, and_true, true_and, LIT, Int32.reduceLT, Int32.reduceLE, Int32.reduceToNatClampNeg]
    rw [if_neg (nI_ge (by omega) (by omega)), nI_1]
    have hst : ∀ b, wdOk V gi wi y x i = b → wdF (wdOk V gi wi y x) wdSz (i + 1) = (match wdF (wdOk V gi wi y x) wdSz i with
      | none => if b = true then some (i, 1) else none
      | some (j, c) => if b = true ∧ wdSz i ≤ wdSz j then (if wdSz j ≤ wdSz i then some (j, c + 1) else some (i, 1)) else some (j, c)) := by
      intro b hb
      rw [← hb]
      rfl
    cases hr : wdF (wdOk V gi wi y x) wdSz i with
    | none =>
      rw [hr] at hst
      rw [if_pos (show wq7 none = -2 from rfl), ea']
      simp only [MR, ckk_T, deR_s, deQ_s, deQ_n, bkV_s, bkI_s, bkJ_s, bkQ_s, bkQ_n, ckb0, ckb1, ckb2, ckb3, eq_self, Nat.reduceEqDiff, Nat.reduceLeDiff, Nat.reduceLT, reduceIte, true_or, or_true, not_false_eq_true, not_true_eq_false, and_self, and_true, true_and, LIT, Int32.reduceLT, Int32.reduceLE, Int32.reduceToNatClampNeg]
      cases hcn : cnF V (nI i) x (vRn V) 0
      · exact go Ma mq (nI i) none _ (hst false (by unfold wdOk; rw [hcn]; rfl)) Ga Ka (by omega)
      · rw [b2i_t, if_neg (by decide)]
        simp only [RW.all Ka.1, MR, ckk_T, deR_s, deQ_s, deQ_n, bkV_s, bkI_s, bkJ_s, bkQ_s, bkQ_n, ckb0, ckb1, ckb2, ckb3, eq_self, Nat.reduceEqDiff, Nat.reduceLeDiff, Nat.reduceLT, reduceIte, true_or, or_true, not_false_eq_true, not_true_eq_false, and_self, and_true, true_and, LIT, Int32.reduceLT, Int32.reduceLE, Int32.reduceToNatClampNeg]
        rw [eb']
        simp only [MR, ckk_T, deR_s, deQ_s, deQ_n, bkV_s, bkI_s, bkJ_s, bkQ_s, bkQ_n, ckb0, ckb1, ckb2, ckb3, eq_self, Nat.reduceEqDiff, Nat.reduceLeDiff, Nat.reduceLT, reduceIte, true_or, or_true, not_false_eq_true, not_true_eq_false, and_self, and_true, true_and, LIT, Int32.reduceLT, Int32.reduceLE, Int32.reduceToNatClampNeg]
        cases hs : decide ((srch V gi wi (nI i) (fun m _ => vOp V y m)).2.2.2 = 3)
        · rw [if_neg (fun z => by have := (n3 _ hs).mp z; cases this)]
          exact go Mb (mq + 1) (nI i) none _ (hst false (by unfold wdOk; rw [hs, Bool.and_false])) Gb Kb (by omega)
        · rw [if_pos ((n3 _ hs).mpr rfl)]
          exact go Mb (mq + 1) (nI i) (some (i, 1)) _ (hst true (by unfold wdOk; rw [hs, hcn]; rfl)) Gb Kb (by omega)
    | some a =>
      obtain ⟨j, c⟩ := a
      rw [hr] at hst
      have hcn := wdF_cnt _ _ _ hr
      have p1 := pc_le (nI i)
      have p2 := pc_le (nI j)
      rw [if_neg (wq7_s (by omega)), p_Ref_bits (by omega)]
      simp only [MR, ckk_T, deR_s, deQ_s, deQ_n, bkV_s, bkI_s, bkJ_s, bkQ_s, bkQ_n, ckb0, ckb1, ckb2, ckb3, eq_self, Nat.reduceEqDiff, Nat.reduceLeDiff, Nat.reduceLT, reduceIte, true_or, or_true, not_false_eq_true, not_true_eq_false, and_self, and_true, true_and, LIT, Int32.reduceLT, Int32.reduceLE, Int32.reduceToNatClampNeg]
      rw [p_Ref_bits (by omega)]
      simp only [RW.all h.1, MR, ckk_T, deR_s, deQ_s, deQ_n, bkV_s, bkI_s, bkJ_s, bkQ_s, bkQ_n, ckb0, ckb1, ckb2, ckb3, eq_self, Nat.reduceEqDiff, Nat.reduceLeDiff, Nat.reduceLT, reduceIte, true_or, or_true, not_false_eq_true, not_true_eq_false, and_self, and_true, true_and, LIT, Int32.reduceLT, Int32.reduceLE, Int32.reduceToNatClampNeg]
      by_cases q : wdSz j < wdSz i
      · rw [if_pos (show nI (pc (wq7 (some (j, c)))) < nI (pc (nI i)) from nI_lt q (by omega))]
        refine go M mq fcur (some (j, c)) _ ((hst _ rfl).trans ?_) (FrG.refl _ M) h (by omega)
        show (if _ ∧ wdSz i ≤ wdSz j then _ else some (j, c)) = some (j, c)
        rw [if_neg (fun z => by have := z.2; omega)]
      · rw [if_neg (show ¬ nI (pc (wq7 (some (j, c)))) < nI (pc (nI i)) from nI_nlt (by show pc (nI i) ≤ pc (nI j); unfold wdSz at q; omega) (by show pc (nI j) < _; omega)), ea']
        simp only [MR, ckk_T, deR_s, deQ_s, deQ_n, bkV_s, bkI_s, bkJ_s, bkQ_s, bkQ_n, ckb0, ckb1, ckb2, ckb3, eq_self, Nat.reduceEqDiff, Nat.reduceLeDiff, Nat.reduceLT, reduceIte, true_or, or_true, not_false_eq_true, not_true_eq_false, and_self, and_true, true_and, LIT, Int32.reduceLT, Int32.reduceLE, Int32.reduceToNatClampNeg]
        cases hcn2 : cnF V (nI i) x (vRn V) 0
        · exact go Ma mq (nI i) (some (j, c)) _ ((hst false (by unfold wdOk; rw [hcn2]; rfl)).trans (if_neg (fun z => by cases z.1))) Ga Ka (by omega)
        · rw [b2i_t, if_neg (by decide)]
          simp only [RW.all Ka.1, MR, ckk_T, deR_s, deQ_s, deQ_n, bkV_s, bkI_s, bkJ_s, bkQ_s, bkQ_n, ckb0, ckb1, ckb2, ckb3, eq_self, Nat.reduceEqDiff, Nat.reduceLeDiff, Nat.reduceLT, reduceIte, true_or, or_true, not_false_eq_true, not_true_eq_false, and_self, and_true, true_and, LIT, Int32.reduceLT, Int32.reduceLE, Int32.reduceToNatClampNeg]
          rw [eb']
          simp only [MR, ckk_T, deR_s, deQ_s, deQ_n, bkV_s, bkI_s, bkJ_s, bkQ_s, bkQ_n, ckb0, ckb1, ckb2, ckb3, eq_self, Nat.reduceEqDiff, Nat.reduceLeDiff, Nat.reduceLT, reduceIte, true_or, or_true, not_false_eq_true, not_true_eq_false, and_self, and_true, true_and, LIT, Int32.reduceLT, Int32.reduceLE, Int32.reduceToNatClampNeg]
          cases hs : decide ((srch V gi wi (nI i) (fun m _ => vOp V y m)).2.2.2 = 3)
          · rw [if_neg (fun z => by have := (n3 _ hs).mp z; cases this)]
            exact go Mb (mq + 1) (nI i) (some (j, c)) _ ((hst false (by unfold wdOk; rw [hs, Bool.and_false])).trans (if_neg (fun z => by cases z.1))) Gb Kb (by omega)
          · have E := (hst true (by unfold wdOk; rw [hs, hcn2]; rfl)).trans (if_pos ⟨rfl, by omega⟩)
            rw [if_pos ((n3 _ hs).mpr rfl), p_Ref_bits (by omega)]
            simp only [MR, ckk_T, deR_s, deQ_s, deQ_n, bkV_s, bkI_s, bkJ_s, bkQ_s, bkQ_n, ckb0, ckb1, ckb2, ckb3, eq_self, Nat.reduceEqDiff, Nat.reduceLeDiff, Nat.reduceLT, reduceIte, true_or, or_true, not_false_eq_true, not_true_eq_false, and_self, and_true, true_and, LIT, Int32.reduceLT, Int32.reduceLE, Int32.reduceToNatClampNeg]
            rw [p_Ref_bits (by omega)]
            simp only [MR, ckk_T, deR_s, deQ_s, deQ_n, bkV_s, bkI_s, bkJ_s, bkQ_s, bkQ_n, ckb0, ckb1, ckb2, ckb3, eq_self, Nat.reduceEqDiff, Nat.reduceLeDiff, Nat.reduceLT, reduceIte, true_or, or_true, not_false_eq_true, not_true_eq_false, and_self, and_true, true_and, LIT, Int32.reduceLT, Int32.reduceLE, Int32.reduceToNatClampNeg]
            by_cases q2 : wdSz j ≤ wdSz i
            · rw [if_pos q2] at E
              rw [if_pos (show nI (pc (wq7 (some (j, c)))) ≤ nI (pc (nI i)) from nI_le q2 (by omega))]
              rw [show wd8 (some (j, c)) + 1 = wd8 (some (j, c + 1)) from nI_1 c, if_neg (wq7_s (by omega))]
              exact go Mb (mq + 1) (nI i) (some (j, c + 1)) _ E Gb Kb (by omega)
            · rw [if_neg q2] at E
              rw [if_neg (show ¬ nI (pc (wq7 (some (j, c)))) ≤ nI (pc (nI i)) from nI_ge (by show pc (nI i) < pc (nI j); unfold wdSz at q2; omega) (by show pc (nI j) < _; omega)), if_neg (wq7_s (by omega))]
              exact go Mb (mq + 1) (nI i) (some (i, 1)) _ E Gb Kb (by omega)
theorem r_words {D : Nat} (hD : 8 ≤ D) {M : ej_Mem} {V : View} {mk : Nat} (h : KR M V mk) (hmk : mk < 2 ^ 29) (g w y x k : Int32) : ∃ M' mk', cal D jm_Ref_words [.ref 90, .int g, .int w, .int y, .int x, .int k] M = some (some (.int (a_words V g w y x k)), M') ∧ FrG P8 M M' ∧ KR M' V mk' ∧ mk' ≤ mk + 256 := by
  obtain ⟨d, rfl⟩ : ∃ d, D = d + 1 := ⟨D - 1, by omega⟩
  have hV := h.2.2.1
  have h30 := hV.2.2.2.1.1
  have l3 := hV.1 3 (by decide)
  have m3 : mst 3 = 8 := rfl
  have hT : 2 ^ vN V 3 ≤ 2 ^ 8 := Nat.pow_le_pow_right (by decide) (by omega)
  have hf : mI M 90 47 = nI (vRn V) := h.2.1.2.2.2.2.2.2.1.1
  rw [ca_Ref_words, eq_Ref_words_0]
  simp only [RW.all h.1, MR, ckk_T, deR_s, deQ_s, deQ_n, bkV_s, bkI_s, bkJ_s, bkQ_s, bkQ_n, ckb0, ckb1, ckb2, ckb3, eq_self, Nat.reduceEqDiff, Nat.reduceLeDiff, Nat.reduceLT, reduceIte, true_or, or_true, not_false_eq_true, not_true_eq_false, and_self, and_true, true_and, LIT, Int32.reduceLT, Int32.reduceLE, Int32.reduceToNatClampNeg]
  rw [p_isAsked (by omega) h]
  simp only [RW.all h.1, hf, MR, ckk_T, deR_s, deQ_s, deQ_n, bkV_s, bkI_s, bkJ_s, bkQ_s, bkQ_n, ckb0, ckb1, ckb2, ckb3, eq_self, Nat.reduceEqDiff, Nat.reduceLeDiff, Nat.reduceLT, reduceIte, true_or, or_true, not_false_eq_true, not_true_eq_false, and_self, and_true, true_and, LIT, Int32.reduceLT, Int32.reduceLE, Int32.reduceToNatClampNeg]
  unfold a_words
  cases ha : askB V g w y
  · rw [Bool.and_false, Bool.and_false]
    exact ⟨M, mk, rfl, FrG.refl _ M, h, by omega⟩
  · rw [if_neg (by decide), Bool.and_true]
    by_cases x0 : x < 0
    · rw [if_pos x0, bits_n x0, Bool.and_false]
      exact ⟨M, mk, rfl, FrG.refl _ M, h, by omega⟩
    · rw [if_neg x0]
      cases hx : bitsB (vRn V) x
      · rw [if_neg (fun z => by rw [(bits_r h30 x x0).mpr z] at hx; cases hx), Bool.and_false]
        exact ⟨M, mk, rfl, FrG.refl _ M, h, by omega⟩
      · rw [if_pos ((bits_r h30 x x0).mp hx), in01 (by omega), Bool.and_true]
        cases hk : inB k 0 1
        · exact ⟨M, mk, rfl, FrG.refl _ M, h, by omega⟩
        · obtain ⟨gi, wi, hg, hw, rfl, rfl, eg, ew, _⟩ := ask_get hV ha
          rw [eg, ew, if_pos rfl]
          simp only [RW.all h.1, h.2.1.2.2.2.2.1, MR, ckk_T, deR_s, deQ_s, deQ_n, bkV_s, bkI_s, bkJ_s, bkQ_s, bkQ_n, ckb0, ckb1, ckb2, ckb3, eq_self, Nat.reduceEqDiff, Nat.reduceLeDiff, Nat.reduceLT, reduceIte, true_or, or_true, not_false_eq_true, not_true_eq_false, and_self, and_true, true_and, LIT, Int32.reduceLT, Int32.reduceLE, Int32.reduceToNatClampNeg, b2i_t]
          obtain ⟨M', mk', e, f, K, hm⟩ := rwd_loop (D := d) (by omega) (y := y) (x := x) (k := k) hg hw (2 ^ vN V 3) 0 mk (vF V) M none (by omega) h (by omega)
          exact ⟨M', mk', e, f, K, by omega⟩
