/-! the class's search, gone on -/
theorem p_meetN {D : Nat} (hD : 3 ≤ D) {M : ej_Mem} {h cap N sh : Nat} {b : BS} (z : HZ cap N sh) (H : HR M h cap N sh b) (hst : b.2.2.2 = 1) {s : Int32} (hs : s ∉ b.1) (f m : Nat) :
    ∃ M', cal D jm_Hunt_meet [.ref h, .int s, .int (nI (64 * f + m)), .null] M = some (none, M') ∧ Fr (Ph h) M M' ∧ HR M' h cap N sh (b_meet cap (fun _ => false) s (f, m) b) := by
  obtain ⟨d, rfl⟩ : ∃ d, D = d + 1 := ⟨D - 1, by omega⟩
  obtain ⟨z1, z2, z3⟩ := z.caps
  have hcap := H.2.2.1
  rw [can_Hunt_meet, eqn_Hunt_meet_0]
  simp only [H.1.1, H.2.1, MR, ckk_T, deR_s, deQ_s, deQ_n, bkV_s, bkI_s, bkJ_s, bkQ_s, bkQ_n, ckb0, ckb1, ckb2, ckb3, eq_self, Nat.reduceEqDiff, Nat.reduceLeDiff, Nat.reduceLT, reduceIte, true_or, or_true, not_false_eq_true, not_true_eq_false, and_self, and_true, true_and, LIT, Int32.reduceLT, Int32.reduceLE, Int32.reduceToNatClampNeg]
  by_cases hc : b.1.length < cap
  · rw [if_pos (nI_lt hc (by omega))]
    obtain ⟨i, hi, hj, _, h4, e⟩ := p_slotOfC (by omega : 1 ≤ d) z H.ht s
    have hp := prb_lt (by omega : 0 < N) (hC sh) s i
    rw [e]
    have P := HR_push z H hs hc hi (h4 hs) hj f m
    have fr := mtM_fr M h (prb N (hC sh) s i) b.1.length s (nI (64 * f + m))
    simp only [H.1.1, H.1.2.1, H.1.2.2, H.2.1, MR, ckk_T, deR_s, deQ_s, deQ_n, bkV_s, bkI_s, bkJ_s, bkQ_s, bkQ_n, ckb0, ckb1, ckb2, ckb3, eq_self, Nat.reduceEqDiff, Nat.reduceLeDiff, Nat.reduceLT, reduceIte, true_or, or_true, not_false_eq_true, not_true_eq_false, and_self, and_true, true_and, LIT, Int32.reduceLT, Int32.reduceLE, Int32.reduceToNatClampNeg, nI_1, ckb_n hp (show N < 2 ^ 31 by omega), nI_clamp (show prb N (hC sh) s i < 2 ^ 31 by omega), ckb_n hc (show cap < 2 ^ 31 by omega), nI_clamp (show b.1.length < 2 ^ 31 by omega)]
    have hbm : b_meet cap (fun _ => false) s (f, m) b = (b.1 ++ [s], b.2.1 ++ [(f, m)], b.2.2.1, 1) := by
      unfold b_meet
      rw [if_neg (show ¬ b.1.length = cap by omega)]
      rfl
    rw [hbm]
    refine ⟨mtM M h (prb N (hC sh) s i) b.1.length s (nI (64 * f + m)), rfl, fr, ?_⟩
    have P2 := P
    rw [hst] at P2
    exact P2
  · rw [if_neg (nI_nlt (by omega) (by omega))]
    refine ⟨_, rfl, Fr.setI M _ ⟨by omega, by omega⟩, ?_⟩
    unfold b_meet
    rw [if_pos (by omega)]
    exact HR_st H 4
theorem take_getD {l : List Int32} {j k : Nat} (h : k < j) : (l.take j).getD k 0 = l.getD k 0 := by
  simp [List.getD, List.getElem?_take, h]
theorem forget_loop {D : Nat} (hD : 1 ≤ D) {h cap N sh : Nat} (z : HZ cap N sh) {xs : List Int32} : ∀ (j : Nat) (M : ej_Mem), j ≤ xs.length → HT M h cap N sh (xs.take j) →
    ∃ M', rn jm_Hunt_forget (cal D) 7 [some (.ref h), some (.int (nI j - 1))] [] M = some (none, M') ∧ Fr (Ph h) M M' ∧ HR M' h cap N sh ([], [], 0, 0)
  | 0, M, hj, H => by
    rw [eq_Hunt_forget_7, if_pos (by decide)]
    simp only [H.1.1, MR, ckk_T, deR_s, deQ_s, deQ_n, bkV_s, bkI_s, bkJ_s, bkQ_s, bkQ_n, ckb0, ckb1, ckb2, ckb3, eq_self, Nat.reduceEqDiff, Nat.reduceLeDiff, Nat.reduceLT, reduceIte, true_or, or_true, not_false_eq_true, not_true_eq_false, and_self, and_true, true_and, LIT, Int32.reduceLT, Int32.reduceLE, Int32.reduceToNatClampNeg]
    refine ⟨_, rfl, ((Fr.setI M _ (show Ph h h 5 from ⟨by omega, by omega⟩)).trans (Fr.setI _ _ (show Ph h h 6 from ⟨by omega, by omega⟩))).trans (Fr.setI _ _ (show Ph h h 7 from ⟨by omega, by omega⟩)), ?_⟩
    obtain ⟨hA, hc, hn, hx, hq, hT⟩ := H
    refine ⟨?_, ⟨?_, ?_, ?_⟩, Nat.zero_le _, List.nodup_nil, fun k hk => absurd hk (Nat.not_lt_zero k), rfl, fun k hk => absurd hk (Nat.not_lt_zero k), hq, hT⟩
    · unfold HA
      rw [gI_n (by omega), gI_n (by omega), gI_n (by omega), gI_n (by omega), gI_n (by omega), gI_n (by omega)]
      exact hA
    · rw [gI_n (by omega), gI_n (by omega), gI_s]; rfl
    · rw [gI_n (by omega), gI_s]; rfl
    · rw [gI_s]; rfl
  | j + 1, M, hj, H => by
    obtain ⟨z1, z2, z3⟩ := z.caps
    have hlen : (xs.take (j + 1)).length = j + 1 := by rw [List.length_take]; omega
    have hcap := H.2.1
    rw [eq_Hunt_forget_7, nI_pred, if_neg (nI_pos (by omega))]
    simp only [H.1.1, H.1.2.1, H.1.2.2, MR, ckk_T, deR_s, deQ_s, deQ_n, bkV_s, bkI_s, bkJ_s, bkQ_s, bkQ_n, ckb0, ckb1, ckb2, ckb3, eq_self, Nat.reduceEqDiff, Nat.reduceLeDiff, Nat.reduceLT, reduceIte, true_or, or_true, not_false_eq_true, not_true_eq_false, and_self, and_true, true_and, LIT, Int32.reduceLT, Int32.reduceLE, Int32.reduceToNatClampNeg, ckb_n (show j < cap by omega) (show cap < 2 ^ 31 by omega), nI_clamp (show j < 2 ^ 31 by omega)]
    rw [H.2.2.2.1 j (by omega)]
    obtain ⟨i, hi, _, h3, _, e⟩ := p_slotOfC hD z H ((xs.take (j + 1)).getD j 0)
    have hp := prb_lt (by omega : 0 < N) (hC sh) ((xs.take (j + 1)).getD j 0) i
    have hv := h3 j (by omega) rfl
    rw [e]
    simp only [H.1.1, H.1.2.1, H.1.2.2, MR, ckk_T, deR_s, deQ_s, deQ_n, bkV_s, bkI_s, bkJ_s, bkQ_s, bkQ_n, ckb0, ckb1, ckb2, ckb3, eq_self, Nat.reduceEqDiff, Nat.reduceLeDiff, Nat.reduceLT, reduceIte, true_or, or_true, not_false_eq_true, not_true_eq_false, and_self, and_true, true_and, LIT, Int32.reduceLT, Int32.reduceLE, Int32.reduceToNatClampNeg, ckb_n hp (show N < 2 ^ 31 by omega), nI_clamp (show prb N (hC sh) ((xs.take (j + 1)).getD j 0) i < 2 ^ 31 by omega)]
    generalize prb N (hC sh) ((xs.take (j + 1)).getD j 0) i = p at *
    have fr : Fr (Ph h) M (setA M (h + 3) p 0) := Fr.setA M _ ⟨by omega, by omega⟩
    have eS : ∀ q, hsl (setA M (h + 3) p 0) h q = va_up (hsl M h) p 0 q := by
      intro q
      unfold hsl
      rw [gA_u, va_upe, va_upe]
      split
      · rfl
      · rfl
    have H2 : HT (setA M (h + 3) p 0) h cap N sh (xs.take j) := by
      obtain ⟨hA, hc, hn, hx, hq, hT⟩ := H
      have hl2 : (xs.take j).length = j := by rw [List.length_take]; omega
      refine ⟨hA, by omega, ?_, ?_, ?_, ?_⟩
      · exact List.Pairwise.sublist (List.take_sublist_take_left (by omega : j ≤ j + 1)) hn
      · intro k hk
        rw [gA_o (by omega), hx k (by omega), take_getD (by omega), take_getD (by omega)]
      · intro q hq2
        rw [eS, gA_u, va_upe, va_upe]
        split
        · rfl
        · exact hq q hq2
      · rw [hl2]
        rw [hlen] at hT
        refine Tab.congr (by omega) (hT.del (by omega) hp hv) (fun q _ => eS q) (fun k hk => ?_)
        show (xs.take j).getD k 0 = (xs.take (j + 1)).getD k 0
        rw [take_getD (by omega), take_getD (by omega)]
    obtain ⟨M', e', f', r'⟩ := forget_loop hD z j (setA M (h + 3) p 0) (by omega) H2
    refine ⟨M', ?_, fr.trans f', r'⟩
    rw [← e', Int32.sub_eq_add_neg]
theorem p_forget {D : Nat} (hD : 2 ≤ D) {M : ej_Mem} {h cap N sh : Nat} {b : BS} (z : HZ cap N sh) (H : HR M h cap N sh b) :
    ∃ M', cal D jm_Hunt_forget [.ref h] M = some (none, M') ∧ Fr (Ph h) M M' ∧ HR M' h cap N sh ([], [], 0, 0) := by
  obtain ⟨d, rfl⟩ : ∃ d, D = d + 1 := ⟨D - 1, by omega⟩
  rw [ca_Hunt_forget, eq_Hunt_forget_0]
  simp only [H.1.1, H.2.1, MR, ckk_T, deR_s, deQ_s, deQ_n, bkV_s, bkI_s, bkJ_s, bkQ_s, bkQ_n, ckb0, ckb1, ckb2, ckb3, eq_self, Nat.reduceEqDiff, Nat.reduceLeDiff, Nat.reduceLT, reduceIte, true_or, or_true, not_false_eq_true, not_true_eq_false, and_self, and_true, true_and, LIT, Int32.reduceLT, Int32.reduceLE, Int32.reduceToNatClampNeg]
  exact forget_loop (by omega) z (xs := b.1) b.1.length M (Nat.le_refl _) (by rw [List.take_length]; exact H.ht)
theorem b_meet_new {cap : Nat} (hc : 0 < cap) (w : Int32 → Bool) (s : Int32) : b_meet cap w s (0, 0) ([], [], 0, 1) = b_new w s := by
  unfold b_meet b_new
  rw [if_neg (show ¬ ([] : List Int32).length = cap by simp; omega)]
  rfl
theorem p_beginC {D : Nat} (hD : 4 ≤ D) {M : ej_Mem} {h cap N sh w : Nat} {b : BS} (z : HZ cap N sh) (H : HR M h cap N sh b) (hw : WA M w) (qw : WQ (Ph h) M w) (s : Int32) :
    ∃ M', cal D jm_Hunt_begin [.ref h, .int s, .ref w] M = some (none, M') ∧ Fr (Ph h) M M' ∧ HR M' h cap N sh (b_new (wsC M w) s) := by
  obtain ⟨d, rfl⟩ : ∃ d, D = d + 1 := ⟨D - 1, by omega⟩
  rw [ca_Hunt_begin, eq_Hunt_begin_0]
  obtain ⟨M1, e1, f1, r1⟩ := p_forget (by omega : 2 ≤ d) z H
  simp only [H.1.1, MR, ckk_T, deR_s, deQ_s, deQ_n, bkV_s, bkI_s, bkJ_s, bkQ_s, bkQ_n, ckb0, ckb1, ckb2, ckb3, eq_self, Nat.reduceEqDiff, Nat.reduceLeDiff, Nat.reduceLT, reduceIte, true_or, or_true, not_false_eq_true, not_true_eq_false, and_self, and_true, true_and, LIT, Int32.reduceLT, Int32.reduceLE, Int32.reduceToNatClampNeg]
  rw [e1]
  have f2 : Fr (Ph h) M (setI M1 h 7 1) := f1.trans (Fr.setI _ _ ⟨by omega, by omega⟩)
  obtain ⟨M3, e3, f3, r3⟩ := p_meetC (by omega : 3 ≤ d) z (HR_st r1 1) rfl (hw.fr f2 qw) (qw.fr f2) (s := s) (by simp) 0 0
  simp only [r1.1.1, MR, ckk_T, deR_s, deQ_s, deQ_n, bkV_s, bkI_s, bkJ_s, bkQ_s, bkQ_n, ckb0, ckb1, ckb2, ckb3, eq_self, Nat.reduceEqDiff, Nat.reduceLeDiff, Nat.reduceLT, reduceIte, true_or, or_true, not_false_eq_true, not_true_eq_false, and_self, and_true, true_and, LIT, Int32.reduceLT, Int32.reduceLE, Int32.reduceToNatClampNeg]
  have e4 : cal d jm_Hunt_meet [.ref h, .int s, .int 0, .ref w] (setI M1 h 7 1) = some (none, M3) := e3
  rw [e4]
  refine ⟨M3, rfl, f2.trans f3, ?_⟩
  have hws : wsC (setI M1 h 7 (nI 1)) w = wsC M w := wsC_fr f2 qw
  rw [hws, b_meet_new z.caps.1] at r3
  exact r3
theorem p_beginN {D : Nat} (hD : 4 ≤ D) {M : ej_Mem} {h cap N sh : Nat} {b : BS} (z : HZ cap N sh) (H : HR M h cap N sh b) (s : Int32) :
    ∃ M', cal D jm_Hunt_begin [.ref h, .int s, .null] M = some (none, M') ∧ Fr (Ph h) M M' ∧ HR M' h cap N sh (b_new (fun _ => false) s) := by
  obtain ⟨d, rfl⟩ : ∃ d, D = d + 1 := ⟨D - 1, by omega⟩
  rw [can_Hunt_begin, eqn_Hunt_begin_0]
  obtain ⟨M1, e1, f1, r1⟩ := p_forget (by omega : 2 ≤ d) z H
  simp only [H.1.1, MR, ckk_T, deR_s, deQ_s, deQ_n, bkV_s, bkI_s, bkJ_s, bkQ_s, bkQ_n, ckb0, ckb1, ckb2, ckb3, eq_self, Nat.reduceEqDiff, Nat.reduceLeDiff, Nat.reduceLT, reduceIte, true_or, or_true, not_false_eq_true, not_true_eq_false, and_self, and_true, true_and, LIT, Int32.reduceLT, Int32.reduceLE, Int32.reduceToNatClampNeg]
  rw [e1]
  have f2 : Fr (Ph h) M (setI M1 h 7 1) := f1.trans (Fr.setI _ _ ⟨by omega, by omega⟩)
  obtain ⟨M3, e3, f3, r3⟩ := p_meetN (by omega : 3 ≤ d) z (HR_st r1 1) rfl (s := s) (by simp) 0 0
  simp only [r1.1.1, MR, ckk_T, deR_s, deQ_s, deQ_n, bkV_s, bkI_s, bkJ_s, bkQ_s, bkQ_n, ckb0, ckb1, ckb2, ckb3, eq_self, Nat.reduceEqDiff, Nat.reduceLeDiff, Nat.reduceLT, reduceIte, true_or, or_true, not_false_eq_true, not_true_eq_false, and_self, and_true, true_and, LIT, Int32.reduceLT, Int32.reduceLE, Int32.reduceToNatClampNeg]
  have e4 : cal d jm_Hunt_meet [.ref h, .int s, .int 0, .null] (setI M1 h 7 1) = some (none, M3) := e3
  rw [e4]
  refine ⟨M3, rfl, f2.trans f3, ?_⟩
  rw [b_meet_new z.caps.1] at r3
  exact r3
theorem p_tryMove {D : Nat} (hD : 4 ≤ D) {M : ej_Mem} {h cap N sh l t g w : Nat} {b : BS} (z : HZ cap N sh) (H : HR M h cap N sh b) (C : CX M l t g) (Q : CQ (Ph h) M l t g) (hw1 : mR M t 1 = some w) (hw : WA M w) (qw : WQ (Ph h) M w)
    (hst : b.2.2.2 = 1) {i m : Nat} (hgn : b.2.2.1 = i + 1) (hi : i < 4000) (hm : m < nL M l 0) (hal : bJ (mL M t 2) m = true) (s : Int32) :
    ∃ M', cal D jm_Hunt_tryMove [.ref h, .ref l, .ref t, .int (nI m), .int s] M = some (none, M') ∧ Fr (Ph h) M M' ∧ HR M' h cap N sh (b_try (nxC M l t g) cap (wsC M w) i s m b) := by
  obtain ⟨d, rfl⟩ : ∃ d, D = d + 1 := ⟨D - 1, by omega⟩
  obtain ⟨hS, hL, hT, hTA, hg, hG⟩ := C
  have hW := ((hT 0 (by decide)).2.2 m hm).2
  rw [ca_Hunt_tryMove, eq_Hunt_tryMove_0]
  simp only [hL.1, MR, ckk_T, deR_s, deQ_s, deQ_n, bkV_s, bkI_s, bkJ_s, bkQ_s, bkQ_n, ckb0, ckb1, ckb2, ckb3, eq_self, Nat.reduceEqDiff, Nat.reduceLeDiff, Nat.reduceLT, reduceIte, true_or, or_true, not_false_eq_true, not_true_eq_false, and_self, and_true, true_and, LIT, Int32.reduceLT, Int32.reduceLE, Int32.reduceToNatClampNeg]
  rw [p_writ_s (by omega) hS hL hT ks0 (by decide) hm]
  simp only [hW.1, MR, ckk_T, deR_s, deQ_s, deQ_n, bkV_s, bkI_s, bkJ_s, bkQ_s, bkQ_n, ckb0, ckb1, ckb2, ckb3, eq_self, Nat.reduceEqDiff, Nat.reduceLeDiff, Nat.reduceLT, reduceIte, true_or, or_true, not_false_eq_true, not_true_eq_false, and_self, and_true, true_and, LIT, Int32.reduceLT, Int32.reduceLE, Int32.reduceToNatClampNeg]
  rw [p_changed (by omega) hW.1]
  have hch : (s &&& (mI M (wL M l 0 m) 1 ^^^ -1) ||| mI M (wL M l 0 m) 0) = chC M (wL M l 0 m) s := rfl
  simp only [hW.1, MR, ckk_T, deR_s, deQ_s, deQ_n, bkV_s, bkI_s, bkJ_s, bkQ_s, bkQ_n, ckb0, ckb1, ckb2, ckb3, eq_self, Nat.reduceEqDiff, Nat.reduceLeDiff, Nat.reduceLT, reduceIte, true_or, or_true, not_false_eq_true, not_true_eq_false, and_self, and_true, true_and, LIT, Int32.reduceLT, Int32.reduceLE, Int32.reduceToNatClampNeg, hch]
  have hno : nxC M l t g m s = none → b_try (nxC M l t g) cap (wsC M w) i s m b = b := by
    intro e
    unfold b_try
    rw [if_pos hst, e]
  have none_case : nxC M l t g m s = none → ∃ M', (some (none, M) : Option ej_R) = some (none, M') ∧ Fr (Ph h) M M' ∧ HR M' h cap N sh (b_try (nxC M l t g) cap (wsC M w) i s m b) := by
    intro e
    refine ⟨M, rfl, Fr.refl _ M, ?_⟩
    rw [hno e]; exact H
  by_cases g2 : chC M (wL M l 0 m) s = s
  · rw [if_pos g2]
    apply none_case
    unfold nxC ledC
    rw [if_neg (show ¬ (bJ (mL M t 2) m = true ∧ _) from fun q => q.2.1 g2)]
    split <;> rfl
  · rw [if_neg g2, p_isTrueC (by omega) hW hW.ent]
    simp only [hW.1, MR, ckk_T, deR_s, deQ_s, deQ_n, bkV_s, bkI_s, bkJ_s, bkQ_s, bkQ_n, ckb0, ckb1, ckb2, ckb3, eq_self, Nat.reduceEqDiff, Nat.reduceLeDiff, Nat.reduceLT, reduceIte, true_or, or_true, not_false_eq_true, not_true_eq_false, and_self, and_true, true_and, LIT, Int32.reduceLT, Int32.reduceLE, Int32.reduceToNatClampNeg]
    cases g3 : cTst M (wL M l 0 m) (mI M (wL M l 0 m) 5) s
    · rw [if_pos b2i_f]
      apply none_case
      unfold nxC ledC
      rw [if_neg (show ¬ (bJ (mL M t 2) m = true ∧ _) from fun q => by rw [g3] at q; cases q.2.2.1)]
      split <;> rfl
    · rw [if_neg (by decide)]
      obtain ⟨v, e, hv1, hv2⟩ := p_placeOfC (by omega : 2 ≤ d) z H (chC M (wL M l 0 m) s)
      simp only [H.1.1, MR, ckk_T, deR_s, deQ_s, deQ_n, bkV_s, bkI_s, bkJ_s, bkQ_s, bkQ_n, ckb0, ckb1, ckb2, ckb3, eq_self, Nat.reduceEqDiff, Nat.reduceLeDiff, Nat.reduceLT, reduceIte, true_or, or_true, not_false_eq_true, not_true_eq_false, and_self, and_true, true_and, LIT, Int32.reduceLT, Int32.reduceLE, Int32.reduceToNatClampNeg]
      rw [e]
      simp only [show mC M t = 6 from hTA, MR, ckk_T, deR_s, deQ_s, deQ_n, bkV_s, bkI_s, bkJ_s, bkQ_s, bkQ_n, ckb0, ckb1, ckb2, ckb3, eq_self, Nat.reduceEqDiff, Nat.reduceLeDiff, Nat.reduceLT, reduceIte, true_or, or_true, not_false_eq_true, not_true_eq_false, and_self, and_true, true_and, LIT, Int32.reduceLT, Int32.reduceLE, Int32.reduceToNatClampNeg]
      by_cases hin : chC M (wL M l 0 m) s ∈ b.1
      · obtain ⟨k, hk, ek⟩ := mem_getD hin
        have hcap := H.2.2.1
        have z3 := z.caps
        have hvk := hv1 k hk ek
        have hvn : ¬ v = -1 := by
          intro q
          rw [hvk] at q
          have := nI_pos' (n := k) (by omega)
          rw [q] at this
          exact absurd this (by decide)
        rw [if_neg hvn]
        refine ⟨M, rfl, Fr.refl _ M, ?_⟩
        have : b_try (nxC M l t g) cap (wsC M w) i s m b = b := by
          unfold b_try
          rw [if_pos hst]
          cases hx : nxC M l t g m s with
          | none => rfl
          | some y =>
            have hy : y = chC M (wL M l 0 m) s := by
              unfold nxC at hx
              split at hx
              · unfold ledC at hx
                split at hx
                · exact (Option.some.inj hx).symm
                · cases hx
              · cases hx
            show (if y ∈ b.1 then b else _) = b
            rw [hy, if_pos hin]
        rw [this]; exact H
      · rw [if_pos (hv2 hin)]
        -- what is barred, what is met
        have stops : ∀ _ : nxC M l t g m s = (if stopC M l g (mI M t 3) (chC M (wL M l 0 m) s) = true then none else some (chC M (wL M l 0 m) s)),
            ∃ M', (bkI (cal d jm_Land_isStopped [.ref l, .int (chC M (wL M l 0 m) s), .ref t] M) fun x11 M10 => (if x11 = 0 then ckk (mC M10 h = 1) (ckk (mC M10 t = 6) (deQ (mR M10 t 1)
              (ckk (mC M10 h = 1) (bkV (cal d jm_Hunt_meet [.ref h, .int (chC M (wL M l 0 m) s), .int ((((mI M10 h 6) - 1) * 64) + nI m), .null] M10) fun M13 => some (none, M13)))
              (fun q12 => ckk (mC M10 h = 1) (bkV (cal d jm_Hunt_meet [.ref h, .int (chC M (wL M l 0 m) s), .int ((((mI M10 h 6) - 1) * 64) + nI m), .ref q12] M10) fun M14 => some (none, M14))))) else some (none, M10))) = some (none, M') ∧ Fr (Ph h) M M' ∧ HR M' h cap N sh (b_try (nxC M l t g) cap (wsC M w) i s m b) := by
          intro hn
          rw [p_isStoppedC (by omega) hS hL hT hTA hg hG]
          simp only [MR, ckk_T, deR_s, deQ_s, deQ_n, bkV_s, bkI_s, bkJ_s, bkQ_s, bkQ_n, ckb0, ckb1, ckb2, ckb3, eq_self, Nat.reduceEqDiff, Nat.reduceLeDiff, Nat.reduceLT, reduceIte, true_or, or_true, not_false_eq_true, not_true_eq_false, and_self, and_true, true_and, LIT, Int32.reduceLT, Int32.reduceLE, Int32.reduceToNatClampNeg, H.1.1, show mC M t = 6 from hTA, hw1, H.2.1, hgn]
          cases hst2 : stopC M l g (mI M t 3) (chC M (wL M l 0 m) s)
          · rw [if_pos b2i_f]
            rw [hst2, if_neg (by decide)] at hn
            have e64 : (nI (i + 1) - 1) * 64 + nI m = nI (64 * i + m) := by
              rw [nI_pred, show (64 : Int32) = nI 64 from rfl, pk_mul, nI_add, Nat.mul_comm]
            rw [e64]
            obtain ⟨M', e', f', r'⟩ := p_meetC (by omega : 3 ≤ d) z H hst hw qw hin i m
            rw [e']
            refine ⟨M', rfl, f', ?_⟩
            have : b_try (nxC M l t g) cap (wsC M w) i s m b = b_meet cap (wsC M w) (chC M (wL M l 0 m) s) (i, m) b := by
              unfold b_try
              rw [if_pos hst, hn]
              show (if chC M (wL M l 0 m) s ∈ b.1 then b else _) = _
              rw [if_neg hin]
            rw [this]; exact r'
          · rw [if_neg (by decide)]
            rw [hst2, if_pos rfl] at hn
            exact none_case hn
        have led : ledC M l g (mI M t 3) (bJ (mL M t 2)) m s = (if stopC M l g (mI M t 3) (chC M (wL M l 0 m) s) = true then none else some (chC M (wL M l 0 m) s)) := by
          unfold ledC
          cases hst2 : stopC M l g (mI M t 3) (chC M (wL M l 0 m) s)
          · rw [if_pos ⟨hal, g2, g3, rfl⟩, if_neg (by decide)]
          · rw [if_neg (fun q => by cases q.2.2.2), if_pos rfl]
        by_cases g5 : mI M t 4 = 65535
        · rw [if_pos g5]
          simp only [hL.1, MR, ckk_T, deR_s, deQ_s, deQ_n, bkV_s, bkI_s, bkJ_s, bkQ_s, bkQ_n, ckb0, ckb1, ckb2, ckb3, eq_self, Nat.reduceEqDiff, Nat.reduceLeDiff, Nat.reduceLT, reduceIte, true_or, or_true, not_false_eq_true, not_true_eq_false, and_self, and_true, true_and, LIT, Int32.reduceLT, Int32.reduceLE, Int32.reduceToNatClampNeg]
          refine stops ?_
          unfold nxC
          rw [if_pos ⟨hm, Or.inl g5⟩]
          exact led
        · rw [if_neg g5, p_turnersC (by omega) hW]
          simp only [show mC M t = 6 from hTA, hL.1, hW.1, MR, ckk_T, deR_s, deQ_s, deQ_n, bkV_s, bkI_s, bkJ_s, bkQ_s, bkQ_n, ckb0, ckb1, ckb2, ckb3, eq_self, Nat.reduceEqDiff, Nat.reduceLeDiff, Nat.reduceLT, reduceIte, true_or, or_true, not_false_eq_true, not_true_eq_false, and_self, and_true, true_and, LIT, Int32.reduceLT, Int32.reduceLE, Int32.reduceToNatClampNeg]
          by_cases g6 : (cTxt M (wL M l 0 m)).2.2.2.2.2.2 s &&& (mI M t 4 ^^^ -1) = 0
          · rw [if_pos g6]
            refine stops ?_
            unfold nxC
            rw [if_pos ⟨hm, Or.inr g6⟩]
            exact led
          · rw [if_neg g6]
            apply none_case
            unfold nxC
            rw [if_neg (by rintro ⟨_, q | q⟩; exact g5 q; exact g6 q)]
