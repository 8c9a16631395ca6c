/-! text of the reference -/
theorem TR.nil {M : ej_Mem} (h : mI M 90 1 = 0) (tp : Nat → Nat) : TR M 0 tp := ⟨by decide, h, fun k hk => absurd hk (Nat.not_lt_zero k)⟩
theorem r_text {D : Nat} (hD : 13 ≤ D) {M : ej_Mem} {V : View} {mk : Nat} (h : KR M V mk) (hS : STR M) {t : Nat} {tp : Nat → Nat} (hP : TPO t tp) (T : TR M t tp) (x : Int32) : ∃ M', cal D jm_Ref_text [.ref 90, .int x] M = some (some (.int (a_text V tp t x)), M') ∧ FrG PrT M M' ∧ KR M' (u_text V tp t x) mk ∧ TR M' (t_text V t x) tp := by
  obtain ⟨d, rfl⟩ : ∃ d, D = d + 1 := ⟨D - 1, by omega⟩
  have hV := h.2.2.1
  have E := p_inI (by omega : 1 ≤ d) x 0 3 M
  rw [show Int32.toInt64 0 = 0 from by decide, show Int32.toInt64 3 = 3 from by decide] at E
  rw [ca_Ref_text, eq_Ref_text_0, E, bkI_s]
  unfold a_text u_text t_text txOk
  cases hx : inB x 0 3
  · rw [if_pos (by rfl), Bool.false_and, if_neg Bool.false_ne_true, if_neg Bool.false_ne_true, if_neg Bool.false_ne_true]
    exact ⟨M, rfl, FrG.refl _ M, h, T⟩
  · obtain ⟨so, hs, rfl⟩ := in03_get hx
    have ml := mst_le (k := so)
    have vl := hV.1 so hs
    have h92 : aI M 92 so = nI (vN V so) := by rw [(h.2.1.1 so hs).1, h.2.1.2.1 so hs]
    rw [if_neg (by decide), Bool.true_and, nI_clamp (by omega)]
    simp only [RW.all h.1, MR, ckk_T, deR_s, deQ_s, deQ_n, bkV_s, bkI_s, bkJ_s, bkQ_s, bkQ_n, ckb0, ckb1, ckb2, ckb3, eq_self, Nat.reduceEqDiff, Nat.reduceLeDiff, Nat.reduceLT, reduceIte, true_or, or_true, not_false_eq_true, not_true_eq_false, and_self, and_true, true_and, LIT, Int32.reduceLT, Int32.reduceLE, Int32.reduceToNatClampNeg]
    rw [ckb_n hs (by decide), p_mostOf (by omega) hs, bkI_s, h92]
    by_cases z : vN V so < mst so
    · rw [if_neg (fun y => by have := (nI_eq (by omega) (by omega)).mp y; omega), decide_eq_true z, if_pos rfl, if_pos rfl, if_pos rfl]
      simp only [RW.all h.1, MR, ckk_T, deR_s, deQ_s, deQ_n, bkV_s, bkI_s, bkJ_s, bkQ_s, bkQ_n, ckb0, ckb1, ckb2, ckb3, eq_self, Nat.reduceEqDiff, Nat.reduceLeDiff, Nat.reduceLT, reduceIte, true_or, or_true, not_false_eq_true, not_true_eq_false, and_self, and_true, true_and, LIT, Int32.reduceLT, Int32.reduceLE, Int32.reduceToNatClampNeg]
      rw [ckb_n hs (by decide), h92, p_slot (by omega) hs, bkI_s]
      simp only [RW.all h.1, MR, ckk_T, deR_s, deQ_s, deQ_n, bkV_s, bkI_s, bkJ_s, bkQ_s, bkQ_n, ckb0, ckb1, ckb2, ckb3, eq_self, Nat.reduceEqDiff, Nat.reduceLeDiff, Nat.reduceLT, reduceIte, true_or, or_true, not_false_eq_true, not_true_eq_false, and_self, and_true, true_and, LIT, Int32.reduceLT, Int32.reduceLE, Int32.reduceToNatClampNeg]
      rw [eq_Ref_text_41]
      simp only [RW.all h.1, MR, ckk_T, deR_s, deQ_s, deQ_n, bkV_s, bkI_s, bkJ_s, bkQ_s, bkQ_n, ckb0, ckb1, ckb2, ckb3, eq_self, Nat.reduceEqDiff, Nat.reduceLeDiff, Nat.reduceLT, reduceIte, true_or, or_true, not_false_eq_true, not_true_eq_false, and_self, and_true, true_and, LIT, Int32.reduceLT, Int32.reduceLE, Int32.reduceToNatClampNeg]
      rw [eq_Ref_text_46]
      simp only [RW.all h.1, MR, ckk_T, deR_s, deQ_s, deQ_n, bkV_s, bkI_s, bkJ_s, bkQ_s, bkQ_n, ckb0, ckb1, ckb2, ckb3, eq_self, Nat.reduceEqDiff, Nat.reduceLeDiff, Nat.reduceLT, reduceIte, true_or, or_true, not_false_eq_true, not_true_eq_false, and_self, and_true, true_and, LIT, Int32.reduceLT, Int32.reduceLE, Int32.reduceToNatClampNeg]
      rw [eq_Ref_text_51]
      simp only [RW.all h.1, MR, ckk_T, deR_s, deQ_s, deQ_n, bkV_s, bkI_s, bkJ_s, bkQ_s, bkQ_n, ckb0, ckb1, ckb2, ckb3, eq_self, Nat.reduceEqDiff, Nat.reduceLeDiff, Nat.reduceLT, reduceIte, true_or, or_true, not_false_eq_true, not_true_eq_false, and_self, and_true, true_and, LIT, Int32.reduceLT, Int32.reduceLE, Int32.reduceToNatClampNeg]
      rw [eq_Ref_text_56]
      simp only [RW.all h.1, MR, ckk_T, deR_s, deQ_s, deQ_n, bkV_s, bkI_s, bkJ_s, bkQ_s, bkQ_n, ckb0, ckb1, ckb2, ckb3, eq_self, Nat.reduceEqDiff, Nat.reduceLeDiff, Nat.reduceLT, reduceIte, true_or, or_true, not_false_eq_true, not_true_eq_false, and_self, and_true, true_and, LIT, Int32.reduceLT, Int32.reduceLE, Int32.reduceToNatClampNeg]
      rw [eq_Ref_text_61]
      simp only [RW.all h.1, MR, ckk_T, deR_s, deQ_s, deQ_n, bkV_s, bkI_s, bkJ_s, bkQ_s, bkQ_n, ckb0, ckb1, ckb2, ckb3, eq_self, Nat.reduceEqDiff, Nat.reduceLeDiff, Nat.reduceLT, reduceIte, true_or, or_true, not_false_eq_true, not_true_eq_false, and_self, and_true, true_and, LIT, Int32.reduceLT, Int32.reduceLE, Int32.reduceToNatClampNeg]
      have sl72 : pl so + vN V so < 72 := pl_mst hs z
      have FR := rdM_fr (P := Prd1 (pl so + vN V so)) M (pl so + vN V so) (fun k a b => by unfold Prd1 Pcl Pt; omega)
      have WR := FR.rw h.1
      have HR0 : RL (rdM M (pl so + vN V so)) t tp 0 0 := ⟨WR, hS.fr (rdM_fr (P := fun o k => o = 90 ∧ 2 ≤ k) M (pl so + vN V so) (fun k a b => ⟨rfl, a⟩)) (fun o k q z => by omega), ⟨hP, T⟩, rfl, rfl⟩
      have i4 : mI (rdM M (pl so + vN V so)) 90 4 = nI (pl so + vN V so) := rfl
      have i5 : mI (rdM M (pl so + vN V so)) 90 5 = 0 := rfl
      have i6 : mI (rdM M (pl so + vN V so)) 90 6 = 0 := rfl
      have i7 : mI (rdM M (pl so + vN V so)) 90 7 = 0 := rfl
      show ∃ M', rn jm_Ref_text (cal d) 66 [some (.ref 90), some (.int (nI so)), none] [] (rdM M (pl so + vN V so)) = _ ∧ _
      generalize rdM M (pl so + vN V so) = MR0 at *
      obtain ⟨M1, y, e1, F1, g1, W1, g4, G⟩ := r_read (by omega : 12 ≤ d) hs ⟨vN V so, z, rfl⟩ HR0 i4 i5 i6 i7
      rw [e1, eq_Ref_text_151, ckk_t W1.1]
      have F01 := FR.trans F1
      cases hr : ptx tp t so with
      | inl g =>
        rw [hr] at G
        obtain ⟨g0, gb, g3⟩ := G
        rw [g3, if_neg (nI_nle (by omega) (by omega)), ckk_t W1.1]
        exact ⟨M1, rfl, Prd1_T F01, h.rd hs z F01, TR.nil g1 tp⟩
      | inr q =>
        obtain ⟨n, c, Tx⟩ := q
        rw [hr] at G
        obtain ⟨rfl, g3, n12, n48, cl, tx⟩ := G
        rw [g3, if_pos (by decide)]
        simp only [RW.all W1, g4, MR, ckk_T, deR_s, deQ_s, deQ_n, bkV_s, bkI_s, bkJ_s, bkQ_s, bkQ_n, ckb0, ckb1, ckb2, ckb3, eq_self, Nat.reduceEqDiff, Nat.reduceLeDiff, Nat.reduceLT, reduceIte, true_or, or_true, not_false_eq_true, not_true_eq_false, and_self, and_true, true_and, LIT, Int32.reduceLT, Int32.reduceLE, Int32.reduceToNatClampNeg]
        rw [ckb_n sl72 (by decide), nI_clamp (by omega), eq_Ref_text_176]
        -- the clauses are counted
        have F2 : Fr (fun o k => o = 95 ∧ k = pl so + vN V so) M1 (setA M1 95 (pl so + vN V so) (nI n)) := Fr.setA (P := fun o k => o = 95 ∧ k = pl so + vN V so) M1 _ ⟨rfl, rfl⟩
        have v95 : aI (setA M1 95 (pl so + vN V so) (nI n)) 95 (pl so + vN V so) = nI n := gA_s _ _ _ _
        have W2 := F2.rw W1
        generalize setA M1 95 (pl so + vN V so) (nI n) = M2 at *
        have m92 : ∀ k, aI M2 92 k = aI M 92 k := fun k => by rw [F2.a (by omega), F01.a (by unfold Prd1 Pcl Pt; omega)]
        have d1 : mI M2 90 1 = 0 := by rw [F2.i (by omega)]; exact g1
        -- what comes behind, whatever years were set
        have fin : ∀ M3 : ej_Mem, Fr (fun o k => (o = 101 ∨ o = 102) ∧ so = 0 ∧ k = vN V 0) M2 M3 → (so = 0 → aI M3 101 (vN V 0) = 0 ∧ aI M3 102 (vN V 0) = 2999) → ∃ M', rn jm_Ref_text (cal d) 206 [some (.ref 90), some (.int (nI so)), some (.int (nI n))] [] M3 = some (some (.int (nI (vN V so))), M') ∧ FrG PrT M M' ∧ KR M' (addT V so Tx) mk ∧ TR M' 0 tp := by
          intro M3 F3 ho
          have W3 := F3.rw W2
          have m3 : aI M3 92 so = nI (vN V so) := by rw [F3.a (by omega), m92]; exact h92
          rw [eq_Ref_text_206]
          simp only [RW.all W3, MR, ckk_T, deR_s, deQ_s, deQ_n, bkV_s, bkI_s, bkJ_s, bkQ_s, bkQ_n, ckb0, ckb1, ckb2, ckb3, eq_self, Nat.reduceEqDiff, Nat.reduceLeDiff, Nat.reduceLT, reduceIte, true_or, or_true, not_false_eq_true, not_true_eq_false, and_self, and_true, true_and, LIT, Int32.reduceLT, Int32.reduceLE, Int32.reduceToNatClampNeg]
          rw [ckb_n hs (by decide), ckb_n hs (by decide), nI_clamp (by omega), m3, nI_1, eq_Ref_text_216]
          have F4 : Fr (fun o k => o = 92 ∧ k = so) M3 (setA M3 92 so (nI (vN V so + 1))) := Fr.setA (P := fun o k => o = 92 ∧ k = so) M3 _ ⟨rfl, rfl⟩
          have v92 : aI (setA M3 92 so (nI (vN V so + 1))) 92 so = nI (vN V so + 1) := gA_s _ _ _ _
          have W4 := F4.rw W3
          generalize setA M3 92 so (nI (vN V so + 1)) = M4 at *
          simp only [RW.all W4, MR, ckk_T, deR_s, deQ_s, deQ_n, bkV_s, bkI_s, bkJ_s, bkQ_s, bkQ_n, ckb0, ckb1, ckb2, ckb3, eq_self, Nat.reduceEqDiff, Nat.reduceLeDiff, Nat.reduceLT, reduceIte, true_or, or_true, not_false_eq_true, not_true_eq_false, and_self, and_true, true_and, LIT, Int32.reduceLT, Int32.reduceLE, Int32.reduceToNatClampNeg]
          rw [ckb_n hs (by decide), nI_clamp (by omega), v92, nI_pred]
          have FA : Fr (fun o k => Prd1 (pl so + vN V so) o k ∨ (o = 95 ∧ k = pl so + vN V so) ∨ (o = 92 ∧ k = so) ∨ ((o = 101 ∨ o = 102) ∧ so = 0 ∧ k = vN V 0)) M M4 := (((F01.mono (fun _ _ q => Or.inl q)).trans (F2.mono (fun _ _ q => Or.inr (Or.inl q)))).trans (F3.mono (fun _ _ q => Or.inr (Or.inr (Or.inr q))))).trans (F4.mono (fun _ _ q => Or.inr (Or.inr (Or.inl q))))
          have a14 : ∀ o, 93 ≤ o → o ≤ 99 → o ≠ 95 → aI M4 o = aI M1 o := fun o l u q => by rw [F4.af (fun k => by omega), F3.af (fun k => by omega), F2.af (fun k => by omega)]
          have a95 : aI M4 95 (pl so + vN V so) = nI n := by rw [F4.a (by omega), F3.a (by omega)]; exact v95
          have tx' := tx (aI M4) a14 a95
          rw [show pl so + vN V so - pl so = vN V so by omega] at tx'
          have sok : slOK (aI M4) (pl so + vN V so) := ⟨n, a95, n12, n48, fun i hi => by
            obtain ⟨⟨a, b, r1, r2, r3, r4, r5⟩, c2, c3, c4⟩ := cl i hi
            rw [a14 96 (by decide) (by decide) (by decide), a14 98 (by decide) (by decide) (by decide), a14 99 (by decide) (by decide) (by decide)]
            exact ⟨⟨a, b, by rw [a14 98 (by decide) (by decide) (by decide)]; exact r1, by rw [a14 99 (by decide) (by decide) (by decide)]; exact r2, r3, r4, by rw [a14 93 (by decide) (by decide) (by decide)]; exact r5⟩, c2, c3, c4⟩⟩
          refine ⟨M4, rfl, FA.g.mono (fun o k _ q => by unfold Prd1 Pcl Pt at q; unfold PrT P8; omega), h.add hs z (TOK_ptx hr) FA (fun _ _ q => q) v92 sok tx' (fun q => ?_), TR.nil ?_ tp⟩
          · rw [F4.a (by omega), F4.a (by omega)]; exact ho q
          · rw [F4.i (by omega), F3.i (by omega)]; exact d1
        by_cases s0 : so = 0
        · subst s0
          rw [if_pos (by rfl)]
          have m0 : aI M2 92 0 = nI (vN V 0) := by rw [m92]; exact h92
          have l40 : mst 0 = 40 := rfl
          simp only [RW.all W2, MR, ckk_T, deR_s, deQ_s, deQ_n, bkV_s, bkI_s, bkJ_s, bkQ_s, bkQ_n, ckb0, ckb1, ckb2, ckb3, eq_self, Nat.reduceEqDiff, Nat.reduceLeDiff, Nat.reduceLT, reduceIte, true_or, or_true, not_false_eq_true, not_true_eq_false, and_self, and_true, true_and, LIT, Int32.reduceLT, Int32.reduceLE, Int32.reduceToNatClampNeg]
          rw [m0, ckb_n (by omega) (by decide), nI_clamp (by omega), eq_Ref_text_192]
          have F3 : Fr (fun o k => (o = 101 ∨ o = 102) ∧ (0 : Nat) = 0 ∧ k = vN V 0) M2 (setA M2 101 (vN V 0) 0) := Fr.setA (P := fun o k => (o = 101 ∨ o = 102) ∧ (0 : Nat) = 0 ∧ k = vN V 0) M2 _ ⟨Or.inl rfl, rfl, rfl⟩
          have v1 : aI (setA M2 101 (vN V 0) 0) 101 (vN V 0) = 0 := gA_s _ _ _ _
          have W3 := F3.rw W2
          generalize setA M2 101 (vN V 0) 0 = M3 at *
          have m3 : aI M3 92 0 = nI (vN V 0) := by rw [F3.a (by omega)]; exact m0
          simp only [RW.all W3, MR, ckk_T, deR_s, deQ_s, deQ_n, bkV_s, bkI_s, bkJ_s, bkQ_s, bkQ_n, ckb0, ckb1, ckb2, ckb3, eq_self, Nat.reduceEqDiff, Nat.reduceLeDiff, Nat.reduceLT, reduceIte, true_or, or_true, not_false_eq_true, not_true_eq_false, and_self, and_true, true_and, LIT, Int32.reduceLT, Int32.reduceLE, Int32.reduceToNatClampNeg]
          rw [m3, ckb_n (by omega) (by decide), nI_clamp (by omega)]
          exact fin _ (F3.trans (Fr.setA (P := fun o k => (o = 101 ∨ o = 102) ∧ (0 : Nat) = 0 ∧ k = vN V 0) M3 _ ⟨Or.inr rfl, rfl, rfl⟩)) (fun _ => ⟨by rw [gA_o (by decide)]; exact v1, gA_s _ _ _ _⟩)
        · rw [if_neg (show ¬ nI so = 0 from fun q => s0 ((nI_eq (by omega) (by decide : 0 < 2 ^ 31)).mp q))]
          exact fin M2 (Fr.refl _ M2) (fun q => absurd q s0)
    · rw [if_pos (show nI (vN V so) = nI (mst so) by rw [show vN V so = mst so by omega]), decide_eq_false z, if_neg Bool.false_ne_true, if_neg Bool.false_ne_true, if_neg Bool.false_ne_true]
      exact ⟨M, rfl, FrG.refl _ M, h, T⟩
