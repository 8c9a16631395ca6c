/-! the reference: a clause -/
theorem r_cltail {D : Nat} (hD : 9 ≤ D) {M : ej_Mem} {t : Nat} {tp : Nat → Nat} {so sl e q n c k : Nat} {sd sf : Bool} {T : Txt} (h : RCs M t tp so sl e (q, n, c, sd, sf, T)) (hs : so < 2) (hsl : sl < 72) (hs0 : so = 0 → sl < 40) (hn : n < 12) (hk : k < wN so) (hw : stw tp t q (wd (wB so + k)) = true) {l3 l4 : Int32} {o6 : Option Value} : ∃ M', rn jm_Ref_clause (cal D) 104 [some (.ref 90), some (.int (nI so)), some (.int (nI n)), some (.int l3), some (.int l4), some (.int (nI k)), o6] [] M = some (none, M') ∧ ClG M M' t tp so sl (clk tp t so n c sd sf T k (lwk tp t q)) := by
  have h0 := h
  obtain ⟨H, ⟨h4, h5, h6, h7⟩, R, eT, ⟨B1, B2, B3⟩, hd⟩ := h
  have B1 : 3 * e ≤ q + 3 * c := B1
  have B2 : c ≤ 60 := B2
  have B3 : q ≤ t := B3
  have t4 := H.2.2.1.1.1
  have wl : wN so ≤ 7 := by unfold wN; split <;> decide
  have eL : lwk tp t q = q + (wd (wB so + k)).length := stw_len hw
  have pl : lwk tp t q ≤ t := by rw [eL]; exact stw_le B3 hw
  have pg : q ≤ lwk tp t q := by rw [eL]; omega
  rw [r_cl104 (by omega) hs H h4 h5 hsl hn hk, ← eL]
  have H2 := clM_rl H (lwk tp t q) (12 * sl + n) (nI k) e
  have i2 := fun j hj => clM_i M (lwk tp t q) (12 * sl + n) (nI k) e (j := j) hj
  have a2 := clM_a M (lwk tp t q) (12 * sl + n) (nI k) e
  have F2 := clM_fr (sl := sl) M (lwk tp t q) n hn (nI k) e
  have j4 : mI (clM M (lwk tp t q) (12 * sl + n) (nI k) e) 90 4 = nI sl := by rw [i2 4 (by decide)]; exact h4
  have j5 : mI (clM M (lwk tp t q) (12 * sl + n) (nI k) e) 90 5 = nI e := by rw [i2 5 (by decide)]; exact h5
  have j6 : mI (clM M (lwk tp t q) (12 * sl + n) (nI k) e) 90 6 = 0 := by rw [i2 6 (by decide)]; exact h6
  have j7 : mI (clM M (lwk tp t q) (12 * sl + n) (nI k) e) 90 7 = nI c := by rw [i2 7 (by decide)]; exact h7
  generalize hM2 : clM M (lwk tp t q) (12 * sl + n) (nI k) e = M2 at *
  have w97 : aI M2 97 (12 * sl + n) = 0 := by rw [a2.2.1, up_s]
  generalize lwk tp t q = p1 at *
  unfold clk
  by_cases hT : isTk so k = true
  · rw [if_pos hT, if_pos hT, eq_Ref_clause_180, ckk_t H2.1.1]
    obtain ⟨M3, e3, F3, G3⟩ := r_test hD H2 j4 j5 j6 j7 hsl (by omega) B2 pl
    rw [e3, bkV_s]
    cases hr : tst tp t p1 c with
    | inl g =>
      rw [hr] at G3
      exact cl_dead hsl hn F2 (Pt_cl F3) G3
    | inr y =>
      obtain ⟨p', w, c'⟩ := y
      rw [hr] at G3
      obtain ⟨e', X, b1, b2, b3, b4⟩ := G3
      refine cl_fin h0 hs hsl hn (by omega) hM2.symm (F3.mono (fun _ _ q => Or.inl q)) X.1 X.2.1.1 X.2.1.2.1 X.2.1.2.2.1 X.2.1.2.2.2.1 (by omega) ⟨by omega, b2, b3⟩ (x := 0) (by rw [F3.a (by unfold Pt; omega)]; exact w97) (fun _ => X.2.2.2.1.one.1) (fun _ => b4) (fun A v3 v4 v6 v7 v8 v9 hA => ?_) (fun z => ?_)
      · have rq : RQ (A 93) (A 94) (200 * sl + e) (e' - e) [w] := by rw [v3, v4]; exact X.2.2.2.1
        have rw1 := rTs_at hn (by omega) v8 v9 (by omega) rq
        have : so = 0 ∨ so = 1 := by omega
        rcases this with rfl | rfl
        · have k0 : k = 0 := of_decide_eq_true hT
          subst k0
          rw [st0_0 A (hs0 rfl) v6, hA, rw1]
        · have k1 : k = 1 := of_decide_eq_true hT
          subst k1
          rw [st1_1 A v6, hA, rw1]
      · subst z
        have k0 : k = 0 := of_decide_eq_true hT
        subst k0
        exact ⟨by simp, by simp⟩
  · rw [if_neg hT, if_neg hT, eq_Ref_clause_187]
    have e1 : (nI so = 1) ↔ so = 1 := nI_eq (by omega) (by decide : 1 < 2 ^ 31)
    have ek : ∀ y : Nat, y < 7 → (nI k = nI y ↔ k = y) := fun y hy => nI_eq (by omega) (by omega)
    by_cases hR : so = 1 ∨ k = 1 ∨ k = 2
    · rw [if_pos hR]
      have sel : (if nI so = 1 then rn jm_Ref_clause (cal D) 204 [some (.ref 90), some (.int (nI so)), some (.int (nI n)), some (.int l3), some (.int l4), some (.int (nI k)), some (.int (nI (12 * sl + n)))] [] M2 else if nI k = 1 then rn jm_Ref_clause (cal D) 204 [some (.ref 90), some (.int (nI so)), some (.int (nI n)), some (.int l3), some (.int l4), some (.int (nI k)), some (.int (nI (12 * sl + n)))] [] M2 else if nI k = 2 then rn jm_Ref_clause (cal D) 204 [some (.ref 90), some (.int (nI so)), some (.int (nI n)), some (.int l3), some (.int l4), some (.int (nI k)), some (.int (nI (12 * sl + n)))] [] M2 else ckk (mC M2 90 = 9) (deR (mR M2 90 16) fun q1 => if nI k = 3 then rn jm_Ref_clause (cal D) 251 [some (.ref 90), some (.int (nI so)), some (.int (nI n)), some (.int l3), some (.int l4), some (.int (nI k)), some (.int (nI (12 * sl + n)))] [.int 999, .ref 90, .int (nI (12 * sl + n)), .ref q1] M2 else if nI k = 4 then rn jm_Ref_clause (cal D) 251 [some (.ref 90), some (.int (nI so)), some (.int (nI n)), some (.int l3), some (.int l4), some (.int (nI k)), some (.int (nI (12 * sl + n)))] [.int 9999, .ref 90, .int (nI (12 * sl + n)), .ref q1] M2 else rn jm_Ref_clause (cal D) 251 [some (.ref 90), some (.int (nI so)), some (.int (nI n)), some (.int l3), some (.int l4), some (.int (nI k)), some (.int (nI (12 * sl + n)))] [.int 15, .ref 90, .int (nI (12 * sl + n)), .ref q1] M2)) = rn jm_Ref_clause (cal D) 204 [some (.ref 90), some (.int (nI so)), some (.int (nI n)), some (.int l3), some (.int l4), some (.int (nI k)), some (.int (nI (12 * sl + n)))] [] M2 := by
        by_cases z1 : so = 1
        · rw [if_pos (e1.mpr z1)]
        · rw [if_neg (fun z => z1 (e1.mp z))]
          by_cases z2 : k = 1
          · rw [if_pos (show nI k = 1 from (ek 1 (by decide)).mpr z2)]
          · rw [if_neg (show ¬ nI k = 1 from fun z => z2 ((ek 1 (by decide)).mp z)), if_pos (show nI k = 2 from (ek 2 (by decide)).mpr (by omega))]
      rw [sel, eq_Ref_clause_204]
      simp only [RW.all H2.1, MR, ckk_T, deR_s, deQ_s, deQ_n, bkV_s, bkI_s, bkJ_s, bkQ_s, bkQ_n, ckb0, ckb1, ckb2, ckb3, eq_self, Nat.reduceEqDiff, Nat.reduceLeDiff, Nat.reduceLT, reduceIte, true_or, or_true, not_false_eq_true, not_true_eq_false, and_self, and_true, true_and, LIT, Int32.reduceLT, Int32.reduceLE, Int32.reduceToNatClampNeg]
      rw [r_rights (by omega) H2 (by decide) pl, bkI_s]
      have b2 : blk tp t p1 ≤ t := bl_le tp t 401 p1 pl
      have rl := rts_le tp t 401 (blk tp t p1) 0 b2
      have b1 : p1 ≤ blk tp t p1 := bl_ge tp t 401 p1
      have rg : blk tp t p1 ≤ (rts tp t 401 (blk tp t p1) 0).1 := by
        have : ∀ m y a, y ≤ (rts tp t m y a).1 := by
          intro m
          induction m with
          | zero => intro y a; exact Nat.le_refl _
          | succ m ih =>
            intro y a
            unfold rts
            split
            · have := ih (blk tp t (y + 1)) (a ||| rb (sg tp t y))
              have := bl_ge tp t 401 (y + 1)
              unfold blk at *
              omega
            · exact Nat.le_refl _
        exact this 401 _ 0
      generalize hrt : rts tp t 401 (blk tp t p1) 0 = rr at *
      cases hi : inr 65 88 (sg tp t (blk tp t p1)) with
      | true =>
        rw [if_pos rfl, if_pos rfl]
        have H3 := H2.pf rr.1 0
        have F3 := pf_Pt sl e M2 rr.1 0
        have fi := fun j hj => (pf_fr 90 M2 rr.1 0).i (o := 90) (k := j) hj
        generalize pf 90 M2 rr.1 0 = M3 at *
        simp only [RW.all H3.1, MR, ckk_T, deR_s, deQ_s, deQ_n, bkV_s, bkI_s, bkJ_s, bkQ_s, bkQ_n, ckb0, ckb1, ckb2, ckb3, eq_self, Nat.reduceEqDiff, Nat.reduceLeDiff, Nat.reduceLT, reduceIte, true_or, or_true, not_false_eq_true, not_true_eq_false, and_self, and_true, true_and, LIT, Int32.reduceLT, Int32.reduceLE, Int32.reduceToNatClampNeg]
        rw [ckb_n (by omega) (by decide), nI_clamp (by omega)]
        have F4 : Fr (Ptw sl e n) M3 (setA M3 97 (12 * sl + n) rr.2) := Fr.setA (P := Ptw sl e n) M3 _ (Or.inr ⟨rfl, rfl⟩)
        have H4 : RL (setA M3 97 (12 * sl + n) rr.2) t tp rr.1 0 := H3.keep (Fr.setA (P := fun o j => 92 ≤ o ∨ (o = 90 ∧ 4 ≤ j)) _ _ (by omega)) (fun o k q => q)
        refine cl_fin h0 hs hsl hn (by omega) hM2.symm ((F3.mono (fun _ _ q => Or.inl q)).trans F4) H4 ((fi 4 (by unfold Ppf; omega)).trans j4) ((fi 5 (by unfold Ppf; omega)).trans j5) ((fi 6 (by unfold Ppf; omega)).trans j6) ((fi 7 (by unfold Ppf; omega)).trans j7) (Nat.le_refl e) ⟨by omega, B2, rl⟩ (x := rr.2) (gA_s _ _ _ _) (fun z => absurd z (Nat.lt_irrefl e)) (fun z => absurd z hT) (fun A v3 v4 v6 v7 v8 v9 hA => ?_) (fun z => ?_)
        · have : so = 0 ∨ so = 1 := by omega
          rcases this with rfl | rfl
          · have : k = 1 ∨ k = 2 := by
              rcases hR with z | z | z
              · exact absurd z (by decide)
              · exact Or.inl z
              · exact Or.inr z
            rcases this with rfl | rfl
            · rw [st0_1 A (hs0 rfl) v6, hA, v7]
            · rw [st0_2 A (hs0 rfl) v6, hA, v7]
          · have hk2 : k < 2 := hk
            have k0 : k = 0 := by
              by_cases z : k = 1
              · exact absurd (by unfold isTk; rw [if_pos rfl]; exact decide_eq_true z) hT
              · omega
            subst k0
            rw [st1_0 A v6, hA, v7]
        · subst z
          have : k ≠ 3 ∧ k ≠ 4 := by omega
          rw [decide_eq_false this.1, decide_eq_false this.2, Bool.or_false, Bool.or_false]
          exact ⟨rfl, rfl⟩
      | false =>
        rw [if_neg Bool.false_ne_true, if_neg Bool.false_ne_true]
        have fb : flt 0 (blk tp t p1) < 2 ^ 30 := by unfold flt blk at *; omega
        have H3 := H2.pf rr.1 (orF 0 (flt 0 (blk tp t p1)))
        have F3 := pf_Pt sl e M2 rr.1 (orF 0 (flt 0 (blk tp t p1)))
        generalize pf 90 M2 rr.1 (orF 0 (flt 0 (blk tp t p1))) = M3 at *
        simp only [RW.all H3.1, MR, ckk_T, deR_s, deQ_s, deQ_n, bkV_s, bkI_s, bkJ_s, bkQ_s, bkQ_n, ckb0, ckb1, ckb2, ckb3, eq_self, Nat.reduceEqDiff, Nat.reduceLeDiff, Nat.reduceLT, reduceIte, true_or, or_true, not_false_eq_true, not_true_eq_false, and_self, and_true, true_and, LIT, Int32.reduceLT, Int32.reduceLE, Int32.reduceToNatClampNeg]
        rw [ckb_n (by omega) (by decide), nI_clamp (by omega)]
        have d3 : RDd M3 t tp (flt 0 (blk tp t p1)) := ⟨flt_pos 0 _, fb, rr.1, by omega, H3⟩
        exact cl_dead hsl hn F2 ((Pt_cl F3).trans (Fr.setA (P := Pcl sl) M3 _ (Or.inr ⟨by omega, by omega, by omega⟩))) (d3.set (by decide) _)
    · rw [if_neg hR]
      have so0 : so = 0 := by omega
      subst so0
      have hk7 : k < 7 := hk
      have hk3 : 3 ≤ k := by
        by_cases z : k = 0
        · exact absurd (by unfold isTk; rw [if_neg (by decide)]; exact decide_eq_true z) hT
        · omega
      have nk : ∀ y : Nat, y < 7 → k ≠ y → ¬ nI k = nI y := fun y hy q z => q ((ek y hy).mp z)
      have go : (if nI 0 = (1 : Int32) then rn jm_Ref_clause (cal D) 204 [some (.ref 90), some (.int (nI 0)), some (.int (nI n)), some (.int l3), some (.int l4), some (.int (nI k)), some (.int (nI (12 * sl + n)))] [] M2 else if nI k = 1 then rn jm_Ref_clause (cal D) 204 [some (.ref 90), some (.int (nI 0)), some (.int (nI n)), some (.int l3), some (.int l4), some (.int (nI k)), some (.int (nI (12 * sl + n)))] [] M2 else if nI k = 2 then rn jm_Ref_clause (cal D) 204 [some (.ref 90), some (.int (nI 0)), some (.int (nI n)), some (.int l3), some (.int l4), some (.int (nI k)), some (.int (nI (12 * sl + n)))] [] M2 else ckk (mC M2 90 = 9) (deR (mR M2 90 16) fun q1 => if nI k = 3 then rn jm_Ref_clause (cal D) 251 [some (.ref 90), some (.int (nI 0)), some (.int (nI n)), some (.int l3), some (.int l4), some (.int (nI k)), some (.int (nI (12 * sl + n)))] [.int 999, .ref 90, .int (nI (12 * sl + n)), .ref q1] M2 else if nI k = 4 then rn jm_Ref_clause (cal D) 251 [some (.ref 90), some (.int (nI 0)), some (.int (nI n)), some (.int l3), some (.int l4), some (.int (nI k)), some (.int (nI (12 * sl + n)))] [.int 9999, .ref 90, .int (nI (12 * sl + n)), .ref q1] M2 else rn jm_Ref_clause (cal D) 251 [some (.ref 90), some (.int (nI 0)), some (.int (nI n)), some (.int l3), some (.int l4), some (.int (nI k)), some (.int (nI (12 * sl + n)))] [.int 15, .ref 90, .int (nI (12 * sl + n)), .ref q1] M2)) = rn jm_Ref_clause (cal D) 251 [some (.ref 90), some (.int (nI 0)), some (.int (nI n)), some (.int l3), some (.int l4), some (.int (nI k)), some (.int (nI (12 * sl + n)))] [.int (nI (mostN k)), .ref 90, .int (nI (12 * sl + n)), .ref 97] M2 := by
        rw [if_neg (by decide), if_neg (show ¬ nI k = 1 from nk 1 (by decide) (by omega)), if_neg (show ¬ nI k = 2 from nk 2 (by decide) (by omega))]
        simp only [RW.all H2.1, MR, ckk_T, deR_s, deQ_s, deQ_n, bkV_s, bkI_s, bkJ_s, bkQ_s, bkQ_n, ckb0, ckb1, ckb2, ckb3, eq_self, Nat.reduceEqDiff, Nat.reduceLeDiff, Nat.reduceLT, reduceIte, true_or, or_true, not_false_eq_true, not_true_eq_false, and_self, and_true, true_and, LIT, Int32.reduceLT, Int32.reduceLE, Int32.reduceToNatClampNeg]
        unfold mostN
        by_cases z3 : k = 3
        · rw [if_pos (show nI k = 3 from (ek 3 (by decide)).mpr z3), if_pos z3]; rfl
        · rw [if_neg (show ¬ nI k = 3 from nk 3 (by decide) z3), if_neg z3]
          by_cases z4 : k = 4
          · rw [if_pos (show nI k = 4 from (ek 4 (by decide)).mpr z4), if_pos z4]; rfl
          · rw [if_neg (show ¬ nI k = 4 from nk 4 (by decide) z4), if_neg z4]; rfl
      rw [go, eq_Ref_clause_251]
      have b2 : blk tp t p1 ≤ t := bl_le tp t 401 p1 pl
      have b1 : p1 ≤ blk tp t p1 := bl_ge tp t 401 p1
      have nl := num_le (tp := tp) b2
      have ml := mostN_lt k
      have nb := nmF_b (tp := tp) (most := mostN k) (f := 0) (by decide) pl t4
      rw [ckk_t H2.1.1, r_amount (by omega) H2 (by decide) pl rfl ml, bkI_s]
      have H3 := H2.pf (blk tp t p1 + (num tp t (blk tp t p1)).1) (nmF tp t (mostN k) p1 0)
      have F3 := pf_Pt sl e M2 (blk tp t p1 + (num tp t (blk tp t p1)).1) (nmF tp t (mostN k) p1 0)
      have fi := fun j hj => (pf_fr 90 M2 (blk tp t p1 + (num tp t (blk tp t p1)).1) (nmF tp t (mostN k) p1 0)).i (o := 90) (k := j) hj
      generalize hM3 : pf 90 M2 (blk tp t p1 + (num tp t (blk tp t p1)).1) (nmF tp t (mostN k) p1 0) = M3 at *
      have F4 : Fr (Ptw sl e n) M3 (setA M3 97 (12 * sl + n) (nI (num tp t (blk tp t p1)).2)) := Fr.setA (P := Ptw sl e n) M3 _ (Or.inr ⟨rfl, rfl⟩)
      have H4 : RL (setA M3 97 (12 * sl + n) (nI (num tp t (blk tp t p1)).2)) t tp (blk tp t p1 + (num tp t (blk tp t p1)).1) (nmF tp t (mostN k) p1 0) := H3.keep (Fr.setA (P := fun o j => 92 ≤ o ∨ (o = 90 ∧ 4 ≤ j)) _ _ (by omega)) (fun o k q => q)
      have g4 : mI (setA M3 97 (12 * sl + n) (nI (num tp t (blk tp t p1)).2)) 90 4 = nI sl := (fi 4 (by unfold Ppf; omega)).trans j4
      have g5 : mI (setA M3 97 (12 * sl + n) (nI (num tp t (blk tp t p1)).2)) 90 5 = nI e := (fi 5 (by unfold Ppf; omega)).trans j5
      have g6 : mI (setA M3 97 (12 * sl + n) (nI (num tp t (blk tp t p1)).2)) 90 6 = 0 := (fi 6 (by unfold Ppf; omega)).trans j6
      have g7 : mI (setA M3 97 (12 * sl + n) (nI (num tp t (blk tp t p1)).2)) 90 7 = nI c := (fi 7 (by unfold Ppf; omega)).trans j7
      have v97 : aI (setA M3 97 (12 * sl + n) (nI (num tp t (blk tp t p1)).2)) 97 (12 * sl + n) = nI (num tp t (blk tp t p1)).2 := gA_s _ _ _ _
      simp only [RW.all H3.1, MR, ckk_T, deR_s, deQ_s, deQ_n, bkV_s, bkI_s, bkJ_s, bkQ_s, bkQ_n, ckb0, ckb1, ckb2, ckb3, eq_self, Nat.reduceEqDiff, Nat.reduceLeDiff, Nat.reduceLT, reduceIte, true_or, or_true, not_false_eq_true, not_true_eq_false, and_self, and_true, true_and, LIT, Int32.reduceLT, Int32.reduceLE, Int32.reduceToNatClampNeg]
      rw [ckb_n (by omega) (by decide), nI_clamp (by omega)]
      generalize setA M3 97 (12 * sl + n) (nI (num tp t (blk tp t p1)).2) = M4 at *
      have F24 : Fr (Ptw sl e n) M2 M4 := (F3.mono (fun _ _ q => Or.inl q)).trans F4
      have F24c : Fr (Pcl sl) M2 M4 := F24.mono (fun o j q => by unfold Ptw Pt at q; unfold Pcl Pt; omega)
      by_cases zg : nmF tp t (mostN k) p1 0 = 0
      · rw [if_pos zg]
        obtain ⟨y1, y2⟩ := nmF_0 zg
        rw [zg] at H4
        have ef : mI M4 90 3 = 0 := H4.2.2.2.2
        have plain : ∀ (M5 : ej_Mem) (p' : Nat) (sd' sf' : Bool) (T' : Txt), Fr (Ptw sl e n) M2 M5 → RL M5 t tp p' 0 → (∀ j, 4 ≤ j → j ≤ 7 → mI M5 90 j = mI M4 90 j) → aI M5 97 = aI M4 97 → blk tp t p1 ≤ p' → p' ≤ t → (∀ A : Arr, A 96 (12 * sl + n) = nI k → A 97 (12 * sl + n) = nI (num tp t (blk tp t p1)).2 → A 98 (12 * sl + n) = nI e → A 99 (12 * sl + n) = nI e → rTxn A 0 sl n = T → rTxn A 0 sl (n + 1) = T') → (sd' = (sd || decide (k = 3)) ∧ sf' = (sf || decide (k = 4))) → ∃ M', rn jm_Ref_clause (cal D) 283 [some (.ref 90), some (.int (nI 0)), some (.int (nI n)), some (.int l3), some (.int l4), some (.int (nI k)), some (.int (nI (12 * sl + n)))] [] M5 = some (none, M') ∧ ClG M M' t tp 0 sl (.inr (p', n + 1, c, sd', sf', T')) := by
          intro M5 p' sd' sf' T' F5 H5 hj h97 hp1 hp2 hTT hds
          exact cl_fin h0 hs hsl hn hk7 hM2.symm F5 H5 ((hj 4 (by decide) (by decide)).trans g4) ((hj 5 (by decide) (by decide)).trans g5) ((hj 6 (by decide) (by decide)).trans g6) ((hj 7 (by decide) (by decide)).trans g7) (Nat.le_refl e) ⟨by omega, B2, hp2⟩ (by rw [h97]; exact v97) (fun z => absurd z (Nat.lt_irrefl e)) (fun z => absurd z hT) (fun A v3 v4 v6 v7 v8 v9 hA => hTT A v6 v7 v8 v9 hA) (fun _ => hds)
        by_cases z6 : k = 6
        · rw [if_pos z6, if_pos (show nI k = 6 from (ek 6 (by decide)).mpr z6)]
          rw [H3.2.2.2.2, zg, if_pos (show nI 0 = 0 from rfl)]
          subst z6
          generalize hq2 : blk tp t p1 + (num tp t (blk tp t p1)).1 = p2 at *
          have b4 : p2 ≤ blk tp t p2 := bl_ge tp t 401 p2
          have b5 : blk tp t p2 ≤ t := bl_le tp t 401 p2 nl.1
          have H5 := H4.pf (blk tp t p2) 0
          have F5 := pf_Pt sl e M4 (blk tp t p2) 0
          have tk : cal D jm_Ref_takes [.ref 90, .ref 30] M4 = some (some (.int (b2i (stw tp t (blk tp t p2) (wd 13)))), pf 90 M4 (if stw tp t (blk tp t p2) (wd 13) = true then blk tp t p2 + 2 else blk tp t p2) 0) := by
            obtain ⟨d, rfl⟩ : ∃ d, D = d + 1 := ⟨D - 1, by omega⟩
            rw [ca_Ref_takes, eq_Ref_takes_0, ckk_t H4.1.1, r_blanks (by omega) H4 (by omega), bkV_s, ckk_t H5.1.1, r_stands (by omega) H5 (k := 27) (by decide) b5 rfl, bkI_s, show wd 27 = wd 13 from rfl]
            simp only [RW.all H5.1, H5.2.2.2.1, MR, ckk_T, deR_s, deQ_s, deQ_n, bkV_s, bkI_s, bkJ_s, bkQ_s, bkQ_n, ckb0, ckb1, ckb2, ckb3, eq_self, Nat.reduceEqDiff, Nat.reduceLeDiff, Nat.reduceLT, reduceIte, true_or, or_true, not_false_eq_true, not_true_eq_false, and_self, and_true, true_and, LIT, Int32.reduceLT, Int32.reduceLE, Int32.reduceToNatClampNeg]
            cases stw tp t (blk tp t p2) (wd 13) with
            | true =>
              rw [if_neg (by decide), if_pos rfl]
              have wdh : WD (pf 90 M4 (blk tp t p2) 0) 30 (wd 27) := H5.2.1 27 (by decide)
              simp only [wdh.1, MR, ckk_T, deR_s, deQ_s, deQ_n, bkV_s, bkI_s, bkJ_s, bkQ_s, bkQ_n, ckb0, ckb1, ckb2, ckb3, eq_self, Nat.reduceEqDiff, Nat.reduceLeDiff, Nat.reduceLT, reduceIte, true_or, or_true, not_false_eq_true, not_true_eq_false, and_self, and_true, true_and, LIT, Int32.reduceLT, Int32.reduceLE, Int32.reduceToNatClampNeg]
              rw [p_strlen (by omega) wdh (by decide), bkI_s]
              simp only [RW.all H5.1, MR, ckk_T, deR_s, deQ_s, deQ_n, bkV_s, bkI_s, bkJ_s, bkQ_s, bkQ_n, ckb0, ckb1, ckb2, ckb3, eq_self, Nat.reduceEqDiff, Nat.reduceLeDiff, Nat.reduceLT, reduceIte, true_or, or_true, not_false_eq_true, not_true_eq_false, and_self, and_true, true_and, LIT, Int32.reduceLT, Int32.reduceLE, Int32.reduceToNatClampNeg]
              rw [ck_b2i, show (wd 27).length = 2 from rfl, nI_add, pf_s2]
            | false =>
              rw [if_pos (by rfl), if_neg Bool.false_ne_true, ck_b2i, show nI (blk tp t p2) + 0 = nI (blk tp t p2) from Int32.add_zero _, pf_s2]
          rw [tk, bkI_s]
          cases hi : stw tp t (blk tp t p2) (wd 13) with
          | false =>
            rw [if_pos (by rfl), if_neg Bool.false_ne_true, if_neg Bool.false_ne_true]
            refine plain _ _ sd sf _ (F24.trans (F5.mono (fun _ _ q => Or.inl q))) H5 (fun j h1 h2 => (pf_fr 90 M4 _ _).i (by unfold Ppf; omega)) rfl (by omega) b5 (fun A v6 v7 v8 v9 hA => ?_) ⟨by simp, by simp⟩
            rw [st0_6 A (hs0 rfl) v6 v7, hA]
            unfold xTrn
            simp only [v8, v9, decide_true, Bool.true_or]
          | true =>
            have w2 : blk tp t p2 + 2 ≤ t := stw_le b5 hi
            rw [if_neg (by decide), if_pos rfl, if_pos rfl, stw_len hi, show (wd 13).length = 2 from rfl]
            have H6 := H4.pf (blk tp t p2 + 2) 0
            have F6 := pf_Pt sl e M4 (blk tp t p2 + 2) 0
            have gi := fun j hj => (pf_fr 90 M4 (blk tp t p2 + 2) 0).i (o := 90) (k := j) hj
            have g97 : aI (pf 90 M4 (blk tp t p2 + 2) 0) 97 = aI M4 97 := rfl
            generalize pf 90 M4 (blk tp t p2 + 2) 0 = M6 at *
            obtain ⟨M7, e7, F7, G7⟩ := r_test hD H6 ((gi 4 (by unfold Ppf; omega)).trans g4) ((gi 5 (by unfold Ppf; omega)).trans g5) ((gi 6 (by unfold Ppf; omega)).trans g6) ((gi 7 (by unfold Ppf; omega)).trans g7) hsl (by omega) B2 w2
            rw [ckk_t H6.1.1, e7, bkV_s]
            cases hr : tst tp t (blk tp t p2 + 2) c with
            | inl g =>
              rw [hr] at G7
              exact cl_dead hsl hn F2 ((F24c.trans (Pt_cl F6)).trans (Pt_cl F7)) G7
            | inr y =>
              obtain ⟨p', w, c'⟩ := y
              rw [hr] at G7
              obtain ⟨e', X, b1', b2', b3', b4'⟩ := G7
              refine cl_fin h0 hs hsl hn hk7 hM2.symm ((F24.trans (F6.mono (fun _ _ q => Or.inl q))).trans (F7.mono (fun _ _ q => Or.inl q))) X.1 X.2.1.1 X.2.1.2.1 X.2.1.2.2.1 X.2.1.2.2.2.1 (by omega) ⟨by omega, b2', b3'⟩ (x := nI (num tp t (blk tp t p1)).2) (by rw [F7.a (by unfold Pt; omega), g97]; exact v97) (fun _ => X.2.2.2.1.one.1) (fun z => absurd z hT) (fun A v3 v4 v6 v7 v8 v9 hA => ?_) (fun _ => ⟨by simp, by simp⟩)
              have rq : RQ (A 93) (A 94) (200 * sl + e) (e' - e) [w] := by rw [v3, v4]; exact X.2.2.2.1
              have rw1 := rTs_at hn (by omega) v8 v9 (by omega) rq
              rw [st0_6 A (hs0 rfl) v6 v7, hA, rw1]
              have ne : ¬ A 98 (12 * sl + n) = A 99 (12 * sl + n) := by
                rw [v8, v9]
                exact fun y => by have := (nI_eq (by omega) (by omega)).mp y; omega
              unfold xTrn
              simp only [ne, decide_false, Bool.false_or]
        · rw [if_neg z6, if_neg (show ¬ nI k = 6 from nk 6 (by decide) z6)]
          refine plain M4 _ _ _ _ F24 H4 (fun _ _ _ => rfl) rfl (by omega) nl.1 (fun A v6 v7 v8 v9 hA => ?_) ⟨rfl, rfl⟩
          have : k = 3 ∨ k = 4 ∨ k = 5 := by omega
          rcases this with rfl | rfl | rfl
          · rw [st0_3 A (hs0 rfl) v6 v7, hA]
          · rw [st0_4 A (hs0 rfl) v6 v7, hA]
          · rw [st0_5 A (hs0 rfl) v6 v7, hA]
      · rw [if_neg zg]
        have d4 : RDd M4 t tp (nmF tp t (mostN k) p1 0) := ⟨zg, nb, _, by omega, H4⟩
        by_cases z6 : k = 6
        · rw [if_pos (show nI k = 6 from (ek 6 (by decide)).mpr z6), H3.2.2.2.2, if_neg (nI_ne0 (by omega) (by omega))]
          exact cl_dead hsl hn F2 F24c d4
        · rw [if_neg (show ¬ nI k = 6 from nk 6 (by decide) z6)]
          exact cl_dead hsl hn F2 F24c d4
