/-! the reference: clauses, a text -/
theorem r_clause {D : Nat} (hD : 10 ≤ D) {M : ej_Mem} {t : Nat} {tp : Nat → Nat} {so sl e p n c : Nat} {sd sf : Bool} {T : Txt} (h : RCs M t tp so sl e (p, n, c, sd, sf, T)) (hs : so < 2) (hsl : sl < 72) (hs0 : so = 0 → sl < 40) (hn : n ≤ 12) : ∃ M', cal D jm_Ref_clause [.ref 90, .int (nI so), .int (nI n)] M = some (none, M') ∧ ClG M M' t tp so sl (cls tp t so (p, n, c, sd, sf, T)) := by
  obtain ⟨d, rfl⟩ : ∃ d, D = d + 1 := ⟨D - 1, by omega⟩
  have H := h.1
  have H : RL M t tp p 0 := H
  have B3 : p ≤ t := h.2.2.2.2.1.2.2
  have t4 := H.2.2.1.1.1
  have b1 : p ≤ blk tp t p := bl_ge tp t 401 p
  have b2 : blk tp t p ≤ t := bl_le tp t 401 p B3
  have wl : wN so ≤ 7 := by unfold wN; split <;> decide
  rw [ca_Ref_clause, eq_Ref_clause_0]
  simp only [RW.all H.1, MR, ckk_T, deR_s, deQ_s, deQ_n, bkV_s, bkI_s, bkJ_s, bkQ_s, bkQ_n, ckb0, ckb1, ckb2, ckb3, eq_self, Nat.reduceEqDiff, Nat.reduceLeDiff, Nat.reduceLT, reduceIte, true_or, or_true, not_false_eq_true, not_true_eq_false, and_self, and_true, true_and, LIT, Int32.reduceLT, Int32.reduceLE, Int32.reduceToNatClampNeg]
  rw [r_blanks (by omega) H (by omega), bkV_s]
  have h1 := RCs_pf h b1 b2
  have F1 : Fr (Pcl sl) M (pf 90 M (blk tp t p) 0) := Pt_cl (pf_Pt sl 0 M (blk tp t p) 0)
  generalize pf 90 M (blk tp t p) 0 = M1 at *
  have H1 : RL M1 t tp (blk tp t p) 0 := h1.1
  simp only [RW.all H1.1, H1.2.2.2.1, MR, ckk_T, deR_s, deQ_s, deQ_n, bkV_s, bkI_s, bkJ_s, bkQ_s, bkQ_n, ckb0, ckb1, ckb2, ckb3, eq_self, Nat.reduceEqDiff, Nat.reduceLeDiff, Nat.reduceLT, reduceIte, true_or, or_true, not_false_eq_true, not_true_eq_false, and_self, and_true, true_and, LIT, Int32.reduceLT, Int32.reduceLE, Int32.reduceToNatClampNeg]
  have sel : (if nI so = 1 then rn jm_Ref_clause (cal d) 20 [some (.ref 90), some (.int (nI so)), some (.int (nI n)), some (.int (nI (blk tp t p))), none, none, none] [.int 2] M1 else rn jm_Ref_clause (cal d) 20 [some (.ref 90), some (.int (nI so)), some (.int (nI n)), some (.int (nI (blk tp t p))), none, none, none] [.int 7] M1) = rn jm_Ref_clause (cal d) 25 [some (.ref 90), some (.int (nI so)), some (.int (nI n)), some (.int (nI (blk tp t p))), some (.int (nI (wN so))), some (.int (nI 0)), none] [] M1 := by
    have : so = 0 ∨ so = 1 := by omega
    rcases this with rfl | rfl
    · rw [if_neg (by decide), eq_Ref_clause_20]; rfl
    · rw [if_pos (by decide), eq_Ref_clause_20]; rfl
  rw [sel, r_fw (by omega : 6 ≤ d) hs H1 b2 (wN so) 0 (by omega), eq_Ref_clause_51, cls_eq]
  have fl := fwd_le tp t (blk tp t p) (wB so) (wN so) 0
  show ∃ M', (if nI (wK tp t so (blk tp t p)) = nI (wN so) then _ else _) = _ ∧ _
  have ww := fwd_w tp t (blk tp t p) (wB so) (wN so) 0
  rw [show fwd tp t (blk tp t p) (wB so) (wN so) 0 = wK tp t so (blk tp t p) from rfl] at fl ww ⊢
  generalize wK tp t so (blk tp t p) = k at *
  have ek : ∀ y : Nat, y ≤ 12 → (nI k = nI y ↔ k = y) := fun y hy => nI_eq (by omega) (by omega)
  by_cases z1 : k = wN so
  · rw [if_pos (by rw [z1]), if_pos z1]
    simp only [RW.all H1.1, MR, ckk_T, deR_s, deQ_s, deQ_n, bkV_s, bkI_s, bkJ_s, bkQ_s, bkQ_n, ckb0, ckb1, ckb2, ckb3, eq_self, Nat.reduceEqDiff, Nat.reduceLeDiff, Nat.reduceLT, reduceIte, true_or, or_true, not_false_eq_true, not_true_eq_false, and_self, and_true, true_and, LIT, Int32.reduceLT, Int32.reduceLE, Int32.reduceToNatClampNeg]
    rw [r_fails (by omega) H1 (by decide) (x := 0) (c := 0) rfl, bkV_s]
    exact ⟨_, rfl, F1.trans (Pt_cl (pf_Pt sl 0 _ _ _)), flt_pos 0 _, by unfold flt; omega, _, by omega, H1.pf _ _⟩
  · rw [if_neg (fun z => z1 ((ek _ (by omega)).mp z)), if_neg z1]
    have hk : k < wN so := by omega
    have hw := ww (by omega)
    have f97 : ∃ M', rn jm_Ref_clause (cal d) 97 [some (.ref 90), some (.int (nI so)), some (.int (nI n)), some (.int (nI (blk tp t p))), some (.int (nI (wN so))), some (.int (nI k)), none] [] M1 = some (none, M') ∧ ClG M M' t tp so sl (.inl (flt 4 (blk tp t p))) := by
      rw [eq_Ref_clause_97]
      simp only [RW.all H1.1, MR, ckk_T, deR_s, deQ_s, deQ_n, bkV_s, bkI_s, bkJ_s, bkQ_s, bkQ_n, ckb0, ckb1, ckb2, ckb3, eq_self, Nat.reduceEqDiff, Nat.reduceLeDiff, Nat.reduceLT, reduceIte, true_or, or_true, not_false_eq_true, not_true_eq_false, and_self, and_true, true_and, LIT, Int32.reduceLT, Int32.reduceLE, Int32.reduceToNatClampNeg]
      rw [r_fails (by omega) H1 (by decide) (x := 4) (c := 4) rfl, bkV_s]
      exact ⟨_, rfl, F1.trans (Pt_cl (pf_Pt sl 0 _ _ _)), flt_pos 4 _, by show flt 4 _ < _; unfold flt; omega, _, by omega, H1.pf _ _⟩
    by_cases z12 : n = 12
    · rw [if_pos (show nI n = 12 by rw [z12]; rfl), if_pos (Or.inl z12)]
      exact f97
    · rw [if_neg (show ¬ nI n = 12 from fun z => z12 ((nI_eq (by omega) (by decide : 12 < 2 ^ 31)).mp z))]
      have f104 : ∃ M', rn jm_Ref_clause (cal d) 104 [some (.ref 90), some (.int (nI so)), some (.int (nI n)), some (.int (nI (blk tp t p))), some (.int (nI (wN so))), some (.int (nI k)), none] [] M1 = some (none, M') ∧ ClG M M' t tp so sl (clk tp t so n c sd sf T k (lwk tp t (blk tp t p))) := by
        obtain ⟨M', e', G⟩ := r_cltail (by omega : 9 ≤ d) h1 hs hsl hs0 (by omega) hk hw (l3 := nI (blk tp t p)) (l4 := nI (wN so)) (o6 := none)
        exact ⟨M', e', F1.trans G.1, G.2⟩
      have was : ∀ (y : Nat), (k = y) → (y = 3 ∨ y = 4) → so = 0 → (∃ r : Bool, cal d jm_Ref_wasTold [.ref 90, .int (nI n), .int (nI k)] M1 = some (some (.int (b2i r)), M1) ∧ (r = true ↔ tld (aI M1) sl n (nI y))) := by
        intro y hy _ _
        obtain ⟨d', rfl⟩ : ∃ d', d = d' + 1 := ⟨d - 1, by omega⟩
        obtain ⟨r, e, q⟩ := r_was (cal d') H1.1 h1.2.1.1 hsl hn (nI k) n 0 false (by omega)
        refine ⟨r, ?_, q.trans ⟨fun z => ?_, fun z => ?_⟩⟩
        · rw [ca_Ref_wasTold, eq_Ref_wasTold_0]; exact e
        · rcases z with z | ⟨j, _, j2, j3⟩
          · cases z
          · exact ⟨j, j2, by rw [← hy]; exact j3⟩
        · obtain ⟨j, j2, j3⟩ := z
          exact Or.inr ⟨j, Nat.zero_le _, j2, by rw [hy]; exact j3⟩
      by_cases z0 : so = 0
      · rw [if_pos (show nI so = 0 by rw [z0]; rfl)]
        obtain ⟨d1, d2⟩ := h1.2.2.2.2.2 z0
        have d1 : sd = true ↔ tld (aI M1) sl n 3 := d1
        have d2 : sf = true ↔ tld (aI M1) sl n 4 := d2
        by_cases z3 : k = 3
        · rw [if_pos (show nI k = 3 from (ek 3 (by decide)).mpr z3), eq_Ref_clause_87, ckk_t H1.1.1]
          obtain ⟨r, e, q⟩ := was 3 z3 (Or.inl rfl) z0
          rw [e, bkI_s]
          cases r with
          | true =>
            rw [if_neg (by decide), if_pos (Or.inr ⟨z0, Or.inl ⟨z3, d1.mpr (q.mp rfl)⟩⟩)]
            exact f97
          | false =>
            rw [if_pos (by rfl), if_neg]
            · exact f104
            · rintro (y | ⟨_, ⟨_, y⟩ | ⟨y, _⟩⟩)
              · exact z12 y
              · exact Bool.false_ne_true (q.mpr (d1.mp y))
              · omega
        · rw [if_neg (show ¬ nI k = 3 from fun z => z3 ((ek 3 (by decide)).mp z))]
          by_cases z4 : k = 4
          · rw [if_pos (show nI k = 4 from (ek 4 (by decide)).mpr z4), eq_Ref_clause_87, ckk_t H1.1.1]
            obtain ⟨r, e, q⟩ := was 4 z4 (Or.inr rfl) z0
            rw [e, bkI_s]
            cases r with
            | true =>
              rw [if_neg (by decide), if_pos (Or.inr ⟨z0, Or.inr ⟨z4, d2.mpr (q.mp rfl)⟩⟩)]
              exact f97
            | false =>
              rw [if_pos (by rfl), if_neg]
              · exact f104
              · rintro (y | ⟨_, ⟨y, _⟩ | ⟨_, y⟩⟩)
                · exact z12 y
                · omega
                · exact Bool.false_ne_true (q.mpr (d2.mp y))
          · rw [if_neg (show ¬ nI k = 4 from fun z => z4 ((ek 4 (by decide)).mp z)), if_neg]
            · exact f104
            · rintro (y | ⟨_, ⟨y, _⟩ | ⟨y, _⟩⟩)
              · exact z12 y
              · exact z3 y
              · exact z4 y
      · rw [if_neg (show ¬ nI so = 0 from fun z => z0 ((nI_eq (by omega) (by decide : 0 < 2 ^ 31)).mp z)), if_neg]
        · exact f104
        · rintro (y | ⟨y, _⟩)
          · exact z12 y
          · exact z0 y
def RDe (M : ej_Mem) (t : Nat) (tp : Nat → Nat) (g : Nat) : Prop := g ≠ 0 ∧ g < 2 ^ 30 ∧ ∃ p, p ≤ t + 2 ∧ RL M t tp p g
/-- all clauses -/
def ClsG (M M' : ej_Mem) (t : Nat) (tp : Nat → Nat) (so sl : Nat) (x : Int32) (r : Nat ⊕ (Nat × Nat × Txt)) : Prop := Fr (Pcl sl) M M' ∧ match r with
  | .inl g => RDe M' t tp g
  | .inr (n, c, T) => x = nI n ∧ n ≤ 12 ∧ 1 ≤ n ∧ mI M' 90 3 = 0 ∧ mI M' 90 4 = nI sl ∧ ∃ e, e ≤ 200 ∧ RCo (aI M') so sl n e ∧ rTxn (aI M') so sl n = T
theorem cls_n {tp : Nat → Nat} {t so p n c : Nat} {sd sf : Bool} {T : Txt} {st' : ClS} (h : cls tp t so (p, n, c, sd, sf, T) = .inr st') : n ≠ 12 ∧ st'.2.1 = n + 1 := by
  rw [cls_eq] at h
  split at h
  · cases h
  · split at h
    · cases h
    · rename_i z
      refine ⟨fun y => z (Or.inl y), ?_⟩
      unfold clk at h
      split at h
      · split at h
        · cases h
        · cases h; rfl
      · split at h
        · split at h
          · cases h; rfl
          · cases h
        · split at h
          · split at h
            · split at h
              · split at h
                · cases h
                · cases h; rfl
              · cases h; rfl
            · cases h; rfl
          · cases h
theorem r_clsloop {D : Nat} (hD : 10 ≤ D) {t : Nat} {tp : Nat → Nat} {so sl : Nat} (hs : so < 2) (hsl : sl < 72) (hs0 : so = 0 → sl < 40) : ∀ (m : Nat) (M : ej_Mem) (e p n c : Nat) (sd sf : Bool) (T : Txt), 13 ≤ n + m → n ≤ 12 → RCs M t tp so sl e (p, n, c, sd, sf, T) → ∃ M' x, rn jm_Ref_clausesOf (cal D) 4 [some (.ref 90), some (.int (nI so)), some (.int (nI n)), some (.int 1)] [] M = some (some (.int x), M') ∧ ClsG M M' t tp so sl x (clrun tp t so m (p, n, c, sd, sf, T))
  | 0, M, e, p, n, c, sd, sf, T, hm, hn, h => by omega
  | m + 1, M, e, p, n, c, sd, sf, T, hm, hn, h => by
    have W : RW M := h.1.1
    rw [eq_Ref_clausesOf_4, if_neg (by decide), ckk_t W.1]
    obtain ⟨M1, e1, F1, G1⟩ := r_clause hD h hs hsl hs0 hn
    rw [e1, bkV_s]
    unfold clrun
    have endL : ∀ (M2 : ej_Mem) (y : Int32), y = nI n + 1 → rn jm_Ref_clausesOf (cal D) 4 [some (.ref 90), some (.int (nI so)), some (.int y), some (.int 0)] [] M2 = some (some (.int (nI (n + 1))), M2) := fun M2 y hy => by rw [eq_Ref_clausesOf_4, if_pos rfl, hy, nI_1]
    cases hc : cls tp t so (p, n, c, sd, sf, T) with
    | inl g =>
      rw [hc] at G1
      obtain ⟨g0, gb, p1, hp1, H1⟩ := G1
      have t4 := H1.2.2.1.1.1
      rw [ckk_t H1.1.1, r_blanks (by omega) H1 (by omega), bkV_s]
      have H2 := H1.pf (blk tp t p1) g
      have F2 : Fr (Pcl sl) M1 (pf 90 M1 (blk tp t p1) g) := Pt_cl (pf_Pt sl 0 _ _ _)
      have gn : ¬ nI g = 0 := nI_ne0 (by omega) (by omega)
      have b2 : blk tp t p1 ≤ t + 1 := by
        by_cases z : p1 ≤ t
        · have := bl_le tp t 401 p1 z; unfold blk; omega
        · have := bl_gt tp t 401 p1 (by omega); unfold blk; omega
      generalize pf 90 M1 (blk tp t p1) g = M2 at *
      simp only [RW.all H2.1, H2.2.2.2.2, H2.2.2.2.1, nI_1, MR, ckk_T, deR_s, deQ_s, deQ_n, bkV_s, bkI_s, bkJ_s, bkQ_s, bkQ_n, ckb0, ckb1, ckb2, ckb3, eq_self, Nat.reduceEqDiff, Nat.reduceLeDiff, Nat.reduceLT, reduceIte, true_or, or_true, not_false_eq_true, not_true_eq_false, and_self, and_true, true_and, LIT, Int32.reduceLT, Int32.reduceLE, Int32.reduceToNatClampNeg]
      rw [if_neg gn, if_neg gn, endL _ _ (nI_1 n).symm, pf_q H2.2.2.2.2]
      exact ⟨_, _, rfl, (F1.trans F2).trans (Pt_cl (pf_Pt sl 0 _ _ _)), g0, gb, blk tp t p1 + 1, by omega, H2.pf _ _⟩
    | inr st' =>
      obtain ⟨nn, n1⟩ := cls_n hc
      rw [hc] at G1
      obtain ⟨e', G1⟩ := G1
      obtain ⟨p', n', c', sd', sf', T'⟩ := st'
      have n1 : n' = n + 1 := n1
      subst n1
      have H1 : RL M1 t tp p' 0 := G1.1
      have t4 := H1.2.2.1.1.1
      have hp' : p' ≤ t := G1.2.2.2.2.1.2.2
      have b1 : p' ≤ blk tp t p' := bl_ge tp t 401 p'
      have b2 : blk tp t p' ≤ t := bl_le tp t 401 p' hp'
      rw [ckk_t H1.1.1, r_blanks (by omega) H1 (by omega), bkV_s]
      have G2 := RCs_pf G1 b1 b2
      have F2 : Fr (Pcl sl) M1 (pf 90 M1 (blk tp t p') 0) := Pt_cl (pf_Pt sl 0 _ _ _)
      generalize pf 90 M1 (blk tp t p') 0 = M2 at *
      have H2 : RL M2 t tp (blk tp t p') 0 := G2.1
      have ef : mI M2 90 3 = 0 := H2.2.2.2.2
      have tr := H2.2.2.1.2.2.1
      simp only [RW.all H2.1, ef, tr, H2.2.2.2.1, nI_1, MR, ckk_T, deR_s, deQ_s, deQ_n, bkV_s, bkI_s, bkJ_s, bkQ_s, bkQ_n, ckb0, ckb1, ckb2, ckb3, eq_self, Nat.reduceEqDiff, Nat.reduceLeDiff, Nat.reduceLT, reduceIte, true_or, or_true, not_false_eq_true, not_true_eq_false, and_self, and_true, true_and, LIT, Int32.reduceLT, Int32.reduceLE, Int32.reduceToNatClampNeg]
      by_cases z : blk tp t p' < t
      · rw [if_neg (nI_ge z (by omega)), r_sign (by omega) H2 (by omega), bkI_s, if_pos z]
        by_cases y : sg tp t (blk tp t p') = 59
        · rw [if_pos (show sI (sg tp t (blk tp t p')) = 59 by rw [y]; rfl), if_pos y]
          simp only [RW.all H2.1, ef, tr, H2.2.2.2.1, nI_1, MR, ckk_T, deR_s, deQ_s, deQ_n, bkV_s, bkI_s, bkJ_s, bkQ_s, bkQ_n, ckb0, ckb1, ckb2, ckb3, eq_self, Nat.reduceEqDiff, Nat.reduceLeDiff, Nat.reduceLT, reduceIte, true_or, or_true, not_false_eq_true, not_true_eq_false, and_self, and_true, true_and, LIT, Int32.reduceLT, Int32.reduceLE, Int32.reduceToNatClampNeg]
          rw [if_neg (nI_ge z (by omega)), pf_q H2.2.2.2.2]
          have G3 := RCs_pf G2 (Nat.le_succ _) (show blk tp t p' + 1 ≤ t by omega)
          obtain ⟨M', x, e3, T3⟩ := r_clsloop hD hs hsl hs0 m _ e' (blk tp t p' + 1) (n + 1) c' sd' sf' T' (by omega) (by omega) G3
          exact ⟨M', x, e3, ((F1.trans F2).trans (Pt_cl (pf_Pt sl 0 _ _ _))).trans T3.1, T3.2⟩
        · rw [if_neg (show ¬ sI (sg tp t (blk tp t p')) = 59 from fun u => y ((sI_eq (sg_le H2.2.2.1.1 _) (by decide : 59 < 256)).mp u)), if_neg y]
          simp only [RW.all H2.1, H2.2.2.2.1, MR, ckk_T, deR_s, deQ_s, deQ_n, bkV_s, bkI_s, bkJ_s, bkQ_s, bkQ_n, ckb0, ckb1, ckb2, ckb3, eq_self, Nat.reduceEqDiff, Nat.reduceLeDiff, Nat.reduceLT, reduceIte, true_or, or_true, not_false_eq_true, not_true_eq_false, and_self, and_true, true_and, LIT, Int32.reduceLT, Int32.reduceLE, Int32.reduceToNatClampNeg]
          rw [r_fails (by omega) H2 (by decide) (x := 0) (c := 0) rfl, bkV_s]
          have fb : orF 0 (flt 0 (blk tp t p')) < 2 ^ 30 := orF_b (by decide) (by omega) (by decide)
          have fz : orF 0 (flt 0 (blk tp t p')) ≠ 0 := flt_pos 0 _
          have H3 := H2.pf (blk tp t p') (orF 0 (flt 0 (blk tp t p')))
          have F3 : Fr (Pcl sl) M2 (pf 90 M2 (blk tp t p') (orF 0 (flt 0 (blk tp t p')))) := Pt_cl (pf_Pt sl 0 _ _ _)
          generalize pf 90 M2 (blk tp t p') (orF 0 (flt 0 (blk tp t p'))) = M3 at *
          simp only [RW.all H3.1, H3.2.2.2.2, H3.2.2.2.1, nI_1, MR, ckk_T, deR_s, deQ_s, deQ_n, bkV_s, bkI_s, bkJ_s, bkQ_s, bkQ_n, ckb0, ckb1, ckb2, ckb3, eq_self, Nat.reduceEqDiff, Nat.reduceLeDiff, Nat.reduceLT, reduceIte, true_or, or_true, not_false_eq_true, not_true_eq_false, and_self, and_true, true_and, LIT, Int32.reduceLT, Int32.reduceLE, Int32.reduceToNatClampNeg]
          rw [if_neg (nI_ne0 (by omega) (by omega)), endL _ _ (nI_1 n).symm, pf_q H3.2.2.2.2]
          exact ⟨_, _, rfl, ((F1.trans F2).trans F3).trans (Pt_cl (pf_Pt sl 0 _ _ _)), fz, fb, _, by omega, H3.pf _ _⟩
      · rw [if_pos (nI_le (by omega) (by omega)), if_pos (nI_le (by omega) (by omega)), if_neg z, endL _ _ (nI_1 n).symm, pf_q H2.2.2.2.2]
        have G3 := G2.2.2.2.1
        refine ⟨_, _, rfl, (F1.trans F2).trans (Pt_cl (pf_Pt sl 0 _ _ _)), rfl, by omega, by omega, rfl, ?_, e', ?_, G2.2.2.1, G3⟩
        · rw [(pf_fr 90 M2 _ _).i (by unfold Ppf; omega)]; exact G2.2.1.1
        · have := G2.2.2.2.2.1
          have q1 : 3 * e' ≤ blk tp t p' + 3 * c' := this.1
          have q2 : c' ≤ 60 := this.2.1
          omega
