/-! the reference's searches of their own, gone on -/
theorem b_try_get {nx : Nat → Int32 → Option Int32} {cap : Nat} {w : Int32 → Bool} {j : Nat} {s : Int32} {m : Nat} {b : BS} {i : Nat} (hi : i < b.1.length) : (b_try nx cap w j s m b).1.getD i 0 = b.1.getD i 0 := by
  unfold b_try
  by_cases h1 : b.2.2.2 = 1
  · rw [if_pos h1]
    cases nx m s with
    | none => rfl
    | some t =>
      show (if t ∈ b.1 then b else b_meet cap w t (j, m) b).1.getD i 0 = _
      by_cases ht : t ∈ b.1
      · rw [if_pos ht]
      · rw [if_neg ht]
        unfold b_meet
        by_cases hc : b.1.length = cap
        · rw [if_pos hc]
        · rw [if_neg hc]
          show (b.1 ++ [t]).getD i 0 = _
          rw [getD_app, if_pos hi]
  · rw [if_neg h1]
theorem reach_step {D : Nat} (hD : 6 ≤ D) {gi : Nat} {wo : Option Nat} {y : Int32} {i m mk : Nat} {b : BS} {o6 : Option Value} {M : ej_Mem} (hX : RX M gi wo) (H : RS M b) (hK : MK M mk) (hk : BOKp 500 b) (hs : b.2.2.2 = 1)
    (hi : i < b.1.length) (hm : m < rN (aI M) 0) :
    ∃ M' o6', rn jm_Ref_reaches (cal D) 85 [some (.ref 90), some (.int (nI gi)), some (.int (wIn wo)), some (.int y), some (.int (nI i)), some (.int (nI m)), o6] [] M =
      (if (b_try (nxR M gi y) 500 (wsR M wo) i (b.1.getD i 0) m b).2.2.2 = 1 then rn jm_Ref_reaches (cal D) 85 [some (.ref 90), some (.int (nI gi)), some (.int (wIn wo)), some (.int y), some (.int (nI i)), some (.int (nI (m + 1))), o6'] [] M'
        else some (some (.int (nI (b_try (nxR M gi y) 500 (wsR M wo) i (b.1.getD i 0) m b).2.2.2)), M')) ∧ Fr Prc M M' ∧ RS M' (b_try (nxR M gi y) 500 (wsR M wo) i (b.1.getD i 0) m b) ∧ MK M' mk := by
  have H0 := H
  obtain ⟨h1, h2, h3, h4, h5⟩ := H
  have hW := hX.1
  obtain ⟨t1, t2, t3⟩ := hX.2.1 0 (by decide)
  obtain ⟨u1, u2, u3⟩ := hX.2.1 1 (by decide)
  obtain ⟨v1, v2, v3⟩ := hX.2.1 3 (by decide)
  have m0 : mst 0 = 40 := rfl
  have m1 : mst 1 = 8 := rfl
  have m3 : mst 3 = 8 := rfl
  have hgi := hX.2.2.1
  have hsl : slOK (aI M) m := by have := t3 m hm; rw [show pl 0 + m = m by simp [pl]] at this; exact this
  have hl500 := hk.2.1
  have hi5 : i < 500 := by omega
  rw [eq_Ref_reaches_85]
  simp only [RW.all hW, MR, ckk_T, deR_s, deQ_s, deQ_n, bkV_s, bkI_s, bkJ_s, bkQ_s, bkQ_n, ckb0, ckb1, ckb2, ckb3, eq_self, Nat.reduceEqDiff, Nat.reduceLeDiff, Nat.reduceLT, reduceIte, true_or, or_true, not_false_eq_true, not_true_eq_false, and_self, and_true, true_and, LIT, Int32.reduceLT, Int32.reduceLE, Int32.reduceToNatClampNeg, ckb_n hi5 (show 500 < 2 ^ 31 by decide), nI_clamp (show i < 2 ^ 31 by omega), nI_1]
  rw [t1, if_neg (nI_ge hm (by omega)), h2 i hi]
  generalize hs0 : b.1.getD i 0 = s at *
  obtain ⟨g1, e1⟩ := (p_isTold (by omega : 5 ≤ D) hW (by omega) hsl s).self
  rw [e1]
  have none_case : ∀ (g : Nat → Int32) (o : Option Value), nxR M gi y m s = none → ∃ M' o6', rn jm_Ref_reaches (cal D) 85 [some (.ref 90), some (.int (nI gi)), some (.int (wIn wo)), some (.int y), some (.int (nI i)), some (.int (nI (m + 1))), o] [] (setF M 104 g) =
      (if (b_try (nxR M gi y) 500 (wsR M wo) i s m b).2.2.2 = 1 then rn jm_Ref_reaches (cal D) 85 [some (.ref 90), some (.int (nI gi)), some (.int (wIn wo)), some (.int y), some (.int (nI i)), some (.int (nI (m + 1))), o6'] [] M'
        else some (some (.int (nI (b_try (nxR M gi y) 500 (wsR M wo) i s m b).2.2.2)), M')) ∧ Fr Prc M M' ∧ RS M' (b_try (nxR M gi y) 500 (wsR M wo) i s m b) ∧ MK M' mk := by
    intro g o e
    have hb : b_try (nxR M gi y) 500 (wsR M wo) i s m b = b := by unfold b_try; rw [if_pos hs, e]
    rw [hb]
    exact ⟨setF M 104 g, o, (if_pos hs).symm, (fr104 M g).mono P104_rc, H0.f104 g, hK.fr (fr104 M g) (fun k => by unfold P104; omega) (by unfold P104; omega)⟩
  cases ht : tol M m s
  · simp only [RW.all hW, MR, ckk_T, deR_s, deQ_s, deQ_n, bkV_s, bkI_s, bkJ_s, bkQ_s, bkQ_n, ckb0, ckb1, ckb2, ckb3, eq_self, Nat.reduceEqDiff, Nat.reduceLeDiff, Nat.reduceLT, reduceIte, true_or, or_true, not_false_eq_true, not_true_eq_false, and_self, and_true, true_and, LIT, Int32.reduceLT, Int32.reduceLE, Int32.reduceToNatClampNeg, b2i_f]
    refine none_case g1 o6 ?_
    unfold nxR
    rw [if_neg (fun q => by rw [ht] at q; cases q.2.1)]
  · simp only [RW.all hW, MR, ckk_T, deR_s, deQ_s, deQ_n, bkV_s, bkI_s, bkJ_s, bkQ_s, bkQ_n, ckb0, ckb1, ckb2, ckb3, eq_self, Nat.reduceEqDiff, Nat.reduceLeDiff, Nat.reduceLT, reduceIte, true_or, or_true, not_false_eq_true, not_true_eq_false, and_self, and_true, true_and, LIT, Int32.reduceLT, Int32.reduceLE, Int32.reduceToNatClampNeg, b2i_t, ckb_n hi5 (show 500 < 2 ^ 31 by decide), nI_clamp (show i < 2 ^ 31 by omega)]
    rw [h2 i hi, hs0]
    obtain ⟨g2, e2⟩ := p_mayBe (by omega : 5 ≤ D) hW (by omega) hsl (show gi < 8 by omega) (by have := u3 gi hgi; rw [show pl 1 + gi = 40 + gi from rfl] at this; exact this) v1 (by omega) (fun k hk2 => by have := v3 k hk2; rw [show pl 3 + k = 64 + k from rfl] at this; exact this) y s g1
    rw [e2]
    cases hmy : rMay (aI M) (mI M 90 9) (rN (aI M) 3) gi y m s
    · simp only [RW.all hW, MR, ckk_T, deR_s, deQ_s, deQ_n, bkV_s, bkI_s, bkJ_s, bkQ_s, bkQ_n, ckb0, ckb1, ckb2, ckb3, eq_self, Nat.reduceEqDiff, Nat.reduceLeDiff, Nat.reduceLT, reduceIte, true_or, or_true, not_false_eq_true, not_true_eq_false, and_self, and_true, true_and, LIT, Int32.reduceLT, Int32.reduceLE, Int32.reduceToNatClampNeg, b2i_f]
      refine none_case g2 o6 ?_
      unfold nxR
      rw [if_neg (fun q => by rw [hmy] at q; cases q.2.2)]
    · simp only [RW.all hW, MR, ckk_T, deR_s, deQ_s, deQ_n, bkV_s, bkI_s, bkJ_s, bkQ_s, bkQ_n, ckb0, ckb1, ckb2, ckb3, eq_self, Nat.reduceEqDiff, Nat.reduceLeDiff, Nat.reduceLT, reduceIte, true_or, or_true, not_false_eq_true, not_true_eq_false, and_self, and_true, true_and, LIT, Int32.reduceLT, Int32.reduceLE, Int32.reduceToNatClampNeg, b2i_t, ckb_n hi5 (show 500 < 2 ^ 31 by decide), nI_clamp (show i < 2 ^ 31 by omega)]
      rw [h2 i hi, hs0, p_behind (by omega) hW (by omega) hsl s g2]
      simp only [RW.all hW, MR, ckk_T, deR_s, deQ_s, deQ_n, bkV_s, bkI_s, bkJ_s, bkQ_s, bkQ_n, ckb0, ckb1, ckb2, ckb3, eq_self, Nat.reduceEqDiff, Nat.reduceLeDiff, Nat.reduceLT, reduceIte, true_or, or_true, not_false_eq_true, not_true_eq_false, and_self, and_true, true_and, LIT, Int32.reduceLT, Int32.reduceLE, Int32.reduceToNatClampNeg]
      have S2 := H0.f104 g2
      have W2 : RW (setF M 104 g2) := hW
      rw [p_isMet (by omega) W2 S2.2.2.2.2]
      have hn : nxR M gi y m s = some (rBeh (aI M) m s) := by
        unfold nxR
        rw [if_pos ⟨hm, ht, hmy⟩]
      by_cases hin : rBeh (aI M) m s ∈ b.1
      · rw [decide_eq_true hin]
        simp only [RW.all hW, MR, ckk_T, deR_s, deQ_s, deQ_n, bkV_s, bkI_s, bkJ_s, bkQ_s, bkQ_n, ckb0, ckb1, ckb2, ckb3, eq_self, Nat.reduceEqDiff, Nat.reduceLeDiff, Nat.reduceLT, reduceIte, true_or, or_true, not_false_eq_true, not_true_eq_false, and_self, and_true, true_and, LIT, Int32.reduceLT, Int32.reduceLE, Int32.reduceToNatClampNeg, b2i_t]
        have hb : b_try (nxR M gi y) 500 (wsR M wo) i s m b = b := by
          unfold b_try
          rw [if_pos hs, hn]
          show (if rBeh (aI M) m s ∈ b.1 then b else _) = b
          rw [if_pos hin]
        rw [hb]
        exact ⟨setF M 104 g2, some (.int (rBeh (aI M) m s)), (if_pos hs).symm, (fr104 M g2).mono P104_rc, S2, hK.fr (fr104 M g2) (fun k => by unfold P104; omega) (by unfold P104; omega)⟩
      · rw [decide_eq_false hin]
        simp only [RW.all hW, MR, ckk_T, deR_s, deQ_s, deQ_n, bkV_s, bkI_s, bkJ_s, bkQ_s, bkQ_n, ckb0, ckb1, ckb2, ckb3, eq_self, Nat.reduceEqDiff, Nat.reduceLeDiff, Nat.reduceLT, reduceIte, true_or, or_true, not_false_eq_true, not_true_eq_false, and_self, and_true, true_and, LIT, Int32.reduceLT, Int32.reduceLE, Int32.reduceToNatClampNeg, b2i_f]
        have hb : b_try (nxR M gi y) 500 (wsR M wo) i s m b = b_meet 500 (wsR M wo) (rBeh (aI M) m s) (i, m) b := by
          unfold b_try
          rw [if_pos hs, hn]
          show (if rBeh (aI M) m s ∈ b.1 then b else _) = _
          rw [if_neg hin]
        rw [hb, h1]
        by_cases hc : b.1.length = 500
        · rw [if_pos (by rw [hc]; rfl)]
          unfold b_meet
          rw [if_pos hc]
          exact ⟨_, o6, rfl, (fr104 M g2).mono P104_rc, S2, hK.fr (fr104 M g2) (fun k => by unfold P104; omega) (by unfold P104; omega)⟩
        · have hc2 : ¬ nI b.1.length = 500 := fun q => hc ((nI_eq (by omega) (by decide : 500 < 2 ^ 31)).mp q)
          rw [if_neg hc2, b_meet_st hc]
          have X2 := hX.fr ((fr104 M g2).mono P104_rc)
          have hws : wsR (setF M 104 g2) wo = wsR M wo := wsR_fr ((fr104 M g2).mono P104_rc) wo
          obtain ⟨M', e', f', r', k'⟩ := reach_meet (D := D) hD (y := y) (i := i) (m := m) (s := s) (o6 := some (.int (rBeh (aI M) m s))) X2 S2 (hK.fr (fr104 M g2) (fun k => by unfold P104; omega) (by unfold P104; omega)) hk hi (by omega) hin (by omega) rfl
          rw [hws] at e' r'
          refine ⟨M', some (.int (rBeh (aI M) m s)), e'.trans ?_, ((fr104 M g2).mono P104_rc).trans f', r', k'⟩
          show (if wsR M wo (rBeh (aI M) m s) = true then _ else _) = (if (if wsR M wo (rBeh (aI M) m s) = true then 2 else 1) = 1 then _ else some (some (Value.int (nI (if wsR M wo (rBeh (aI M) m s) = true then 2 else 1))), M'))
          cases wsR M wo (rBeh (aI M) m s)
          · rfl
          · rfl
theorem reach_moves {D : Nat} (hD : 6 ≤ D) {gi : Nat} {wo : Option Nat} {y : Int32} {i mk : Nat} {s : Int32} : ∀ (n m : Nat) (M : ej_Mem) (b : BS) (o6 : Option Value), m + n = rN (aI M) 0 → RX M gi wo → RS M b → MK M mk → BOKp 500 b → b.2.2.2 = 1 → i < b.1.length → b.1.getD i 0 = s →
    ∃ M' o5 o6', rn jm_Ref_reaches (cal D) 85 [some (.ref 90), some (.int (nI gi)), some (.int (wIn wo)), some (.int y), some (.int (nI i)), some (.int (nI m)), o6] [] M =
      (if (b_mvs (nxR M gi y) 500 (wsR M wo) i s n m b).2.2.2 = 1 then rn jm_Ref_reaches (cal D) 73 [some (.ref 90), some (.int (nI gi)), some (.int (wIn wo)), some (.int y), some (.int (nI (i + 1))), o5, o6'] [] M'
        else some (some (.int (nI (b_mvs (nxR M gi y) 500 (wsR M wo) i s n m b).2.2.2)), M')) ∧ Fr Prc M M' ∧ RS M' (b_mvs (nxR M gi y) 500 (wsR M wo) i s n m b) ∧ MK M' mk
  | 0, m, M, b, o6, hm, hX, H, hK, hk, hs, hi, he => by
    obtain ⟨t1, t2, t3⟩ := hX.2.1 0 (by decide)
    have m0 : mst 0 = 40 := rfl
    refine ⟨M, some (.int (nI m)), o6, ?_, Fr.refl _ M, H, hK⟩
    rw [eq_Ref_reaches_85]
    simp only [RW.all hX.1, MR, ckk_T, deR_s, deQ_s, deQ_n, bkV_s, bkI_s, bkJ_s, bkQ_s, bkQ_n, ckb0, ckb1, ckb2, ckb3, eq_self, Nat.reduceEqDiff, Nat.reduceLeDiff, Nat.reduceLT, reduceIte, true_or, or_true, not_false_eq_true, not_true_eq_false, and_self, and_true, true_and, LIT, Int32.reduceLT, Int32.reduceLE, Int32.reduceToNatClampNeg]
    rw [t1, if_pos (nI_le (by omega) (by omega)), nI_1]
    show _ = (if b.2.2.2 = 1 then _ else _)
    rw [if_pos hs]
  | n + 1, m, M, b, o6, hm, hX, H, hK, hk, hs, hi, he => by
    have m0 : mst 0 = 40 := rfl
    have t2 := (hX.2.1 0 (by decide)).2.1
    obtain ⟨M1, o1, e1, f1, r1, k1⟩ := reach_step hD (y := y) (o6 := o6) hX H hK hk hs hi (by omega : m < rN (aI M) 0)
    rw [he] at e1 r1
    obtain ⟨a1, a2, a3⟩ := b_try_ok (nx := nxR M gi y) (w := wsR M wo) (s := s) (m := m) hk hi (by omega)
    have hmv : b_mvs (nxR M gi y) 500 (wsR M wo) i s (n + 1) m b = b_mvs (nxR M gi y) 500 (wsR M wo) i s n (m + 1) (b_try (nxR M gi y) 500 (wsR M wo) i s m b) := rfl
    rw [hmv]
    by_cases hs2 : (b_try (nxR M gi y) 500 (wsR M wo) i s m b).2.2.2 = 1
    · rw [if_pos hs2] at e1
      have hg : (b_try (nxR M gi y) 500 (wsR M wo) i s m b).1.getD i 0 = s := by rw [b_try_get hi]; exact he
      obtain ⟨M2, o5, o6', e2, f2, r2, k2⟩ := reach_moves hD (y := y) (i := i) (s := s) n (m + 1) M1 _ o1 (by rw [rN_ag (AgA.rc f1)]; omega) (hX.fr f1) r1 k1 a1 hs2 (by omega) hg
      rw [nxR_fr f1, wsR_fr f1] at e2 r2
      exact ⟨M2, o5, o6', e1.trans e2, f1.trans f2, r2, k2⟩
    · rw [if_neg hs2] at e1
      rw [b_mvs_stop n (m + 1) _ hs2]
      exact ⟨M1, none, none, e1.trans (if_neg hs2).symm, f1, r1, k1⟩
theorem reach_loop {D : Nat} (hD : 6 ≤ D) {gi : Nat} {wo : Option Nat} {y : Int32} {mk : Nat} : ∀ (n k : Nat) (M : ej_Mem) (b : BS) (o5 o6 : Option Value), k + n = 500 → RX M gi wo → RS M b → MK M mk → BOK 500 b → b.2.2.1 = k → (b.2.2.2 = 1 ∨ (b.2.2.2 = 3 ∧ b.2.2.1 = b.1.length)) →
    ∃ M', rn jm_Ref_reaches (cal D) 73 [some (.ref 90), some (.int (nI gi)), some (.int (wIn wo)), some (.int y), some (.int (nI k)), o5, o6] [] M = some (some (.int (nI (b_run (rN (aI M) 0) (nxR M gi y) 500 (wsR M wo) n b).2.2.2)), M') ∧
      Fr Prc M M' ∧ RS M' (b_run (rN (aI M) 0) (nxR M gi y) 500 (wsR M wo) n b) ∧ MK M' mk
  | n, k, M, b, o5, o6, hk, hX, H, hK, hB, hg, hs => by
    have t2 := (hX.2.1 0 (by decide)).2.1
    have m0 : mst 0 = 40 := rfl
    have hl := hB.2.1
    rw [eq_Ref_reaches_73]
    simp only [RW.all hX.1, MR, ckk_T, deR_s, deQ_s, deQ_n, bkV_s, bkI_s, bkJ_s, bkQ_s, bkQ_n, ckb0, ckb1, ckb2, ckb3, eq_self, Nat.reduceEqDiff, Nat.reduceLeDiff, Nat.reduceLT, reduceIte, true_or, or_true, not_false_eq_true, not_true_eq_false, and_self, and_true, true_and, LIT, Int32.reduceLT, Int32.reduceLE, Int32.reduceToNatClampNeg]
    rw [H.1]
    rcases hs with hs | ⟨hs, hs2⟩
    · have hlt := hB.2.2.2.2.2.2.1 hs
      obtain ⟨n, rfl⟩ : ∃ n', n = n' + 1 := ⟨n - 1, by omega⟩
      rw [if_neg (nI_ge (by omega) (by omega))]
      obtain ⟨k0, k1, k2, k3, k4, k5, k6, k7, k8⟩ := hB
      have hp : BOKp 500 (b.1, b.2.1, b.2.2.1 + 1, b.2.2.2) := ⟨k0, k1, k2, hlt, k4, k5, k7, k8⟩
      have H1 : RS M (b.1, b.2.1, b.2.2.1 + 1, b.2.2.2) := H
      obtain ⟨M1, o5', o6', e1, f1, r1, mk1⟩ := reach_moves hD (y := y) (i := k) (s := b.1.getD k 0) (rN (aI M) 0) 0 M _ o6 (by omega) hX H1 hK hp hs (by show k < b.1.length; omega) rfl
      have B1 := (b_pass_ok (nx := nxR M gi y) (w := wsR M wo) (by omega : rN (aI M) 0 ≤ 40) ⟨k0, k1, k2, k3, k4, k5, k6, k7, k8⟩ hs)
      have hrun : b_run (rN (aI M) 0) (nxR M gi y) 500 (wsR M wo) (n + 1) b = b_run (rN (aI M) 0) (nxR M gi y) 500 (wsR M wo) n (b_pass (rN (aI M) 0) (nxR M gi y) 500 (wsR M wo) b) := by
        show (if b.2.2.2 = 1 then _ else _) = _
        rw [if_pos hs]
      rw [hrun]
      have hpass : b_pass (rN (aI M) 0) (nxR M gi y) 500 (wsR M wo) b = b_fin (b_mvs (nxR M gi y) 500 (wsR M wo) k (b.1.getD k 0) (rN (aI M) 0) 0 (b.1, b.2.1, b.2.2.1 + 1, b.2.2.2)) := by
        unfold b_pass; rw [hg]
      have hgn := (b_mvs_ok (nx := nxR M gi y) (w := wsR M wo) (i := k) (s := b.1.getD k 0) (rN (aI M) 0) 0 _ hp (by show k < b.1.length; omega) (by omega)).2.2
      rw [hpass] at B1 ⊢
      generalize b_mvs (nxR M gi y) 500 (wsR M wo) k (b.1.getD k 0) (rN (aI M) 0) 0 (b.1, b.2.1, b.2.2.1 + 1, b.2.2.2) = c at *
      have hgn2 : c.2.2.1 = k + 1 := by rw [hgn]; show b.2.2.1 + 1 = k + 1; omega
      by_cases hc : c.2.2.2 = 1
      · rw [if_pos hc] at e1
        have hfin : RS M1 (b_fin c) ∧ ((b_fin c).2.2.2 = 1 ∨ ((b_fin c).2.2.2 = 3 ∧ (b_fin c).2.2.1 = (b_fin c).1.length)) ∧ (b_fin c).2.2.1 = k + 1 := by
          unfold b_fin
          by_cases q : c.2.2.1 = c.1.length
          · rw [if_pos ⟨hc, q⟩]
            exact ⟨r1, Or.inr ⟨rfl, q⟩, hgn2⟩
          · rw [if_neg (fun z => q z.2)]
            exact ⟨r1, Or.inl hc, hgn2⟩
        obtain ⟨M2, e2, f2, r2, mk2⟩ := reach_loop hD n (k + 1) M1 (b_fin c) o5' o6' (by omega) (hX.fr f1) hfin.1 mk1 B1.1 hfin.2.2 hfin.2.1
        rw [nxR_fr f1, wsR_fr f1, rN_ag (AgA.rc f1)] at e2 r2
        exact ⟨M2, e1.trans e2, f1.trans f2, r2, mk2⟩
      · rw [if_neg hc] at e1
        have hfin : b_fin c = c := by unfold b_fin; rw [if_neg (fun z => hc z.1)]
        rw [hfin]
        have : b_run (rN (aI M) 0) (nxR M gi y) 500 (wsR M wo) n c = c := by
          cases n with
          | zero => rfl
          | succ n => show (if c.2.2.2 = 1 then _ else c) = c; rw [if_neg hc]
        rw [this]
        exact ⟨M1, e1, f1, r1, mk1⟩
    · have : b_run (rN (aI M) 0) (nxR M gi y) 500 (wsR M wo) n b = b := by
        cases n with
        | zero => rfl
        | succ n => show (if b.2.2.2 = 1 then _ else b) = b; rw [if_neg (by omega)]
      rw [this, if_pos (nI_le (by omega) (by omega)), hs]
      exact ⟨M, rfl, Fr.refl _ M, H, hK⟩
theorem p_reaches {D : Nat} (hD : 7 ≤ D) {gi : Nat} {wo : Option Nat} (y : Int32) {mk : Nat} {M : ej_Mem} (hX : RX M gi wo) (hK : MK M mk) (hmk : mk < 2 ^ 30) :
    ∃ M', cal D jm_Ref_reaches [.ref 90, .int (nI gi), .int (wIn wo), .int y] M = some (some (.int (nI (b_all (rN (aI M) 0) (nxR M gi y) 500 (wsR M wo) (rU (aI M) (40 + gi) 0)).2.2.2)), M') ∧
      Fr Prc M M' ∧ RS M' (b_all (rN (aI M) 0) (nxR M gi y) 500 (wsR M wo) (rU (aI M) (40 + gi) 0)) ∧ MK M' (mk + 1) := by
  obtain ⟨d, rfl⟩ : ∃ d, D = d + 1 := ⟨D - 1, by omega⟩
  have hW := hX.1
  obtain ⟨u1, u2, u3⟩ := hX.2.1 1 (by decide)
  have m1 : mst 1 = 8 := rfl
  have hgi := hX.2.2.1
  have hog : slOK (aI M) (40 + gi) := by have := u3 gi hgi; rw [show pl 1 + gi = 40 + gi from rfl] at this; exact this
  rw [ca_Ref_reaches, eq_Ref_reaches_0]
  simp only [RW.all hW, MR, ckk_T, deR_s, deQ_s, deQ_n, bkV_s, bkI_s, bkJ_s, bkQ_s, bkQ_n, ckb0, ckb1, ckb2, ckb3, eq_self, Nat.reduceEqDiff, Nat.reduceLeDiff, Nat.reduceLT, reduceIte, true_or, or_true, not_false_eq_true, not_true_eq_false, and_self, and_true, true_and, LIT, Int32.reduceLT, Int32.reduceLE, Int32.reduceToNatClampNeg]
  rw [hK.1, nI_1, eq_Ref_reaches_10]
  obtain ⟨T1, K1⟩ := RT_new hK hmk
  generalize hM1 : setI M 90 27 (nI (mk + 1)) = M1 at *
  have f1 : Fr Prc M M1 := by rw [← hM1]; exact Fr.setI M _ (by unfold Prc; omega)
  have W1 := f1.rw hW
  have X1 := hX.fr f1
  have ho1 := slOK_ag (AgA.rc f1) _ hog
  have E := p_firstOf (by omega : 2 ≤ d) W1 (show gi < 8 by omega) ho1 (aI M1 104)
  rw [setF_self, rU_ag (AgA.rc f1)] at E
  simp only [RW.all W1, MR, ckk_T, deR_s, deQ_s, deQ_n, bkV_s, bkI_s, bkJ_s, bkQ_s, bkQ_n, ckb0, ckb1, ckb2, ckb3, eq_self, Nat.reduceEqDiff, Nat.reduceLeDiff, Nat.reduceLT, reduceIte, true_or, or_true, not_false_eq_true, not_true_eq_false, and_self, and_true, true_and, LIT, Int32.reduceLT, Int32.reduceLE, Int32.reduceToNatClampNeg]
  rw [E]
  generalize rU (aI M) (40 + gi) 0 = s at *
  simp only [RW.all W1, MR, ckk_T, deR_s, deQ_s, deQ_n, bkV_s, bkI_s, bkJ_s, bkQ_s, bkQ_n, ckb0, ckb1, ckb2, ckb3, eq_self, Nat.reduceEqDiff, Nat.reduceLeDiff, Nat.reduceLT, reduceIte, true_or, or_true, not_false_eq_true, not_true_eq_false, and_self, and_true, true_and, LIT, Int32.reduceLT, Int32.reduceLE, Int32.reduceToNatClampNeg]
  rw [eq_Ref_reaches_21]
  simp only [RW.all W1, MR, ckk_T, deR_s, deQ_s, deQ_n, bkV_s, bkI_s, bkJ_s, bkQ_s, bkQ_n, ckb0, ckb1, ckb2, ckb3, eq_self, Nat.reduceEqDiff, Nat.reduceLeDiff, Nat.reduceLT, reduceIte, true_or, or_true, not_false_eq_true, not_true_eq_false, and_self, and_true, true_and, LIT, Int32.reduceLT, Int32.reduceLE, Int32.reduceToNatClampNeg]
  rw [eq_Ref_reaches_28]
  simp only [RW.all W1, MR, ckk_T, deR_s, deQ_s, deQ_n, bkV_s, bkI_s, bkJ_s, bkQ_s, bkQ_n, ckb0, ckb1, ckb2, ckb3, eq_self, Nat.reduceEqDiff, Nat.reduceLeDiff, Nat.reduceLT, reduceIte, true_or, or_true, not_false_eq_true, not_true_eq_false, and_self, and_true, true_and, LIT, Int32.reduceLT, Int32.reduceLE, Int32.reduceToNatClampNeg]
  rw [eq_Ref_reaches_33]
  generalize hM2 : setI (setA (setA M1 111 0 s) 112 0 0) 90 44 1 = M2
  have f2 : Fr (fun o k => o = 111 ∨ o = 112 ∨ (o = 90 ∧ k = 44)) M1 M2 := by
    rw [← hM2]
    exact ((Fr.setA M1 _ (by omega)).trans (Fr.setA _ _ (by omega))).trans (Fr.setI _ _ (by omega))
  have g2 : Fr Prc M1 M2 := f2.mono (fun o k => by unfold Prc; omega)
  have W2 := f2.rw W1
  have a111 : aI M2 111 0 = s := by
    rw [← hM2]
    show aI (setA (setA M1 111 0 s) 112 0 0) 111 0 = s
    rw [gA_o (by decide), gA_s]
  simp only [RW.all W2, MR, ckk_T, deR_s, deQ_s, deQ_n, bkV_s, bkI_s, bkJ_s, bkQ_s, bkQ_n, ckb0, ckb1, ckb2, ckb3, eq_self, Nat.reduceEqDiff, Nat.reduceLeDiff, Nat.reduceLT, reduceIte, true_or, or_true, not_false_eq_true, not_true_eq_false, and_self, and_true, true_and, LIT, Int32.reduceLT, Int32.reduceLE, Int32.reduceToNatClampNeg]
  rw [a111]
  obtain ⟨M3, e3, f3, r3, k3⟩ := p_marks (by omega : 2 ≤ d) W2 (T1.fr f2 (fun k => ⟨by omega, by omega, by omega⟩) (by omega)) (K1.fr f2 (fun k => by omega) (by omega)) (s := s) (by simp) (by decide)
  have e3' : cal d jm_Ref_marks [.ref 90, .int s, .int 0] M2 = some (none, M3) := e3
  rw [e3']
  have W3 := f3.rw W2
  simp only [RW.all W3, MR, ckk_T, deR_s, deQ_s, deQ_n, bkV_s, bkI_s, bkJ_s, bkQ_s, bkQ_n, ckb0, ckb1, ckb2, ckb3, eq_self, Nat.reduceEqDiff, Nat.reduceLeDiff, Nat.reduceLT, reduceIte, true_or, or_true, not_false_eq_true, not_true_eq_false, and_self, and_true, true_and, LIT, Int32.reduceLT, Int32.reduceLE, Int32.reduceToNatClampNeg]
  generalize hM4 : setI M3 90 43 0 = M4
  have f4 : Fr (fun o k => o = 90 ∧ k = 43) M3 M4 := by rw [← hM4]; exact Fr.setI M3 _ (by omega)
  have g4 : Fr Prc M M4 := ((f1.trans g2).trans (f3.mono Pm_rc)).trans (f4.mono (fun o k => by unfold Prc; omega))
  have W4 := g4.rw hW
  have X4 := hX.fr g4
  have S4 : ∀ st, RS M4 ([s], [(0, 0)], 0, st) := by
    intro st
    refine ⟨?_, ?_, ?_, ?_, ?_⟩
    · rw [f4.i (by omega), f3.i (by unfold Pm; omega), ← hM2, gI_s]; rfl
    · intro k hk
      have : k = 0 := by simpa using hk
      subst this
      rw [f4.a (by omega), f3.a (by unfold Pm; omega), a111]; rfl
    · intro k hk
      have : k = 0 := by simpa using hk
      subst this
      rw [f4.a (by omega), f3.a (by unfold Pm; omega), ← hM2]
      show aI (setA (setA M1 111 0 s) 112 0 0) 112 0 = _
      rw [gA_s]; rfl
    · rw [← hM4, gI_s]; rfl
    · exact r3.fr f4 (fun k => ⟨by omega, by omega, by omega⟩) (by omega)
  have K4 : MK M4 (mk + 1) := k3.fr f4 (fun k => by omega) (by omega)
  have a4 : aI M4 111 0 = s := (S4 1).2.1 0 (by simp)
  have nws : wsR M4 wo = wsR M wo := wsR_fr g4 wo
  rw [eq_Ref_reaches_49]
  have cont : ∀ (M5 : ej_Mem) (f5 : Fr Prc M M5) (S5 : RS M5 ([s], [(0, 0)], 0, 1)) (K5 : MK M5 (mk + 1)), wsR M wo s = false → ∃ M', rn jm_Ref_reaches (cal d) 73 [some (.ref 90), some (.int (nI gi)), some (.int (wIn wo)), some (.int y), some (.int 0), none, none] [] M5 = some (some (.int (nI (b_all (rN (aI M) 0) (nxR M gi y) 500 (wsR M wo) s).2.2.2)), M') ∧
      Fr Prc M M' ∧ RS M' (b_all (rN (aI M) 0) (nxR M gi y) 500 (wsR M wo) s) ∧ MK M' (mk + 1) := by
    intro M5 f5 S5 K5 hw
    have hb : b_new (wsR M wo) s = ([s], [(0, 0)], 0, 1) := by unfold b_new; rw [hw]; rfl
    have hB := b_new_ok (by decide : 0 < 500) (wsR M wo) s
    rw [hb] at hB
    obtain ⟨M6, e6, f6, r6, k6⟩ := reach_loop (by omega : 6 ≤ d) (y := y) 500 0 M5 ([s], [(0, 0)], 0, 1) none none (by omega) (hX.fr f5) S5 K5 hB rfl (Or.inl rfl)
    rw [nxR_fr f5, wsR_fr f5, rN_ag (AgA.rc f5)] at e6 r6
    unfold b_all
    rw [hb]
    exact ⟨M6, e6, f5.trans f6, r6, k6⟩
  cases wo with
  | none =>
    show ∃ M', (if (-1 : Int32) = -1 then _ else _) = _ ∧ _
    rw [if_pos rfl]
    exact cont M4 g4 (S4 1) K4 rfl
  | some wi =>
    have hwi := hX.2.2.2 wi rfl
    have hw16 : wi < 16 := by have := (hX.2.1 2 (by decide)).2.1; have : mst 2 = 16 := rfl; omega
    have hsl : slOK (aI M4) (48 + wi) := (X4.2.1 2 (by decide)).2.2 wi (by rw [rN_ag (AgA.rc g4)]; exact hwi)
    obtain ⟨g', e'⟩ := (p_isWished (by omega : 4 ≤ d) W4 hw16 hsl s).self
    have hne : ¬ nI wi = (-1 : Int32) := by
      intro q
      have := nI_pos' (n := wi) (by omega)
      rw [q] at this
      exact absurd this (by decide)
    have hws : rTs (aI M4) (12 * (48 + wi)) s = wsR M (some wi) s := by
      show _ = rTs (aI M) _ s
      rw [rTs_ag (AgA.rc g4)]
    show ∃ M', (if nI wi = (-1 : Int32) then _ else _) = _ ∧ _
    rw [if_neg hne]
    simp only [RW.all W4, MR, ckk_T, deR_s, deQ_s, deQ_n, bkV_s, bkI_s, bkJ_s, bkQ_s, bkQ_n, ckb0, ckb1, ckb2, ckb3, eq_self, Nat.reduceEqDiff, Nat.reduceLeDiff, Nat.reduceLT, reduceIte, true_or, or_true, not_false_eq_true, not_true_eq_false, and_self, and_true, true_and, LIT, Int32.reduceLT, Int32.reduceLE, Int32.reduceToNatClampNeg]
    have e'' : cal d jm_Ref_isWished [.ref 90, .int (wIn (some wi)), .int s] M4 = some (some (.int (b2i (rTs (aI M4) (12 * (48 + wi)) s))), setF M4 104 g') := e'
    rw [a4, e'', hws]
    simp only [bkI_s]
    have f5 : Fr Prc M (setF M4 104 g') := g4.trans ((fr104 M4 g').mono P104_rc)
    have K5 := K4.fr (fr104 M4 g') (fun k => by unfold P104; omega) (by unfold P104; omega)
    cases hw : wsR M (some wi) s
    · rw [if_pos b2i_f]
      exact cont _ f5 ((S4 1).f104 g') K5 hw
    · rw [if_neg (by decide)]
      have hb : b_all (rN (aI M) 0) (nxR M gi y) 500 (wsR M (some wi)) s = ([s], [(0, 0)], 0, 2) := by
        unfold b_all
        have : b_new (wsR M (some wi)) s = ([s], [(0, 0)], 0, 2) := by unfold b_new; rw [hw]; rfl
        rw [this]; rfl
      rw [hb]
      exact ⟨_, rfl, f5, (S4 2).f104 g', K5⟩
