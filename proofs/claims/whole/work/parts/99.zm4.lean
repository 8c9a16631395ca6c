/-! the class: its loop of clauses -/
theorem CCs_pf {M : ej_Mem} {t : Nat} {tp : Nat → Nat} {so wr J p n c : Nat} {sd sf : Bool} {T : Txt} (h : CCs M t tp so wr J (p, n, c, sd, sf, T)) {q : Nat} (hq : q ≤ t) : CCs (pf 61 M q 0) t tp so wr J (q, n, c, sd, sf, T) := by
  obtain ⟨H, ⟨h6, h8, hse⟩, ⟨B2, B3, BJ⟩, hC, ⟨w1, w2, w3, w4, w5, w6, w7⟩, hE, hTn⟩ := h
  have F := pf_fr 61 M q 0
  have g : ∀ o j, ¬ (o = 61 ∧ (j = 2 ∨ j = 3)) → mI (pf 61 M q 0) o j = mI M o j := fun o j z => F.i (by unfold Ppf; omega)
  exact ⟨CLk.pf H q 0, ⟨by rw [g _ _ (by omega)]; exact h6, by rw [g _ _ (by omega)]; exact h8, by rw [g _ _ (by omega)]; exact hse⟩, ⟨B2, hq, BJ⟩, hC, ⟨w1, w2, by rw [g _ _ (by omega)]; exact w3, by rw [g _ _ (by omega)]; exact w4, by rw [g _ _ (by omega)]; exact w5, by rw [g _ _ (by omega)]; exact w6, by rw [g _ _ (by omega)]; exact w7⟩, by rw [g _ _ (by omega)]; exact hE, hTn⟩
/-- a word and its clause -/
theorem c_clause {D : Nat} (hD : 9 ≤ D) {M : ej_Mem} {t : Nat} {tp : Nat → Nat} {so wr J p n c : Nat} {sd sf : Bool} {T : Txt} (h : CCs M t tp so wr J (p, n, c, sd, sf, T)) (hs : so < 2) (hn : n ≤ 12) (ok : COK (p, n, c, sd, sf, T)) : ∃ M1 x M', cal D jm_Clerk_clauseWord [.ref 61, .int (nI so), .int (nI n)] M = some (some (.int x), M1) ∧ mC M1 = mC M ∧ cal D jm_Clerk_readClause [.ref 61, .ref wr, .int x] M1 = some (none, M') ∧ ClC M M' t tp so wr (cls tp t so (p, n, c, sd, sf, T)) := by
  obtain ⟨M1, x, e1, F1, G1⟩ := c_word (by omega : 8 ≤ D) h hs hn
  have wl : wK tp t so (blk tp t p) ≤ wN so := by have := (fwd_le tp t (blk tp t p) (wB so) (wN so) 0).2; unfold wK; omega
  rw [cls_eq]
  have nop : ∀ g, CDd M1 t tp g → cal D jm_Clerk_readClause [.ref 61, .ref wr, .int 0] M1 = some (none, M1) := by
    intro g hg
    obtain ⟨d, rfl⟩ : ∃ d, D = d + 1 := ⟨D - 1, by omega⟩
    rw [ca_Clerk_readClause, eq_Clerk_readClause_0, if_neg (by decide), if_neg (by decide), if_neg (by decide), if_neg (by decide), if_neg (by decide), if_neg (by decide), if_neg (by decide), if_neg (by decide), if_neg (by decide)]
  by_cases z : wK tp t so (blk tp t p) = wN so
  · rw [if_pos z] at G1
    obtain ⟨rfl, G1⟩ := G1
    exact ⟨M1, 0, M1, e1, F1.c, nop _ G1, by rw [if_pos z]; exact ⟨F1, G1⟩⟩
  · rw [if_neg z] at G1
    by_cases y : n = 12 ∨ (so = 0 ∧ ((wK tp t so (blk tp t p) = 3 ∧ sd = true) ∨ (wK tp t so (blk tp t p) = 4 ∧ sf = true)))
    · rw [if_pos y] at G1
      obtain ⟨rfl, G1⟩ := G1
      exact ⟨M1, 0, M1, e1, F1.c, nop _ G1, by rw [if_neg z, if_pos y]; exact ⟨F1, G1⟩⟩
    · rw [if_neg y] at G1
      obtain ⟨rfl, G1⟩ := G1
      obtain ⟨M', e2, F2, G2⟩ := c_clrest hD G1 (by omega) hs (by omega) (fun s0 k3 => ok.2.1 (by
        cases hh : sd with
        | false => rfl
        | true => exact absurd (Or.inr ⟨s0, Or.inl ⟨k3, hh⟩⟩) y)) (fun s0 k4 => ok.2.2 (by
        cases hh : sf with
        | false => rfl
        | true => exact absurd (Or.inr ⟨s0, Or.inr ⟨k4, hh⟩⟩) y))
      exact ⟨M1, _, M', e1, F1.c, e2, by rw [if_neg z, if_neg y]; exact ⟨F1.trans F2, G2⟩⟩
/-- how the loop ends -/
def ClE (M : ej_Mem) (t : Nat) (tp : Nat → Nat) (so wr : Nat) (r : Nat ⊕ (Nat × Nat × Txt)) : Prop := match r with
  | .inl g => CDd M t tp g ∨ ∃ p, p ≤ t ∧ CLk M t tp p 0 ∧ blk tp t p < t ∧ g = flt 0 (blk tp t p)
  | .inr (n, c, T) => ∃ J p sd sf, CCs M t tp so wr J (p, n, c, sd, sf, T) ∧ ¬ blk tp t p < t ∧ n ≤ 12
theorem c_clsloop {D : Nat} (hD : 9 ≤ D) {t : Nat} {tp : Nat → Nat} {so wr : Nat} (hs : so < 2) {l1 : Int32} : ∀ (m : Nat) (M : ej_Mem) (J p n c : Nat) (sd sf : Bool) (T : Txt), 13 ≤ n + m → n ≤ 12 → COK (p, n, c, sd, sf, T) → CCs M t tp so wr J (p, n, c, sd, sf, T) → ∃ M' o4 o5, rn jm_Clerk_read (cal D) 75 [some (.ref 61), some (.int l1), some (.int (nI so)), some (.ref wr), some (.int 1), some (.int (nI n))] [] M = rn jm_Clerk_read (cal D) 161 [some (.ref 61), some (.int l1), some (.int (nI so)), some (.ref wr), o4, o5] [] M' ∧ Fr (Pcc wr) M M' ∧ ClE M' t tp so wr (clrun tp t so m (p, n, c, sd, sf, T))
  | 0, M, J, p, n, c, sd, sf, T, hm, hn, ok, h => by omega
  | m + 1, M, J, p, n, c, sd, sf, T, hm, hn, ok, h => by
    have W : SW M := h.1.1
    rw [eq_Clerk_read_75, if_neg (show ¬ (12 : Int32) < nI n from nI_nlt hn (by decide)), if_neg (by decide), ckk_t (SW.all W).2.2.1]
    obtain ⟨M1, x, M2, e1, k1, e2, F2, G2⟩ := c_clause hD h hs hn ok
    rw [e1, bkI_s, ckk_t (show mC M1 61 = 0 by rw [k1]; exact (SW.all W).2.2.1), e2, bkV_s]
    unfold clrun
    have endL : ∀ (M3 : ej_Mem), rn jm_Clerk_read (cal D) 141 [some (.ref 61), some (.int l1), some (.int (nI so)), some (.ref wr), some (.int 0), some (.int (nI n))] [] M3 = rn jm_Clerk_read (cal D) 161 [some (.ref 61), some (.int l1), some (.int (nI so)), some (.ref wr), some (.int 0), some (.int (nI n + 1))] [] M3 := fun M3 => by
      rw [eq_Clerk_read_141, eq_Clerk_read_75]
      split
      · rfl
      · rw [if_pos rfl]
    have p0 : ∀ x : Int32, x + 0 = x := fun x => Int32.add_zero x
    cases hc : cls tp t so (p, n, c, sd, sf, T) with
    | inl g =>
      rw [hc] at G2
      obtain ⟨g0, gb, p1, hp1, H2⟩ := G2
      have gn : ¬ nI g = 0 := nI_ne0 (by omega) (by omega)
      simp only [SW.all H2.1, H2.2.2.2.2, H2.2.2.2.1, MR, ckk_T, deR_s, deQ_s, deQ_n, bkV_s, bkI_s, bkJ_s, bkQ_s, bkQ_n, ckb0, ckb1, ckb2, ckb3, eq_self, Nat.reduceEqDiff, Nat.reduceLeDiff, Nat.reduceLT, reduceIte, true_or, or_true, not_false_eq_true, not_true_eq_false, and_self, and_true, true_and, LIT, Int32.reduceLT, Int32.reduceLE, Int32.reduceToNatClampNeg]
      rw [if_neg gn, endL, p0, pf_q H2.2.2.2.2]
      exact ⟨_, _, _, rfl, F2.trans (pf_cc wr _ _ _), Or.inl ⟨g0, gb, p1, hp1, H2.pf _ _⟩⟩
    | inr st' =>
      obtain ⟨nn, n1⟩ := cls_n hc
      have ok' := COK_cls hs ok hc
      rw [hc] at G2
      obtain ⟨J', G2⟩ := G2
      obtain ⟨p', n', c', sd', sf', T'⟩ := st'
      have n1 : n' = n + 1 := n1
      subst n1
      have H2 : CLk M2 t tp p' 0 := G2.1
      have t4 := H2.2.2.1.1.1
      have hp' : p' ≤ t := G2.2.2.1.2.1
      have b2 : blk tp t p' ≤ t := bl_le tp t 401 p' hp'
      have ef : mI M2 61 3 = 0 := H2.2.2.2.2
      simp only [SW.all H2.1, ef, MR, ckk_T, deR_s, deQ_s, deQ_n, bkV_s, bkI_s, bkJ_s, bkQ_s, bkQ_n, ckb0, ckb1, ckb2, ckb3, eq_self, Nat.reduceEqDiff, Nat.reduceLeDiff, Nat.reduceLT, reduceIte, true_or, or_true, not_false_eq_true, not_true_eq_false, and_self, and_true, true_and, LIT, Int32.reduceLT, Int32.reduceLE, Int32.reduceToNatClampNeg]
      rw [c_look (by omega) H2 (by omega), bkI_s]
      have G3 := CCs_pf G2 b2
      have F3 : Fr (Pcc wr) M2 (pf 61 M2 (blk tp t p') 0) := pf_cc wr _ _ _
      generalize pf 61 M2 (blk tp t p') 0 = M3 at *
      have H3 : CLk M3 t tp (blk tp t p') 0 := G3.1
      have bb : blk tp t (blk tp t p') = blk tp t p' := blk_blk t4
      by_cases z : blk tp t p' < t
      · simp only [if_pos z]
        by_cases y : sg tp t (blk tp t p') = 59
        · rw [if_pos (show sI (sg tp t (blk tp t p')) = 59 by rw [y]; rfl), if_pos y]
          simp only [SW.all H3.1, H3.2.2.2.1, MR, ckk_T, deR_s, deQ_s, deQ_n, bkV_s, bkI_s, bkJ_s, bkQ_s, bkQ_n, ckb0, ckb1, ckb2, ckb3, eq_self, Nat.reduceEqDiff, Nat.reduceLeDiff, Nat.reduceLT, reduceIte, true_or, or_true, not_false_eq_true, not_true_eq_false, and_self, and_true, true_and, LIT, Int32.reduceLT, Int32.reduceLE, Int32.reduceToNatClampNeg]
          rw [eq_Clerk_read_141, nI_1, nI_1, pf_q H3.2.2.2.2]
          have G4 := CCs_pf G3 (show blk tp t p' + 1 ≤ t by omega)
          obtain ⟨M', o4, o5, e3, F4, T3⟩ := c_clsloop hD hs (l1 := l1) m _ J' (blk tp t p' + 1) (n + 1) c' sd' sf' T' (by omega) (by omega) ok' G4
          exact ⟨M', o4, o5, e3, ((F2.trans F3).trans (pf_cc wr _ _ _)).trans F4, T3⟩
        · rw [if_neg (show ¬ sI (sg tp t (blk tp t p')) = 59 from fun u => y ((sI_eq (sg_le H3.2.2.1.1 _) (by decide : 59 < 256)).mp u)), if_neg y]
          simp only [SW.all H3.1, H3.2.2.2.1, MR, ckk_T, deR_s, deQ_s, deQ_n, bkV_s, bkI_s, bkJ_s, bkQ_s, bkQ_n, ckb0, ckb1, ckb2, ckb3, eq_self, Nat.reduceEqDiff, Nat.reduceLeDiff, Nat.reduceLT, reduceIte, true_or, or_true, not_false_eq_true, not_true_eq_false, and_self, and_true, true_and, LIT, Int32.reduceLT, Int32.reduceLE, Int32.reduceToNatClampNeg]
          rw [endL, p0, pf_q H3.2.2.2.2]
          exact ⟨_, _, _, rfl, (F2.trans F3).trans (pf_cc wr _ _ _), Or.inr ⟨blk tp t p', b2, H3.pf _ _, by rw [bb]; exact z, by rw [bb]⟩⟩
      · have s2 : sg tp t (blk tp t p') = 256 := by unfold sg; rw [if_neg z]
        simp only [if_neg z]
        rw [if_neg (show ¬ sI (sg tp t (blk tp t p')) = 59 by rw [s2]; decide)]
        simp only [SW.all H3.1, H3.2.2.2.1, MR, ckk_T, deR_s, deQ_s, deQ_n, bkV_s, bkI_s, bkJ_s, bkQ_s, bkQ_n, ckb0, ckb1, ckb2, ckb3, eq_self, Nat.reduceEqDiff, Nat.reduceLeDiff, Nat.reduceLT, reduceIte, true_or, or_true, not_false_eq_true, not_true_eq_false, and_self, and_true, true_and, LIT, Int32.reduceLT, Int32.reduceLE, Int32.reduceToNatClampNeg]
        rw [endL, p0, pf_q H3.2.2.2.2]
        exact ⟨_, _, _, rfl, (F2.trans F3).trans (pf_cc wr _ _ _), J', blk tp t p', sd', sf', CCs_pf G3 b2, by rw [bb]; exact z, by omega⟩
