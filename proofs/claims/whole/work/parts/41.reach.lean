/-! the reference's searches of their own -/
def Prc (o k : Nat) : Prop := o = 104 ∨ o = 105 ∨ o = 106 ∨ o = 107 ∨ o = 111 ∨ o = 112 ∨ (o = 90 ∧ (k = 27 ∨ k = 43 ∨ k = 44))
def P104 (o k : Nat) : Prop := o = 104
theorem fr104 (M : ej_Mem) (g : Nat → Int32) : Fr P104 M (setF M 104 g) := Fr.setF M g (fun _ => rfl)
theorem P104_rc (o k : Nat) : P104 o k → Prc o k := fun h => Or.inl h
theorem Pm_rc (o k : Nat) : Pm o k → Prc o k := by unfold Pm Prc; omega
theorem AgA.p104 (M : ej_Mem) (g : Nat → Int32) : AgA (aI M) (aI (setF M 104 g)) := AgA.of (fr104 M g) (fun o h k q => by unfold P104 at q; omega)
theorem AgA.rc {M M' : ej_Mem} (f : Fr Prc M M') : AgA (aI M) (aI M') := AgA.of f (fun o h k q => by unfold Prc at q; omega)
theorem RT.fr {P : Nat → Nat → Prop} {M M' : ej_Mem} (f : Fr P M M') (h : ∀ k, ¬ P 105 k ∧ ¬ P 106 k ∧ ¬ P 107 k) (h2 : ¬ P 90 27) {xs : List Int32} (H : RT M xs) : RT M' xs := by
  have e5 := f.af (o := 105) (fun k => (h k).1)
  have e6 := f.af (o := 106) (fun k => (h k).2.1)
  have e7 := f.af (o := 107) (fun k => (h k).2.2)
  have er : rsl M' = rsl M := by funext q; unfold rsl; rw [e6, e7, f.i h2]
  unfold RT
  rw [er, e5, e6, e7, f.i h2]
  exact H
theorem MK.fr {P : Nat → Nat → Prop} {M M' : ej_Mem} (f : Fr P M M') (h : ∀ k, ¬ P 106 k) (h2 : ¬ P 90 27) {mk : Nat} (H : MK M mk) : MK M' mk := by
  unfold MK
  rw [f.af h, f.i h2]
  exact H
def RX (M : ej_Mem) (gi : Nat) (wo : Option Nat) : Prop := RW M ∧ TXA (aI M) ∧ gi < rN (aI M) 1 ∧ ∀ i, wo = some i → i < rN (aI M) 2
def nxR (M : ej_Mem) (gi : Nat) (y : Int32) (m : Nat) (s : Int32) : Option Int32 := if m < rN (aI M) 0 ∧ tol M m s = true ∧ rMay (aI M) (mI M 90 9) (rN (aI M) 3) gi y m s = true then some (rBeh (aI M) m s) else none
def wsR (M : ej_Mem) (wo : Option Nat) (s : Int32) : Bool := match wo with
  | none => false
  | some i => rTs (aI M) (12 * (48 + i)) s
def wIn (wo : Option Nat) : Int32 := match wo with
  | none => -1
  | some i => nI i
theorem tol_fr {M M' : ej_Mem} (f : Fr Prc M M') : tol M' = tol M := by
  funext m s
  unfold tol
  rw [f.i (show ¬ Prc 90 41 by unfold Prc; omega), f.i (show ¬ Prc 90 40 by unfold Prc; omega), f.i (show ¬ Prc 90 42 by unfold Prc; omega), rU_ag (AgA.rc f), rTurn_ag (AgA.rc f)]
theorem nxR_fr {M M' : ej_Mem} (f : Fr Prc M M') (gi : Nat) (y : Int32) : nxR M' gi y = nxR M gi y := by
  funext m s
  unfold nxR
  rw [tol_fr f, rN_ag (AgA.rc f), rMay_ag (AgA.rc f), rBeh_ag (AgA.rc f), f.i (show ¬ Prc 90 9 by unfold Prc; omega)]
theorem wsR_fr {M M' : ej_Mem} (f : Fr Prc M M') (wo : Option Nat) : wsR M' wo = wsR M wo := by
  funext s
  cases wo with
  | none => rfl
  | some i => show rTs (aI M') _ s = rTs (aI M) _ s; rw [rTs_ag (AgA.rc f)]
theorem RX.fr {M M' : ej_Mem} (f : Fr Prc M M') {gi : Nat} {wo : Option Nat} (h : RX M gi wo) : RX M' gi wo := by
  obtain ⟨a, b, c, d⟩ := h
  refine ⟨f.rw a, TXA_ag (AgA.rc f) b, ?_, ?_⟩
  · rw [rN_ag (AgA.rc f)]; exact c
  · rw [rN_ag (AgA.rc f)]; exact d
def RS (M : ej_Mem) (b : BS) : Prop := mI M 90 44 = nI b.1.length ∧ (∀ k, k < b.1.length → aI M 111 k = b.1.getD k 0) ∧ (∀ k, k < b.1.length → aI M 112 k = nI (b_row b.2.1 k k).length) ∧ mI M 90 43 = nI (rowOf b).length ∧ RT M b.1
theorem RS.f104 {M : ej_Mem} {b : BS} (g : Nat → Int32) (H : RS M b) : RS (setF M 104 g) b := by
  have f := fr104 M g
  obtain ⟨h1, h2, h3, h4, h5⟩ := H
  unfold RS
  rw [f.i (show ¬ P104 90 44 by unfold P104; omega), f.i (show ¬ P104 90 43 by unfold P104; omega), f.af (o := 111) (fun k q => by unfold P104 at q; omega), f.af (o := 112) (fun k q => by unfold P104 at q; omega)]
  exact ⟨h1, h2, h3, h4, h5.fr f (fun k => ⟨by unfold P104; omega, by unfold P104; omega, by unfold P104; omega⟩) (by unfold P104; omega)⟩
theorem b_row_app {lk : List (Nat × Nat)} (l : Nat × Nat) {n : Nat} (hn : lk.length = n) (hl : LK lk n) : ∀ (a i : Nat), i ≤ a → i < n → b_row (lk ++ [l]) a i = b_row lk a i
  | 0, _, _, _ => rfl
  | a + 1, i, ha, hi => by
    unfold b_row
    by_cases h0 : i = 0
    · rw [if_pos h0, if_pos h0]
    · have h1 := hl i (by omega) hi
      rw [if_neg h0, if_neg h0, getD_app, if_pos (by omega), b_row_app l hn hl a _ (by omega) (by omega)]
theorem LK_app {lk : List (Nat × Nat)} {l : Nat × Nat} {n : Nat} (hn : lk.length = n) (hl : LK lk n) (h1 : l.1 < n) (h2 : l.2 < 40) : LK (lk ++ [l]) (n + 1) := by
  intro i hi hi2
  rw [getD_app]
  by_cases g : i < n
  · rw [if_pos (by omega)]; exact hl i hi g
  · rw [if_neg (by omega), if_pos (by omega)]
    exact ⟨by omega, h2⟩
theorem rowOf_app {b : BS} {s : Int32} {l : Nat × Nat} {st : Nat} (hlen : b.2.1.length = b.1.length) (hl : LK b.2.1 b.1.length) (h1 : l.1 < b.1.length) (h2 : l.2 < 40) : rowOf (b.1 ++ [s], b.2.1 ++ [l], b.2.2.1, st) = l.2 :: b_row b.2.1 l.1 l.1 := by
  unfold rowOf
  show b_row (b.2.1 ++ [l]) ((b.1 ++ [s]).length - 1) ((b.1 ++ [s]).length - 1) = _
  have e : (b.1 ++ [s]).length - 1 = b.1.length := by simp
  have hL := LK_app hlen hl h1 h2
  rw [e, b_row_s hL (by omega) (by omega), getD_app, if_neg (by omega), if_pos hlen.symm, b_row_app l hlen hl _ _ (Nat.le_refl _) h1]
theorem b_meet_st {cap : Nat} {w : Int32 → Bool} {t : Int32} {l : Nat × Nat} {b : BS} (h : ¬ b.1.length = cap) : b_meet cap w t l b = (b.1 ++ [t], b.2.1 ++ [l], b.2.2.1, if w t then 2 else 1) := by
  unfold b_meet; rw [if_neg h]
theorem reach_meet {D : Nat} (hD : 6 ≤ D) {gi : Nat} {wo : Option Nat} {y : Int32} {i m mk : Nat} {s t : Int32} {b : BS} {o6 : Option Value} {M : ej_Mem} (hX : RX M gi wo) (H : RS M b) (hK : MK M mk) (hk : BOKp 500 b)
    (hi : i < b.1.length) (hm : m < 40) (ht : t ∉ b.1) (hc : b.1.length < 500) (ho6 : o6 = some (.int t)) :
    ∃ M', (bkV (cal D jm_Ref_marks [.ref 90, .int t, .int (nI b.1.length)] M) fun M13 => ckk (mC M13 90 = 9) (deR (mR M13 90 38) fun q14 => ckk (mC M13 90 = 9) (ckk (mC M13 q14 = 100) (ckb (mI M13 90 44) (mN M13 q14)
      (rn jm_Ref_reaches (cal D) 187 [some (.ref 90), some (.int (nI gi)), some (.int (wIn wo)), some (.int y), some (.int (nI i)), some (.int (nI m)), some (.int t)] [] (setA M13 q14 (Int32.toNatClampNeg (mI M13 90 44)) t)))))) =
      (if wsR M wo t = true then some (some (.int 2), M') else rn jm_Ref_reaches (cal D) 85 [some (.ref 90), some (.int (nI gi)), some (.int (wIn wo)), some (.int y), some (.int (nI i)), some (.int (nI (m + 1))), some (.int t)] [] M') ∧
      Fr Prc M M' ∧ RS M' (b.1 ++ [t], b.2.1 ++ [(i, m)], b.2.2.1, if wsR M wo t then 2 else 1) ∧ MK M' mk := by
  obtain ⟨h1, h2, h3, h4, h5⟩ := H
  obtain ⟨k0, k1, k2, k3, k4, k5, k6, k7⟩ := hk
  have hlen : b.1.length < 2 ^ 31 := by omega
  obtain ⟨M1, e1, f1, r1, mk1⟩ := p_marks (by omega : 2 ≤ D) hX.1 h5 hK ht (by omega)
  have g1 : Fr Prc M M1 := f1.mono Pm_rc
  have W1 := f1.rw hX.1
  have q44 : mI M1 90 44 = nI b.1.length := by rw [f1.i (by unfold Pm; omega)]; exact h1
  have q111 : aI M1 111 = aI M 111 := f1.af (fun k q => by unfold Pm at q; omega)
  have q112 : aI M1 112 = aI M 112 := f1.af (fun k q => by unfold Pm at q; omega)
  rw [e1]
  simp only [RW.all W1, q44, ckb_n hc (show 500 < 2 ^ 31 by decide), nI_clamp hlen, MR, ckk_T, deR_s, deQ_s, deQ_n, bkV_s, bkI_s, bkJ_s, bkQ_s, bkQ_n, ckb0, ckb1, ckb2, ckb3, eq_self, Nat.reduceEqDiff, Nat.reduceLeDiff, Nat.reduceLT, reduceIte, true_or, or_true, not_false_eq_true, not_true_eq_false, and_self, and_true, true_and, LIT, Int32.reduceLT, Int32.reduceLE, Int32.reduceToNatClampNeg]
  -- the row of states, of depths, the depth of the last
  rw [eq_Ref_reaches_187]
  simp only [RW.all W1, q44, ckb_n hc (show 500 < 2 ^ 31 by decide), ckb_n (show i < 500 by omega) (show 500 < 2 ^ 31 by decide), nI_clamp hlen, nI_clamp (show i < 2 ^ 31 by omega), MR, ckk_T, deR_s, deQ_s, deQ_n, bkV_s, bkI_s, bkJ_s, bkQ_s, bkQ_n, ckb0, ckb1, ckb2, ckb3, eq_self, Nat.reduceEqDiff, Nat.reduceLeDiff, Nat.reduceLT, reduceIte, true_or, or_true, not_false_eq_true, not_true_eq_false, and_self, and_true, true_and, LIT, Int32.reduceLT, Int32.reduceLE, Int32.reduceToNatClampNeg]
  rw [q112, h3 i hi, nI_1, eq_Ref_reaches_205]
  simp only [RW.all W1, q44, ckb_n hc (show 500 < 2 ^ 31 by decide), nI_clamp hlen, MR, ckk_T, deR_s, deQ_s, deQ_n, bkV_s, bkI_s, bkJ_s, bkQ_s, bkQ_n, ckb0, ckb1, ckb2, ckb3, eq_self, Nat.reduceEqDiff, Nat.reduceLeDiff, Nat.reduceLT, reduceIte, true_or, or_true, not_false_eq_true, not_true_eq_false, and_self, and_true, true_and, LIT, Int32.reduceLT, Int32.reduceLE, Int32.reduceToNatClampNeg]
  rw [up_s, eq_Ref_reaches_218]
  have hmI : mI (setI (setA (setA M1 111 b.1.length t) 112 b.1.length (nI ((b_row b.2.1 i i).length + 1))) 90 43 (nI ((b_row b.2.1 i i).length + 1))) 90 44 = nI b.1.length := by
    rw [gI_n (by omega)]; exact q44
  simp only [RW.all W1, hmI, MR, ckk_T, deR_s, deQ_s, deQ_n, bkV_s, bkI_s, bkJ_s, bkQ_s, bkQ_n, ckb0, ckb1, ckb2, ckb3, eq_self, Nat.reduceEqDiff, Nat.reduceLeDiff, Nat.reduceLT, reduceIte, true_or, or_true, not_false_eq_true, not_true_eq_false, and_self, and_true, true_and, LIT, Int32.reduceLT, Int32.reduceLE, Int32.reduceToNatClampNeg, nI_1]
  rw [eq_Ref_reaches_228]
  generalize hM2 : setI (setI (setA (setA M1 111 b.1.length t) 112 b.1.length (nI ((b_row b.2.1 i i).length + 1))) 90 43 (nI ((b_row b.2.1 i i).length + 1))) 90 44 (nI (b.1.length + 1)) = M2
  have f2 : Fr Prc M1 M2 := by
    rw [← hM2]
    exact (((Fr.setA M1 _ (by unfold Prc; omega)).trans (Fr.setA _ _ (by unfold Prc; omega))).trans (Fr.setI _ _ (by unfold Prc; omega))).trans (Fr.setI _ _ (by unfold Prc; omega))
  have g2 := g1.trans f2
  have f3 : Fr (fun o k => o = 111 ∨ o = 112 ∨ (o = 90 ∧ (k = 43 ∨ k = 44))) M1 M2 := by
    rw [← hM2]
    exact (((Fr.setA M1 _ (by omega)).trans (Fr.setA _ _ (by omega))).trans (Fr.setI _ _ (by omega))).trans (Fr.setI _ _ (by omega))
  have S2 : ∀ st, RS M2 (b.1 ++ [t], b.2.1 ++ [(i, m)], b.2.2.1, st) := by
    intro st
    refine ⟨?_, ?_, ?_, ?_, ?_⟩
    · rw [← hM2, gI_s]
      show _ = nI (b.1 ++ [t]).length
      rw [List.length_append]; rfl
    · intro k hk2
      have hk3 : k < b.1.length + 1 := by simpa using hk2
      have e111 : aI M2 111 = va_up (aI M 111) b.1.length t := by
        rw [← hM2]
        show aI (setA (setA M1 111 b.1.length t) 112 b.1.length _) 111 = _
        rw [gA_o (by decide), gA_u, q111]
      show _ = (b.1 ++ [t]).getD k 0
      rw [e111, va_upe, getD_app]
      by_cases g : k < b.1.length
      · rw [if_neg (by omega), if_pos g]; exact h2 k g
      · rw [if_pos (by omega), if_neg g, if_pos (by omega)]
    · intro k hk2
      have hk3 : k < b.1.length + 1 := by simpa using hk2
      have e112 : aI M2 112 = va_up (aI M 112) b.1.length (nI ((b_row b.2.1 i i).length + 1)) := by
        rw [← hM2]
        show aI (setA (setA M1 111 b.1.length t) 112 b.1.length _) 112 = _
        rw [gA_u, gA_o (by decide), q112]
      show _ = nI (b_row (b.2.1 ++ [(i, m)]) k k).length
      rw [e112, va_upe]
      by_cases g : k < b.1.length
      · rw [if_neg (by omega), b_row_app _ k2 k5 _ _ (Nat.le_refl _) g]; exact h3 k g
      · have hkk : k = b.1.length := by omega
        rw [if_pos hkk]
        have := rowOf_app (s := t) (st := 0) k2 k5 (l := (i, m)) hi hm
        unfold rowOf at this
        have e2 : (b.1 ++ [t]).length - 1 = k := by simp; omega
        simp only [] at this
        rw [e2] at this
        rw [this]; rfl
    · rw [← hM2, gI_n (by omega), gI_s, rowOf_app k2 k5 (l := (i, m)) hi hm]; rfl
    · exact r1.fr f3 (fun k => ⟨by omega, by omega, by omega⟩) (by omega)
  have MK2 : MK M2 mk := mk1.fr f3 (fun k => by omega) (by omega)
  cases wo with
  | none =>
    refine ⟨M2, ?_, g2, S2 _, MK2⟩
    show (if (-1 : Int32) = -1 then _ else _) = (if false = true then _ else _)
    rw [if_pos rfl, if_neg (by decide), nI_1]
  | some wi =>
    have hwi := hX.2.2.2 wi rfl
    have X2 := hX.fr g2
    have hw16 : wi < 16 := by have := (hX.2.1 2 (by decide)).2.1; have : mst 2 = 16 := rfl; omega
    have hsl : slOK (aI M2) (48 + wi) := (X2.2.1 2 (by decide)).2.2 wi (by rw [rN_ag (AgA.rc g2)]; exact hwi)
    obtain ⟨g', e'⟩ := (p_isWished (by omega : 4 ≤ D) X2.1 hw16 hsl t).self
    have hne : ¬ nI wi = (-1 : Int32) := by
      intro q
      have := nI_pos' (n := wi) (by omega)
      rw [q] at this
      exact absurd this (by decide)
    have hws : rTs (aI M2) (12 * (48 + wi)) t = wsR M (some wi) t := by
      show _ = rTs (aI M) _ t
      rw [rTs_ag (AgA.rc g2)]
    show ∃ M', (if nI wi = (-1 : Int32) then _ else _) = _ ∧ _
    rw [if_neg hne]
    simp only [RW.all X2.1, MR, ckk_T, deR_s, deQ_s, deQ_n, bkV_s, bkI_s, bkJ_s, bkQ_s, bkQ_n, ckb0, ckb1, ckb2, ckb3, eq_self, Nat.reduceEqDiff, Nat.reduceLeDiff, Nat.reduceLT, reduceIte, true_or, or_true, not_false_eq_true, not_true_eq_false, and_self, and_true, true_and, LIT, Int32.reduceLT, Int32.reduceLE, Int32.reduceToNatClampNeg]
    have e'' : cal D jm_Ref_isWished [.ref 90, .int (wIn (some wi)), .int t] M2 = some (some (.int (b2i (rTs (aI M2) (12 * (48 + wi)) t))), setF M2 104 g') := e'
    rw [e'', hws]
    simp only [bkI_s, nI_1]
    refine ⟨setF M2 104 g', ?_, g2.trans ((fr104 M2 g').mono P104_rc), (S2 _).f104 g', MK2.fr (fr104 M2 g') (fun k => by unfold P104; omega) (by unfold P104; omega)⟩
    cases wsR M (some wi) t
    · rw [if_pos b2i_f, if_neg (by decide)]
    · rw [if_neg (by decide), if_pos rfl]
