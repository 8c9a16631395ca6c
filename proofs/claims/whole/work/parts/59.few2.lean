/-! fewest: the two programs -/
def fstF (p : Nat → Bool) : Nat → Nat → Option Nat
  | 0, _ => none
  | n + 1, i => if p i = true then some i else fstF p n (i + 1)
theorem fstF_s {p : Nat → Bool} : ∀ n i j, fstF p n i = some j → i ≤ j ∧ j < i + n ∧ p j = true ∧ ∀ k, i ≤ k → k < j → p k = false
  | 0, i, j, h => by cases h
  | n + 1, i, j, h => by
    unfold fstF at h
    by_cases q : p i = true
    · rw [if_pos q] at h
      cases h
      exact ⟨Nat.le_refl _, by omega, q, fun k a b => by omega⟩
    · rw [if_neg q] at h
      obtain ⟨a, b, c, d⟩ := fstF_s n (i + 1) j h
      refine ⟨by omega, by omega, c, fun k h1 h2 => ?_⟩
      by_cases e : k = i
      · subst e; simpa using q
      · exact d k (by omega) h2
theorem fstF_n {p : Nat → Bool} : ∀ n i, fstF p n i = none → ∀ k, i ≤ k → k < i + n → p k = false
  | 0, i, _, k, h1, h2 => by omega
  | n + 1, i, h, k, h1, h2 => by
    unfold fstF at h
    by_cases q : p i = true
    · rw [if_pos q] at h; cases h
    · rw [if_neg q] at h
      by_cases e : k = i
      · subst e; simpa using q
      · exact fstF_n n (i + 1) h k (by omega) (by omega)
theorem p_nextSubset {D : Nat} (hD : 1 ≤ D) (s a : Int32) (M : ej_Mem) : cal D jm_Suit_nextSubset [.int s, .int a] M = some (some (.int (((s ||| (a ^^^ -1)) + 1) &&& a)), M) := by
  obtain ⟨d, rfl⟩ : ∃ d, D = d + 1 := ⟨D - 1, by omega⟩
  rw [ca_Suit_nextSubset, eq_Suit_nextSubset_0]
theorem fewC_in {D : Nat} (hD : 6 ≤ D) {own : Nat → Nat} {V : View} {gi wi : Nat} {y : Int32} {all : Int64} {sz : Nat} (hsz : sz ≤ 32) (hg : gi < vN V 1) (hw : wi < vN V 2) (hall : ∀ k, k < vN V 0 → bJ all k = vOp V y k) (hp : pc (lnA V) ≤ 10) : ∀ (n i : Nat) (M : ej_Mem), i + n = cS (lnA V) → KC M own V → TS M gi wi (vF V) → mI M 80 4 = 65535 →
    ∃ M', FrG (P7 own) M M' ∧ KC M' own V ∧ TS M' gi wi (vF V) ∧ mI M' 80 4 = 65535 ∧ ∃ o5 o6, rn jm_Suit_fewestNames (cal D) 53 [some (.ref 59), some (.int (lnA V)), some (.long all), none, some (.int (nI sz)), some (.int (if i < cS (lnA V) then xS (lnA V) i else 0)), some (.int (nI n))] [] M =
      (match fstF (fun j => decide (fwSz V j = sz) && (fwFr V y j && fwOk V gi wi y j)) n i with
        | some j => some (some (.int (xS (lnA V) j)), M')
        | none => rn jm_Suit_fewestNames (cal D) 33 [some (.ref 59), some (.int (lnA V)), some (.long all), none, some (.int (nI (sz + 1))), o5, o6] [] M')
  | 0, i, M, hi, h, ts, t4 => by
    refine ⟨M, FrG.refl _ M, h, ts, t4, some (.int (if i < cS (lnA V) then xS (lnA V) i else 0)), some (.int (nI 0)), ?_⟩
    rw [eq_Suit_fewestNames_53, if_pos (by decide), nI_1]
    rfl
  | n + 1, i, M, hi, h, ts, t4 => by
    have hV := h.2.2.2.2.2.2.1
    have l0 := hV.le (show 0 < 4 by decide)
    have hv := h.2.2.2.2.2.1
    have hT := cS_1024 hp
    rw [eq_Suit_fewestNames_53, if_neg (nI_nle (by omega) (by omega)), if_pos (by omega : i < cS (lnA V)), p_bitCount (by omega)]
    simp only [MR, ckk_T, deR_s, deQ_s, deQ_n, bkV_s, bkI_s, bkJ_s, bkQ_s, bkQ_n, ckb0, ckb1, ckb2, ckb3, eq_self, Nat.reduceEqDiff, Nat.reduceLeDiff, Nat.reduceLT, reduceIte, true_or, or_true, not_false_eq_true, not_true_eq_false, and_self, and_true, true_and, LIT, Int32.reduceLT, Int32.reduceLE, Int32.reduceToNatClampNeg]
    have nx : ∀ M, cal D jm_Suit_nextSubset [.int (xS (lnA V) i), .int (lnA V)] M = some (some (.int (if i + 1 < cS (lnA V) then xS (lnA V) (i + 1) else 0)), M) := by
      intro M
      rw [p_nextSubset (by omega), nextS_eq (xS_sub _ _), xS_next _ (by omega)]
    have cnt : nI (n + 1) + -1 = nI n := pk_m1 n
    have hfs : ∀ b : Bool, (decide (fwSz V i = sz) && (fwFr V y i && fwOk V gi wi y i)) = b → fstF (fun j => decide (fwSz V j = sz) && (fwFr V y j && fwOk V gi wi y j)) (n + 1) i = if b = true then some i else fstF (fun j => decide (fwSz V j = sz) && (fwFr V y j && fwOk V gi wi y j)) n (i + 1) := by
      intro b hb
      show (if (decide (fwSz V i = sz) && (fwFr V y i && fwOk V gi wi y i)) = true then some i else _) = _
      rw [hb]
    have hpc : pc (xS (lnA V) i) ≤ 32 := pc_le _
    by_cases q1 : fwSz V i = sz
    · rw [if_pos (show nI (pc (xS (lnA V) i)) = nI sz by rw [← q1]; rfl)]
      obtain ⟨z, ez, hz⟩ := p_movesLentBy (by omega : 1 ≤ D) hv hV (xS (lnA V) i)
      simp only [SW.all h.1, MR, ckk_T, deR_s, deQ_s, deQ_n, bkV_s, bkI_s, bkJ_s, bkQ_s, bkQ_n, ckb0, ckb1, ckb2, ckb3, eq_self, Nat.reduceEqDiff, Nat.reduceLeDiff, Nat.reduceLT, reduceIte, true_or, or_true, not_false_eq_true, not_true_eq_false, and_self, and_true, true_and, LIT, Int32.reduceLT, Int32.reduceLE, Int32.reduceToNatClampNeg]
      rw [ez]
      simp only [SW.all h.1, MR, ckk_T, deR_s, deQ_s, deQ_n, bkV_s, bkI_s, bkJ_s, bkQ_s, bkQ_n, ckb0, ckb1, ckb2, ckb3, eq_self, Nat.reduceEqDiff, Nat.reduceLeDiff, Nat.reduceLT, reduceIte, true_or, or_true, not_false_eq_true, not_true_eq_false, and_self, and_true, true_and, LIT, Int32.reduceLT, Int32.reduceLE, Int32.reduceToNatClampNeg]
      rw [up_s]
      have K1 := K80L h 2 (all &&& z)
      have G1 := G80L h.2.2.2.1 2 (all &&& z)
      have T1 := ts.mv (all &&& z)
      have hbit : ∀ k, k < vN V 0 → bJ (all &&& z) k = (vOp V y k && lendB V (xS (lnA V) i) k) := by
        intro k hk
        rw [bJ_and, hall k hk, hz k (by omega), decide_eq_true hk, Bool.true_and]
      rw [p_lendersOf (by omega) K1.2.2.2.2.2.1 hV]
      have e5 : lnU V (bJ (all &&& z)) (vN V 0) = lnU V (fun m => vOp V y m && lendB V (xS (lnA V) i) m) (vN V 0) := lnU_congr _ hbit
      rw [e5]
      simp only [SW.all h.1, MR, ckk_T, deR_s, deQ_s, deQ_n, bkV_s, bkI_s, bkJ_s, bkQ_s, bkQ_n, ckb0, ckb1, ckb2, ckb3, eq_self, Nat.reduceEqDiff, Nat.reduceLeDiff, Nat.reduceLT, reduceIte, true_or, or_true, not_false_eq_true, not_true_eq_false, and_self, and_true, true_and, LIT, Int32.reduceLT, Int32.reduceLE, Int32.reduceToNatClampNeg]
      by_cases q2 : lnU V (fun m => vOp V y m && lendB V (xS (lnA V) i) m) (vN V 0) = xS (lnA V) i
      · rw [if_pos q2]
        obtain ⟨M2, e2, f2, r2, K2⟩ := c_whole hD K1 hg hw T1.1 T1.2.1 (ok := okL V y (xS (lnA V) i)) (fun k hk s => by
          have e4 : mI (setL M 80 2 (all &&& z)) 80 4 = 65535 := t4
          rw [e4, trC_all, Bool.and_true, gL_s, hbit k hk]; rfl)
        have e3 : mI (setL M 80 2 (all &&& z)) 80 3 = vF V := ts.2.2
        rw [e3] at e2 r2
        rw [e2]
        simp only [MR, ckk_T, deR_s, deQ_s, deQ_n, bkV_s, bkI_s, bkJ_s, bkQ_s, bkQ_n, ckb0, ckb1, ckb2, ckb3, eq_self, Nat.reduceEqDiff, Nat.reduceLeDiff, Nat.reduceLT, reduceIte, true_or, or_true, not_false_eq_true, not_true_eq_false, and_self, and_true, true_and, LIT, Int32.reduceLT, Int32.reduceLE, Int32.reduceToNatClampNeg]
        have B := srch_end hV gi wi (vF V) (okL V y (xS (lnA V) i))
        have T2 := T1.h81 f2
        have t42 : mI M2 80 4 = 65535 := by rw [f2.i (by unfold Ph; omega)]; exact t4
        have G2 := G1.trans (g81 K1.2.2.2.1 f2)
        by_cases s2 : (srch V gi wi (vF V) (okL V y (xS (lnA V) i))).2.2.2 = 2
        · rw [hfs true (by rw [decide_eq_true q1]; unfold fwFr fwOk; rw [decide_eq_true q2, decide_eq_true s2]; rfl), if_pos (show nI (srch V gi wi (vF V) (okL V y (xS (lnA V) i))).2.2.2 = 2 by rw [s2]; rfl)]
          exact ⟨M2, G2, K2, T2, t42, none, none, rfl⟩
        · have n2 : ¬ nI (srch V gi wi (vF V) (okL V y (xS (lnA V) i))).2.2.2 = 2 := fun q => s2 ((st_eq B.1.2.2.2.2.2.2.2.2 (by decide)).mp q)
          rw [hfs false (by unfold fwOk; rw [decide_eq_false s2, Bool.and_false, Bool.and_false]), if_neg n2, nx]
          simp only [MR, ckk_T, deR_s, deQ_s, deQ_n, bkV_s, bkI_s, bkJ_s, bkQ_s, bkQ_n, ckb0, ckb1, ckb2, ckb3, eq_self, Nat.reduceEqDiff, Nat.reduceLeDiff, Nat.reduceLT, reduceIte, true_or, or_true, not_false_eq_true, not_true_eq_false, and_self, and_true, true_and, LIT, Int32.reduceLT, Int32.reduceLE, Int32.reduceToNatClampNeg]
          rw [cnt]
          obtain ⟨M3, f3, K3, T3, t43, o5, o6, e3⟩ := fewC_in hD hsz hg hw hall hp n (i + 1) M2 (by omega) K2 T2 t42
          exact ⟨M3, G2.trans f3, K3, T3, t43, o5, o6, e3⟩
      · rw [if_neg q2, hfs false (by unfold fwFr; rw [decide_eq_false q2, Bool.false_and, Bool.and_false]), nx]
        simp only [MR, ckk_T, deR_s, deQ_s, deQ_n, bkV_s, bkI_s, bkJ_s, bkQ_s, bkQ_n, ckb0, ckb1, ckb2, ckb3, eq_self, Nat.reduceEqDiff, Nat.reduceLeDiff, Nat.reduceLT, reduceIte, true_or, or_true, not_false_eq_true, not_true_eq_false, and_self, and_true, true_and, LIT, Int32.reduceLT, Int32.reduceLE, Int32.reduceToNatClampNeg]
        rw [cnt]
        obtain ⟨M3, f3, K3, T3, t43, o5, o6, e3⟩ := fewC_in hD hsz hg hw hall hp n (i + 1) _ (by omega) K1 T1 t4
        exact ⟨M3, G1.trans f3, K3, T3, t43, o5, o6, e3⟩
    · have n1 : ¬ nI (pc (xS (lnA V) i)) = nI sz := fun q => q1 ((nI_eq (a := pc (xS (lnA V) i)) (b := sz) (by omega) (by omega)).mp q)
      rw [if_neg n1, hfs false (by rw [decide_eq_false q1, Bool.false_and]), nx]
      simp only [MR, ckk_T, deR_s, deQ_s, deQ_n, bkV_s, bkI_s, bkJ_s, bkQ_s, bkQ_n, ckb0, ckb1, ckb2, ckb3, eq_self, Nat.reduceEqDiff, Nat.reduceLeDiff, Nat.reduceLT, reduceIte, true_or, or_true, not_false_eq_true, not_true_eq_false, and_self, and_true, true_and, LIT, Int32.reduceLT, Int32.reduceLE, Int32.reduceToNatClampNeg]
      rw [cnt]
      exact fewC_in hD hsz hg hw hall hp n (i + 1) M (by omega) h ts t4
theorem shl_pow {p : Nat} (hp : p ≤ 10) : (1 : Int32) <<< (nI p &&& 31) = nI (2 ^ p) := by
  have : ∀ k, k < 11 → (1 : Int32) <<< (nI k &&& 31) = nI (2 ^ k) := by decide +kernel
  exact this p (by omega)
def fwX (V : View) (r : Option Nat) : Int32 := match r with
  | none => -2
  | some j => xS (lnA V) j
theorem fewC_out {D : Nat} (hD : 6 ≤ D) {own : Nat → Nat} {V : View} {gi wi : Nat} {y : Int32} {all : Int64} (hg : gi < vN V 1) (hw : wi < vN V 2) (hall : ∀ k, k < vN V 0 → bJ all k = vOp V y k) (hp : pc (lnA V) ≤ 10) : ∀ (r s : Nat) (M : ej_Mem) (o5 o6 : Option Value), s + r = pc (lnA V) + 1 → KC M own V → TS M gi wi (vF V) → mI M 80 4 = 65535 →
    (∀ j, j < cS (lnA V) → (fwOk V gi wi y j && fwFr V y j) = true → s ≤ fwSz V j) →
    ∃ M' res, rn jm_Suit_fewestNames (cal D) 33 [some (.ref 59), some (.int (lnA V)), some (.long all), none, some (.int (nI s)), o5, o6] [] M = some (some (.int (fwX V res)), M') ∧ AM (cS (lnA V)) (fun i => fwOk V gi wi y i && fwFr V y i) (fwSz V) res ∧ FrG (P7 own) M M' ∧ KC M' own V
  | 0, s, M, o5, o6, hs, h, ts, t4, hno => by
    rw [eq_Suit_fewestNames_33, p_bitCount (by omega)]
    simp only [MR, ckk_T, deR_s, deQ_s, deQ_n, bkV_s, bkI_s, bkJ_s, bkQ_s, bkQ_n, ckb0, ckb1, ckb2, ckb3, eq_self, Nat.reduceEqDiff, Nat.reduceLeDiff, Nat.reduceLT, reduceIte, true_or, or_true, not_false_eq_true, not_true_eq_false, and_self, and_true, true_and, LIT, Int32.reduceLT, Int32.reduceLE, Int32.reduceToNatClampNeg]
    rw [if_pos (nI_lt (by omega) (by omega))]
    refine ⟨M, none, rfl, fun i hi => ?_, FrG.refl _ M, h⟩
    cases e : (fwOk V gi wi y i && fwFr V y i)
    · exact e
    · have := hno i hi e
      have := (pc_sub (xS_sub (lnA V) i)).1
      unfold fwSz at *
      omega
  | r + 1, s, M, o5, o6, hs, h, ts, t4, hno => by
    have hT : cS (lnA V) = 2 ^ pc (lnA V) := rfl
    rw [eq_Suit_fewestNames_33, p_bitCount (by omega)]
    simp only [MR, ckk_T, deR_s, deQ_s, deQ_n, bkV_s, bkI_s, bkJ_s, bkQ_s, bkQ_n, ckb0, ckb1, ckb2, ckb3, eq_self, Nat.reduceEqDiff, Nat.reduceLeDiff, Nat.reduceLT, reduceIte, true_or, or_true, not_false_eq_true, not_true_eq_false, and_self, and_true, true_and, LIT, Int32.reduceLT, Int32.reduceLE, Int32.reduceToNatClampNeg]
    rw [if_neg (nI_nlt (by omega) (by omega)), p_bitCount (by omega)]
    simp only [MR, ckk_T, deR_s, deQ_s, deQ_n, bkV_s, bkI_s, bkJ_s, bkQ_s, bkQ_n, ckb0, ckb1, ckb2, ckb3, eq_self, Nat.reduceEqDiff, Nat.reduceLeDiff, Nat.reduceLT, reduceIte, true_or, or_true, not_false_eq_true, not_true_eq_false, and_self, and_true, true_and, LIT, Int32.reduceLT, Int32.reduceLE, Int32.reduceToNatClampNeg]
    rw [shl_pow hp, ← hT]
    obtain ⟨M1, f1, K1, T1, t41, o5', o6', e1⟩ := fewC_in hD (sz := s) (by omega) hg hw hall hp (cS (lnA V)) 0 M (by omega) h ts t4
    have h0 : (if 0 < cS (lnA V) then xS (lnA V) 0 else 0) = (0 : Int32) := by rw [xS_0]; split <;> rfl
    rw [h0] at e1
    rw [e1]
    cases hf : fstF (fun j => decide (fwSz V j = s) && (fwFr V y j && fwOk V gi wi y j)) (cS (lnA V)) 0 with
    | some j =>
      obtain ⟨a, b, c, d⟩ := fstF_s _ _ _ hf
      have c : (decide (fwSz V j = s) && (fwFr V y j && fwOk V gi wi y j)) = true := c
      rw [Bool.and_eq_true, Bool.and_eq_true, decide_eq_true_iff] at c
      refine ⟨M1, some j, rfl, ⟨by omega, by show (fwOk V gi wi y j && fwFr V y j) = true; rw [c.2.1, c.2.2]; rfl, fun k hk ok => ?_⟩, f1, K1⟩
      have ok : (fwOk V gi wi y k && fwFr V y k) = true := ok
      have hle := hno k hk ok
      refine ⟨by omega, fun e => ?_⟩
      rcases Nat.lt_or_ge k j with q | q
      · have := d k (by omega) q
        have this : (decide (fwSz V k = s) && (fwFr V y k && fwOk V gi wi y k)) = false := this
        rw [Bool.and_eq_true] at ok
        rw [ok.1, ok.2, decide_eq_true (show fwSz V k = s by omega)] at this
        cases this
      · exact q
    | none =>
      have d := fstF_n _ _ hf
      obtain ⟨M2, res, e2, hA, f2, K2⟩ := fewC_out hD hg hw hall hp r (s + 1) M1 o5' o6' (by omega) K1 T1 t41 (fun j hj ok => by
        have hle := hno j hj ok
        rcases Nat.lt_or_ge s (fwSz V j) with q | q
        · exact q
        · have := d j (by omega) (by omega)
          have this : (decide (fwSz V j = s) && (fwFr V y j && fwOk V gi wi y j)) = false := this
          rw [Bool.and_eq_true] at ok
          rw [ok.1, ok.2, decide_eq_true (show fwSz V j = s by omega)] at this
          cases this)
      exact ⟨M2, res, e2, hA, f1.trans f2, K2⟩
theorem c_fewest {D : Nat} (hD : 8 ≤ D) {M : ej_Mem} {own : Nat → Nat} {V : View} (h : KC M own V) (g w y x : Int32) : ∃ M', cal D jm_Suit_fewest [.ref 59, .int g, .int w, .int y, .int x] M = some (some (.int (a_fewest V g w y x)), M') ∧ FrG (P7 own) M M' ∧ KC M' own V := by
  obtain ⟨d, rfl⟩ : ∃ d, D = d + 1 := ⟨D - 1, by omega⟩
  have hV := h.2.2.2.2.2.2.1
  have l0 := hV.le (show 0 < 4 by decide)
  rw [ca_Suit_fewest, eq_Suit_fewest_0]
  simp only [SW.all h.1, MR, ckk_T, deR_s, deQ_s, deQ_n, bkV_s, bkI_s, bkJ_s, bkQ_s, bkQ_n, ckb0, ckb1, ckb2, ckb3, eq_self, Nat.reduceEqDiff, Nat.reduceLeDiff, Nat.reduceLT, reduceIte, true_or, or_true, not_false_eq_true, not_true_eq_false, and_self, and_true, true_and, LIT, Int32.reduceLT, Int32.reduceLE, Int32.reduceToNatClampNeg]
  unfold a_fewest
  by_cases x0 : x < 0
  · have : inB x 0 1 = false := by unfold inB; exact decide_eq_false (fun q => absurd x0 (Int32.not_lt.mpr q.1))
    rw [if_pos x0, this]
    exact ⟨M, rfl, FrG.refl _ M, h⟩
  · rw [if_neg x0]
    by_cases x1 : 1 < x
    · have : inB x 0 1 = false := by unfold inB; exact decide_eq_false (fun q => absurd x1 (Int32.not_lt.mpr q.2))
      rw [if_pos x1, this]
      exact ⟨M, rfl, FrG.refl _ M, h⟩
    · have hin : inB x 0 1 = true := by unfold inB; exact decide_eq_true ⟨Int32.not_lt.mp x0, Int32.not_lt.mp x1⟩
      obtain ⟨xj, hxj, rfl⟩ := nI_of2 (n := 1) (by decide : (1 : Int32).toInt = 1) x0 (Int32.not_lt.mp x1)
      rw [if_neg x1, hin, Bool.true_and]
      obtain ⟨M1, e1, f1, tm⟩ := p_setTerms (by omega : 2 ≤ d) h g w y
      have K1 := Pq80 h f1
      have G1 := g80 h.2.2.2.1 f1
      rw [e1]
      simp only [MR, ckk_T, deR_s, deQ_s, deQ_n, bkV_s, bkI_s, bkJ_s, bkQ_s, bkQ_n, ckb0, ckb1, ckb2, ckb3, eq_self, Nat.reduceEqDiff, Nat.reduceLeDiff, Nat.reduceLT, reduceIte, true_or, or_true, not_false_eq_true, not_true_eq_false, and_self, and_true, true_and, LIT, Int32.reduceLT, Int32.reduceLE, Int32.reduceToNatClampNeg]
      cases ha : askB V g w y
      · exact ⟨M1, rfl, G1, K1⟩
      · obtain ⟨gi, wi, hg, hw, _, _, eg, ew, hy, ts⟩ := tm.ts hV f1 h.2.2.1 ha
        rw [eg, ew]
        simp only [SW.all K1.1, MR, ckk_T, deR_s, deQ_s, deQ_n, bkV_s, bkI_s, bkJ_s, bkQ_s, bkQ_n, ckb0, ckb1, ckb2, ckb3, eq_self, Nat.reduceEqDiff, Nat.reduceLeDiff, Nat.reduceLT, reduceIte, true_or, or_true, not_false_eq_true, not_true_eq_false, and_self, and_true, true_and, LIT, Int32.reduceLT, Int32.reduceLE, Int32.reduceToNatClampNeg, b2i_t]
        rw [p_lenders (by omega) K1.2.2.2.2.2.1 hV]
        simp only [SW.all K1.1, MR, ckk_T, deR_s, deQ_s, deQ_n, bkV_s, bkI_s, bkJ_s, bkQ_s, bkQ_n, ckb0, ckb1, ckb2, ckb3, eq_self, Nat.reduceEqDiff, Nat.reduceLeDiff, Nat.reduceLT, reduceIte, true_or, or_true, not_false_eq_true, not_true_eq_false, and_self, and_true, true_and, LIT, Int32.reduceLT, Int32.reduceLE, Int32.reduceToNatClampNeg]
        rw [p_bitCount (by omega)]
        simp only [SW.all K1.1, MR, ckk_T, deR_s, deQ_s, deQ_n, bkV_s, bkI_s, bkJ_s, bkQ_s, bkQ_n, ckb0, ckb1, ckb2, ckb3, eq_self, Nat.reduceEqDiff, Nat.reduceLeDiff, Nat.reduceLT, reduceIte, true_or, or_true, not_false_eq_true, not_true_eq_false, and_self, and_true, true_and, LIT, Int32.reduceLT, Int32.reduceLE, Int32.reduceToNatClampNeg]
        by_cases hp : pc (lnA V) ≤ 10
        · rw [if_pos (show nI (pc (lnA V)) ≤ 10 from nI_le (b := 10) hp (by decide)), if_pos hp]
          obtain ⟨d', rfl⟩ : ∃ d', d = d' + 1 := ⟨d - 1, by omega⟩
          rw [ca_Suit_fewestNames, eq_Suit_fewestNames_0]
          simp only [SW.all K1.1, MR, ckk_T, deR_s, deQ_s, deQ_n, bkV_s, bkI_s, bkJ_s, bkQ_s, bkQ_n, ckb0, ckb1, ckb2, ckb3, eq_self, Nat.reduceEqDiff, Nat.reduceLeDiff, Nat.reduceLT, reduceIte, true_or, or_true, not_false_eq_true, not_true_eq_false, and_self, and_true, true_and, LIT, Int32.reduceLT, Int32.reduceLE, Int32.reduceToNatClampNeg]
          obtain ⟨M2, e2, f2, r2, K2⟩ := c_whole (by omega : 6 ≤ d') K1 hg hw ts.1 ts.2.1 (ok := fun m _ => vOp V y m) (fun m hm s => by rw [tm.op hV hm, tm.2.2.2.2, trC_all, Bool.and_true])
          rw [ts.2.2] at e2 r2
          rw [e2]
          simp only [MR, ckk_T, deR_s, deQ_s, deQ_n, bkV_s, bkI_s, bkJ_s, bkQ_s, bkQ_n, ckb0, ckb1, ckb2, ckb3, eq_self, Nat.reduceEqDiff, Nat.reduceLeDiff, Nat.reduceLT, reduceIte, true_or, or_true, not_false_eq_true, not_true_eq_false, and_self, and_true, true_and, LIT, Int32.reduceLT, Int32.reduceLE, Int32.reduceToNatClampNeg]
          have B := srch_end hV gi wi (vF V) (fun m _ => vOp V y m)
          have T2 := ts.h81 f2
          have t42 : mI M2 80 4 = 65535 := by rw [f2.i (by unfold Ph; omega)]; exact tm.2.2.2.2
          have G2 := G1.trans (g81 K1.2.2.2.1 f2)
          have fin : ∀ (M3 : ej_Mem) (res : Option Nat), FrG (P7 own) M M3 → KC M3 own V → AM (cS (lnA V)) (fwOk V gi wi y) (fwSz V) res → ∃ M', (bkI (some (some (Value.int (fwX V res)), M3)) fun x9 M8 => (if nI xj = 1 then (some (some (Value.int x9), M8) : Option ej_R) else (if 0 ≤ x9 then (bkI (cal (d' + 1) jm_Intg_bitCount_0f7a4 [.int x9] M8) fun x11 M10 => some (some (.int x11), M10)) else some (some (.int x9), M8)))) = some (some (.int (fwA V (nI xj) (amF (fwOk V gi wi y) (fwSz V) (cS (lnA V))))), M') ∧ FrG (P7 own) M M' ∧ KC M' own V := by
            intro M3 res G3 K3 hA
            rw [AM.uniq (amF_ok _ _ _) hA]
            simp only [MR, ckk_T, deR_s, deQ_s, deQ_n, bkV_s, bkI_s, bkJ_s, bkQ_s, bkQ_n, ckb0, ckb1, ckb2, ckb3, eq_self, Nat.reduceEqDiff, Nat.reduceLeDiff, Nat.reduceLT, reduceIte, true_or, or_true, not_false_eq_true, not_true_eq_false, and_self, and_true, true_and, LIT, Int32.reduceLT, Int32.reduceLE, Int32.reduceToNatClampNeg]
            cases res with
            | none =>
              refine ⟨M3, ?_, G3, K3⟩
              show (if nI xj = 1 then _ else (if (0 : Int32) ≤ -2 then _ else _)) = _
              rw [if_neg (show ¬ (0 : Int32) ≤ -2 by decide)]
              split <;> rfl
            | some j =>
              have hne := xS_ne hV j
              refine ⟨M3, ?_, G3, K3⟩
              show (if nI xj = 1 then some (some (Value.int (xS (lnA V) j)), M3) else (if 0 ≤ xS (lnA V) j then _ else _)) = some (some (.int (if nI xj = 0 then nI (pc (xS (lnA V) j)) else xS (lnA V) j)), M3)
              rw [if_pos (Int32.not_lt.mp hne.1), p_bitCount (by omega)]
              have : xj = 0 ∨ xj = 1 := by omega
              rcases this with rfl | rfl <;> rfl
          by_cases s3 : (srch V gi wi (vF V) (fun m _ => vOp V y m)).2.2.2 = 3
          · rw [if_pos (show nI (srch V gi wi (vF V) (fun m _ => vOp V y m)).2.2.2 = 3 by rw [s3]; rfl)]
            refine fin M2 none G2 K2 (fun i hi => ?_)
            unfold fwOk
            rw [decide_eq_false_iff_not]
            have := b_all_mono (nx := nxV V gi (vF V) (fun m _ => vOp V y m)) (nx' := nxV V gi (vF V) (okL V y (xS (lnA V) i))) l0 (by decide) (nxV_sub (fun m s q => by unfold okL at q; rw [Bool.and_eq_true] at q; exact q.1)) s3
            unfold srch
            rw [this]; decide
          · have n3 : ¬ nI (srch V gi wi (vF V) (fun m _ => vOp V y m)).2.2.2 = 3 := fun q => s3 ((st_eq B.1.2.2.2.2.2.2.2.2 (by decide)).mp q)
            rw [if_neg n3]
            obtain ⟨M3, res, e3, hA, f3, K3⟩ := fewC_out (by omega : 6 ≤ d') (all := mL M1 80 2) hg hw (fun k hk => tm.op hV hk) hp (pc (lnA V) + 1) 0 M2 none none (by omega) K2 T2 t42 (fun j hj _ => Nat.zero_le _)
            have e3' : rn jm_Suit_fewestNames (cal d') 33 [some (.ref 59), some (.int (lnA V)), some (.long (mL M1 80 2)), none, some (.int 0), none, none] [] M2 = some (some (.int (fwX V res)), M3) := e3
            rw [e3']
            exact fin M3 res (G2.trans f3) K3 (hA.idle fw_idle)
        · rw [if_neg (show ¬ nI (pc (lnA V)) ≤ 10 from nI_ge (a := 10) (by omega) (by have := pc_le (lnA V); omega)), if_neg hp]
          exact ⟨M1, rfl, G1, K1⟩
