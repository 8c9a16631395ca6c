/-! the class: what leads where, which moves are open -/
theorem ks0 : (0 : Int32) = nI 0 := rfl
theorem ks1 : (1 : Int32) = nI 1 := rfl
theorem ks2 : (2 : Int32) = nI 2 := rfl
theorem ks3 : (3 : Int32) = nI 3 := rfl
def opC (M : ej_Mem) (l : Nat) (y : Int32) (m : Nat) : Bool := decide (aI M (l + 3) m ≤ y) && decide (y ≤ aI M (l + 4) m)
theorem open_loop {cl : Nat → List Value → ej_Mem → Option ej_R} {M : ej_Mem} {l : Nat} (h : LA M l) (ht : LT M l) {y : Int32} : ∀ (n m : Nat) (acc : Int64), m + n = nL M l 0 → (∀ k, k < 64 → bJ acc k = (decide (k < m) && opC M l y k)) →
    ∃ z, rn jm_Land_movesOpenIn cl 5 [some (.ref l), some (.int y), some (.long acc), none, some (.int (nI m))] [] M = some (some (.long z), M) ∧ ∀ k, k < 64 → bJ z k = (decide (k < nL M l 0) && opC M l y k)
  | 0, m, acc, hm, ha => by
    obtain ⟨h1, h2, _⟩ := ht 0 (by decide)
    have h3 := mst_le (k := 0)
    refine ⟨acc, ?_, ?_⟩
    · rw [eq_Land_movesOpenIn_5]
      simp only [h.1, h.2.1, h.2.2.1, MR, ckk_T, deR_s, deQ_s, deQ_n, bkV_s, bkI_s, bkJ_s, bkQ_s, bkQ_n, ckb0, ckb1, ckb2, ckb3, eq_self, Nat.reduceEqDiff, Nat.reduceLeDiff, Nat.reduceLT, reduceIte, true_or, or_true, not_false_eq_true, not_true_eq_false, and_self, and_true, true_and, LIT, Int32.reduceLT, Int32.reduceLE, Int32.reduceToNatClampNeg]
      rw [h1, if_pos (nI_le (by omega) (by omega))]
    · rw [← hm, Nat.add_zero]; exact ha
  | n + 1, m, acc, hm, ha => by
    have ih := open_loop (cl := cl) h ht (y := y) n (m + 1)
    obtain ⟨h1, h2, _⟩ := ht 0 (by decide)
    have h3 : mst 0 = 40 := rfl
    rw [eq_Land_movesOpenIn_5]
    simp only [h.1, h.2.1, h.2.2.1, MR, ckk_T, deR_s, deQ_s, deQ_n, bkV_s, bkI_s, bkJ_s, bkQ_s, bkQ_n, ckb0, ckb1, ckb2, ckb3, eq_self, Nat.reduceEqDiff, Nat.reduceLeDiff, Nat.reduceLT, reduceIte, true_or, or_true, not_false_eq_true, not_true_eq_false, and_self, and_true, true_and, LIT, Int32.reduceLT, Int32.reduceLE, Int32.reduceToNatClampNeg, nI_1, ckb_n (show m < 40 by omega) (show 40 < 2 ^ 31 by decide), nI_clamp (show m < 2 ^ 31 by omega)]
    rw [h1, if_neg (nI_ge (by omega) (by omega))]
    by_cases g1 : y < aI M (l + 3) m
    · rw [if_pos g1]
      refine ih acc (by omega) fun k hk => ?_
      rw [ha k hk]
      by_cases e : k = m
      · subst e
        have : opC M l y k = false := by unfold opC; rw [decide_eq_false (Int32.not_le.mpr g1)]; rfl
        rw [this]; simp
      · have : (k < m) = (k < m + 1) := by apply propext; omega
        simp only [this]
    · rw [if_neg g1]
      by_cases g2 : aI M (l + 4) m < y
      · rw [if_pos g2]
        refine ih acc (by omega) fun k hk => ?_
        rw [ha k hk]
        by_cases e : k = m
        · subst e
          have : opC M l y k = false := by unfold opC; rw [decide_eq_false (Int32.not_le.mpr g2), Bool.and_false]
          rw [this]; simp
        · have : (k < m) = (k < m + 1) := by apply propext; omega
          simp only [this]
      · rw [if_neg g2]
        refine ih _ (by omega) fun k hk => ?_
        rw [bJ_or, ha k hk, bJ_shl (by omega) hk]
        by_cases e : k = m
        · subst e
          have : opC M l y k = true := by unfold opC; rw [decide_eq_true (Int32.not_lt.mp g1), decide_eq_true (Int32.not_lt.mp g2)]; rfl
          rw [this]; simp
        · have : (k < m) = (k < m + 1) := by apply propext; omega
          simp only [this, e, decide_false, Bool.or_false]
theorem p_movesOpenIn {D : Nat} (hD : 1 ≤ D) {M : ej_Mem} {l : Nat} (h : LA M l) (ht : LT M l) (y : Int32) : ∃ z, cal D jm_Land_movesOpenIn [.ref l, .int y] M = some (some (.long z), M) ∧ ∀ k, k < 64 → bJ z k = (decide (k < nL M l 0) && opC M l y k) := by
  obtain ⟨d, rfl⟩ : ∃ d, D = d + 1 := ⟨D - 1, by omega⟩
  rw [ca_Land_movesOpenIn, eq_Land_movesOpenIn_0]
  exact open_loop h ht (nL M l 0) 0 0 (by omega) (fun k hk => by rw [bJ_0]; simp)
/-- what terms say: a gift, a wish, moves, stops, who is trusted -/
def TA (M : ej_Mem) (t : Nat) : Prop := mC M t = 6
def stC (M : ej_Mem) (l : Nat) (fc s : Int32) : Nat → Nat → Bool
  | 0, _ => false
  | n + 1, k => (bI fc k && cTst M (wL M l 3 k) (mI M (wL M l 3 k) 5) s) || stC M l fc s n (k + 1)
theorem shr_0 {x : Int32} {m k : Nat} (hm : m < 32) (h : x >>> (nI m &&& 31) = 0) (hk : m ≤ k) (hk2 : k < 32) : bI x k = false := by
  have e : bI (x >>> (nI m &&& 31)) (k - m) = bI x k := by
    unfold bI
    rw [Int32.toBitVec_shiftRight, sh32 m hm]
    show (x.toBitVec.sshiftRight (BitVec.ofNat 32 m).toNat).getLsbD (k - m) = _
    rw [BitVec.getLsbD_sshiftRight, BitVec.toNat_ofNat, Nat.mod_eq_of_lt (by omega : m < 2 ^ 32)]
    rw [if_pos (by omega), show m + (k - m) = k by omega]
    have : ¬ 32 ≤ k - m := by omega
    simp [this]
  rw [← e, h, bI_0]
theorem stC_0 {M : ej_Mem} {l : Nat} {fc s : Int32} : ∀ (n k : Nat), (∀ j, k ≤ j → j < k + n → bI fc j = false) → stC M l fc s n k = false
  | 0, _, _ => rfl
  | n + 1, k, h => by
    unfold stC
    rw [h k (Nat.le_refl k) (by omega), stC_0 n (k + 1) (fun j h1 h2 => h j (by omega) (by omega))]
    rfl
theorem stopC_loop {cl : Nat → List Value → ej_Mem → Option ej_R} {M : ej_Mem} (hs : ST M) {l t : Nat} (h : LA M l) (ht : LT M l) (hT : TA M t) {s : Int32}
    (hw : ∀ i, i < nL M l 3 → cl jm_Land_writ [.ref l, .int 3, .int (nI i)] M = some (some (.ref (wL M l 3 i)), M))
    (hi : ∀ w, WA M w → cl jm_Writ_isTrue [.ref w, .int (mI M w 5), .int s] M = some (some (.int (b2i (cTst M w (mI M w 5) s))), M)) : ∀ (n k : Nat) (o4 : Option Value), k + n = nL M l 3 →
    rn jm_Land_isStopped cl 29 [some (.ref l), some (.int s), some (.ref t), some (.int (nI k)), o4] [] M = some (some (.int (b2i (stC M l (mI M t 3) s n k))), M)
  | 0, k, o4, hk => by
    obtain ⟨h1, h2, _⟩ := ht 3 (by decide)
    have h3 := mst_le (k := 3)
    rw [eq_Land_isStopped_29]
    simp only [h.1, h.2.1, h.2.2.1, hT, show mC M t = 6 from hT, MR, ckk_T, deR_s, deQ_s, deQ_n, bkV_s, bkI_s, bkJ_s, bkQ_s, bkQ_n, ckb0, ckb1, ckb2, ckb3, eq_self, Nat.reduceEqDiff, Nat.reduceLeDiff, Nat.reduceLT, reduceIte, true_or, or_true, not_false_eq_true, not_true_eq_false, and_self, and_true, true_and, LIT, Int32.reduceLT, Int32.reduceLE, Int32.reduceToNatClampNeg]
    rw [h1, if_pos (nI_le (by omega) (by omega) : nI (nL M l 3) ≤ nI k)]
    split <;> rfl
  | n + 1, k, o4, hk => by
    have ih := stopC_loop hs h ht hT hw hi n (k + 1)
    obtain ⟨h1, h2, h4⟩ := ht 3 (by decide)
    have h3 : mst 3 = 8 := rfl
    rw [eq_Land_isStopped_29]
    simp only [h.1, h.2.1, h.2.2.1, show mC M t = 6 from hT, MR, ckk_T, deR_s, deQ_s, deQ_n, bkV_s, bkI_s, bkJ_s, bkQ_s, bkQ_n, ckb0, ckb1, ckb2, ckb3, eq_self, Nat.reduceEqDiff, Nat.reduceLeDiff, Nat.reduceLT, reduceIte, true_or, or_true, not_false_eq_true, not_true_eq_false, and_self, and_true, true_and, LIT, Int32.reduceLT, Int32.reduceLE, Int32.reduceToNatClampNeg, nI_1]
    rw [h1, if_neg (nI_ge (by omega) (by omega) : ¬ nI (nL M l 3) ≤ nI k), hw k (by omega)]
    simp only [h.1, h.2.1, h.2.2.1, show mC M t = 6 from hT, MR, ckk_T, deR_s, deQ_s, deQ_n, bkV_s, bkI_s, bkJ_s, bkQ_s, bkQ_n, ckb0, ckb1, ckb2, ckb3, eq_self, Nat.reduceEqDiff, Nat.reduceLeDiff, Nat.reduceLT, reduceIte, true_or, or_true, not_false_eq_true, not_true_eq_false, and_self, and_true, true_and, LIT, Int32.reduceLT, Int32.reduceLE, Int32.reduceToNatClampNeg, (h4 k (by omega)).2.1]
    by_cases g0 : mI M t 3 >>> (nI k &&& 31) = 0
    · rw [if_pos g0, stC_0 (n + 1) k (fun j a b => shr_0 (by omega) g0 a (by omega))]; rfl
    · rw [if_neg g0]
      show (_ : Option ej_R) = some (some (.int (b2i ((bI (mI M t 3) k && cTst M (wL M l 3 k) (mI M (wL M l 3 k) 5) s) || stC M l (mI M t 3) s n (k + 1)))), M)
      by_cases g1 : mI M t 3 >>> (nI k &&& 31) &&& 1 = 0
      · rw [if_pos g1, (low_0 (by omega)).mp g1, Bool.false_and, Bool.false_or]
        exact ih _ (by omega)
      · rw [if_neg g1]
        have hb : bI (mI M t 3) k = true := by
          cases e : bI (mI M t 3) k
          · exact absurd ((low_0 (by omega)).mpr e) g1
          · rfl
        rw [hb, Bool.true_and, hi _ (h4 k (by omega)).2]
        simp only [MR, ckk_T, deR_s, deQ_s, deQ_n, bkV_s, bkI_s, bkJ_s, bkQ_s, bkQ_n, ckb0, ckb1, ckb2, ckb3, eq_self, Nat.reduceEqDiff, Nat.reduceLeDiff, Nat.reduceLT, reduceIte, true_or, or_true, not_false_eq_true, not_true_eq_false, and_self, and_true, true_and, LIT, Int32.reduceLT, Int32.reduceLE, Int32.reduceToNatClampNeg]
        cases cTst M (wL M l 3 k) (mI M (wL M l 3 k) 5) s
        · rw [if_pos b2i_f, Bool.false_or]; exact ih _ (by omega)
        · rw [if_neg (by decide)]; rfl
/-- what bars a state, under terms whose gift is this writ -/
def stopC (M : ej_Mem) (l g : Nat) (fc s : Int32) : Bool := cTst M g (mI M g 5) s || stC M l fc s (nL M l 3) 0
theorem p_isStoppedC {D : Nat} (hD : 3 ≤ D) {M : ej_Mem} (hs : ST M) {l t g : Nat} (h : LA M l) (ht : LT M l) (hT : TA M t) (hg : mR M t 0 = some g) (hG : WA M g) (s : Int32) :
    cal D jm_Land_isStopped [.ref l, .int s, .ref t] M = some (some (.int (b2i (stopC M l g (mI M t 3) s))), M) := by
  obtain ⟨d, rfl⟩ : ∃ d, D = d + 1 := ⟨D - 1, by omega⟩
  rw [ca_Land_isStopped, eq_Land_isStopped_0]
  simp only [show mC M t = 6 from hT, hg, hG.1, MR, ckk_T, deR_s, deQ_s, deQ_n, bkV_s, bkI_s, bkJ_s, bkQ_s, bkQ_n, ckb0, ckb1, ckb2, ckb3, eq_self, Nat.reduceEqDiff, Nat.reduceLeDiff, Nat.reduceLT, reduceIte, true_or, or_true, not_false_eq_true, not_true_eq_false, and_self, and_true, true_and, LIT, Int32.reduceLT, Int32.reduceLE, Int32.reduceToNatClampNeg]
  rw [p_isTrueC (by omega) hG hG.ent]
  simp only [MR, ckk_T, deR_s, deQ_s, deQ_n, bkV_s, bkI_s, bkJ_s, bkQ_s, bkQ_n, ckb0, ckb1, ckb2, ckb3, eq_self, Nat.reduceEqDiff, Nat.reduceLeDiff, Nat.reduceLT, reduceIte, true_or, or_true, not_false_eq_true, not_true_eq_false, and_self, and_true, true_and, LIT, Int32.reduceLT, Int32.reduceLE, Int32.reduceToNatClampNeg]
  have L := stopC_loop (cl := cal d) (s := s) hs h ht hT (fun i hi => p_writ_s (by omega) hs h ht ks3 (by decide) hi) (fun w hw => p_isTrueC (by omega) hw hw.ent s) (nL M l 3) 0 none (by omega)
  unfold stopC
  cases cTst M g (mI M g 5) s
  · rw [if_pos b2i_f, Bool.false_or]; exact L
  · rw [if_neg (by decide)]; rfl
def chC (M : ej_Mem) (w : Nat) (s : Int32) : Int32 := (s &&& (mI M w 1 ^^^ -1)) ||| mI M w 0
/-- the state after a move that may be made -/
def ledC (M : ej_Mem) (l g : Nat) (fc : Int32) (al : Nat → Bool) (m : Nat) (s : Int32) : Option Int32 :=
  if al m = true ∧ chC M (wL M l 0 m) s ≠ s ∧ cTst M (wL M l 0 m) (mI M (wL M l 0 m) 5) s = true ∧ stopC M l g fc (chC M (wL M l 0 m) s) = false then some (chC M (wL M l 0 m) s) else none
theorem p_ledTo {D : Nat} (hD : 4 ≤ D) {M : ej_Mem} (hs : ST M) {l t g : Nat} (h : LA M l) (ht : LT M l) (hT : TA M t) (hg : mR M t 0 = some g) (hG : WA M g) {m : Nat} (hm : m < nL M l 0) (s : Int32) :
    cal D jm_Land_ledTo [.ref l, .int (nI m), .int s, .ref t] M = some (some (.int ((ledC M l g (mI M t 3) (bJ (mL M t 2)) m s).getD (-1))), M) := by
  obtain ⟨d, rfl⟩ : ∃ d, D = d + 1 := ⟨D - 1, by omega⟩
  obtain ⟨h1, h2, h4⟩ := ht 0 (by decide)
  have h3 : mst 0 = 40 := rfl
  have hW := (h4 m hm).2
  rw [ca_Land_ledTo, eq_Land_ledTo_0]
  simp only [h.1, MR, ckk_T, deR_s, deQ_s, deQ_n, bkV_s, bkI_s, bkJ_s, bkQ_s, bkQ_n, ckb0, ckb1, ckb2, ckb3, eq_self, Nat.reduceEqDiff, Nat.reduceLeDiff, Nat.reduceLT, reduceIte, true_or, or_true, not_false_eq_true, not_true_eq_false, and_self, and_true, true_and, LIT, Int32.reduceLT, Int32.reduceLE, Int32.reduceToNatClampNeg]
  rw [p_writ_s (by omega) hs h ht ks0 (by decide) hm]
  simp only [h.1, show mC M t = 6 from hT, hW.1, MR, ckk_T, deR_s, deQ_s, deQ_n, bkV_s, bkI_s, bkJ_s, bkQ_s, bkQ_n, ckb0, ckb1, ckb2, ckb3, eq_self, Nat.reduceEqDiff, Nat.reduceLeDiff, Nat.reduceLT, reduceIte, true_or, or_true, not_false_eq_true, not_true_eq_false, and_self, and_true, true_and, LIT, Int32.reduceLT, Int32.reduceLE, Int32.reduceToNatClampNeg]
  unfold ledC
  by_cases g1 : lg_cmp (ej_ls 1 (mL M t 2) (nI m) &&& 1) 0 = 0
  · rw [if_pos g1, if_neg (fun q => by rw [(lowJ_0 (by omega)).mp g1] at q; cases q.1)]; rfl
  · rw [if_neg g1]
    have hb : bJ (mL M t 2) m = true := by
      cases e : bJ (mL M t 2) m
      · exact absurd ((lowJ_0 (by omega)).mpr e) g1
      · rfl
    rw [p_changed (by omega) hW.1]
    simp only [h.1, show mC M t = 6 from hT, hW.1, MR, ckk_T, deR_s, deQ_s, deQ_n, bkV_s, bkI_s, bkJ_s, bkQ_s, bkQ_n, ckb0, ckb1, ckb2, ckb3, eq_self, Nat.reduceEqDiff, Nat.reduceLeDiff, Nat.reduceLT, reduceIte, true_or, or_true, not_false_eq_true, not_true_eq_false, and_self, and_true, true_and, LIT, Int32.reduceLT, Int32.reduceLE, Int32.reduceToNatClampNeg]
    show (if chC M (wL M l 0 m) s = s then _ else _) = _
    by_cases g2 : chC M (wL M l 0 m) s = s
    · rw [if_pos g2, if_neg (fun q => q.2.1 g2)]; rfl
    · rw [if_neg g2, p_isTrueC (by omega) hW hW.ent]
      simp only [h.1, show mC M t = 6 from hT, hW.1, MR, ckk_T, deR_s, deQ_s, deQ_n, bkV_s, bkI_s, bkJ_s, bkQ_s, bkQ_n, ckb0, ckb1, ckb2, ckb3, eq_self, Nat.reduceEqDiff, Nat.reduceLeDiff, Nat.reduceLT, reduceIte, true_or, or_true, not_false_eq_true, not_true_eq_false, and_self, and_true, true_and, LIT, Int32.reduceLT, Int32.reduceLE, Int32.reduceToNatClampNeg]
      cases g3 : cTst M (wL M l 0 m) (mI M (wL M l 0 m) 5) s
      · rw [if_pos b2i_f, if_neg (fun q => by cases q.2.2.1)]; rfl
      · rw [if_neg (by decide), p_isStoppedC (by omega) hs h ht hT hg hG]
        simp only [MR, ckk_T, deR_s, deQ_s, deQ_n, bkV_s, bkI_s, bkJ_s, bkQ_s, bkQ_n, ckb0, ckb1, ckb2, ckb3, eq_self, Nat.reduceEqDiff, Nat.reduceLeDiff, Nat.reduceLT, reduceIte, true_or, or_true, not_false_eq_true, not_true_eq_false, and_self, and_true, true_and, LIT, Int32.reduceLT, Int32.reduceLE, Int32.reduceToNatClampNeg]
        show (if b2i (stopC M l g (mI M t 3) (chC M (wL M l 0 m) s)) = 0 then _ else _) = _
        cases g4 : stopC M l g (mI M t 3) (chC M (wL M l 0 m) s)
        · rw [if_pos b2i_f, if_pos ⟨hb, g2, rfl⟩]; rfl
        · rw [if_neg (by decide), if_neg (fun q => by cases q.2.2)]; rfl
