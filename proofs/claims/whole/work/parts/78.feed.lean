/-! feed, end, count -/
def pu20 (tp : Nat → Nat) (t : Nat) (a b c d e : Int32) : Nat → Nat := pu4 (pu4 (pu4 (pu4 (pu4 tp t a) (t + 4) b) (t + 8) c) (t + 12) d) (t + 16) e
def a_feed (t : Nat) : Int32 := if t + 20 ≤ 400 then nI (t + 20) else -1
def t_feed (t : Nat) : Nat := if t + 20 ≤ 400 then t + 20 else t
def p_fed (tp : Nat → Nat) (t : Nat) (a b c d e : Int32) : Nat → Nat := if t + 20 ≤ 400 then pu20 tp t a b c d e else tp
theorem nI_20 (t : Nat) : nI t + 20 = nI (t + 20) := nI_add t 20
theorem c_feed {D : Nat} (hD : 2 ≤ D) {M : ej_Mem} {own : Nat → Nat} {V : View} (h : KC M own V) {t : Nat} {tp : Nat → Nat} (T : TC M t tp) (a b c d e : Int32) : ∃ M', cal D jm_Suit_feed [.ref 59, .int a, .int b, .int c, .int d, .int e] M = some (some (.int (a_feed t)), M') ∧ FrG P59 M M' ∧ KC M' own V ∧ TC M' (t_feed t) (p_fed tp t a b c d e) := by
  obtain ⟨D', rfl⟩ : ∃ D', D = D' + 1 := ⟨D - 1, by omega⟩
  have h4 := T.1
  rw [ca_Suit_feed, eq_Suit_feed_0]
  simp only [SW.all h.1, T.2.2.1, nI_20, MR, ckk_T, deR_s, deQ_s, deQ_n, bkV_s, bkI_s, bkJ_s, bkQ_s, bkQ_n, ckb0, ckb1, ckb2, ckb3, eq_self, Nat.reduceEqDiff, Nat.reduceLeDiff, Nat.reduceLT, reduceIte, true_or, or_true, not_false_eq_true, not_true_eq_false, and_self, and_true, true_and, LIT, Int32.reduceLT, Int32.reduceLE, Int32.reduceToNatClampNeg]
  unfold a_feed t_feed p_fed
  by_cases q : t + 20 ≤ 400
  · have e4 : nI (t + 20) ≤ 400 := nI_le (b := 400) q (by decide)
    obtain ⟨M1, e1, f1, K1, T1⟩ := p_feedNumber (by omega : 1 ≤ D') h T (by omega) a
    obtain ⟨M2, e2, f2, K2, T2⟩ := p_feedNumber (by omega : 1 ≤ D') K1 T1 (by omega) b
    obtain ⟨M3, e3, f3, K3, T3⟩ := p_feedNumber (by omega : 1 ≤ D') K2 T2 (by omega) c
    obtain ⟨M4, e4', f4, K4, T4⟩ := p_feedNumber (by omega : 1 ≤ D') K3 T3 (by omega) d
    obtain ⟨M5, e5, f5, K5, T5⟩ := p_feedNumber (by omega : 1 ≤ D') K4 T4 (by omega) e
    simp only [if_pos q]
    rw [if_pos e4, e1]
    simp only [SW.all K1.1, MR, ckk_T, deR_s, deQ_s, deQ_n, bkV_s, bkI_s, bkJ_s, bkQ_s, bkQ_n, ckb0, ckb1, ckb2, ckb3, eq_self, Nat.reduceEqDiff, Nat.reduceLeDiff, Nat.reduceLT, reduceIte, true_or, or_true, not_false_eq_true, not_true_eq_false, and_self, and_true, true_and, LIT, Int32.reduceLT, Int32.reduceLE, Int32.reduceToNatClampNeg]
    rw [e2]
    simp only [SW.all K2.1, MR, ckk_T, deR_s, deQ_s, deQ_n, bkV_s, bkI_s, bkJ_s, bkQ_s, bkQ_n, ckb0, ckb1, ckb2, ckb3, eq_self, Nat.reduceEqDiff, Nat.reduceLeDiff, Nat.reduceLT, reduceIte, true_or, or_true, not_false_eq_true, not_true_eq_false, and_self, and_true, true_and, LIT, Int32.reduceLT, Int32.reduceLE, Int32.reduceToNatClampNeg]
    rw [e3]
    simp only [SW.all K3.1, MR, ckk_T, deR_s, deQ_s, deQ_n, bkV_s, bkI_s, bkJ_s, bkQ_s, bkQ_n, ckb0, ckb1, ckb2, ckb3, eq_self, Nat.reduceEqDiff, Nat.reduceLeDiff, Nat.reduceLT, reduceIte, true_or, or_true, not_false_eq_true, not_true_eq_false, and_self, and_true, true_and, LIT, Int32.reduceLT, Int32.reduceLE, Int32.reduceToNatClampNeg]
    rw [e4']
    simp only [SW.all K4.1, MR, ckk_T, deR_s, deQ_s, deQ_n, bkV_s, bkI_s, bkJ_s, bkQ_s, bkQ_n, ckb0, ckb1, ckb2, ckb3, eq_self, Nat.reduceEqDiff, Nat.reduceLeDiff, Nat.reduceLT, reduceIte, true_or, or_true, not_false_eq_true, not_true_eq_false, and_self, and_true, true_and, LIT, Int32.reduceLT, Int32.reduceLE, Int32.reduceToNatClampNeg]
    rw [e5]
    simp only [SW.all K5.1, T5.2.2.1, MR, ckk_T, deR_s, deQ_s, deQ_n, bkV_s, bkI_s, bkJ_s, bkQ_s, bkQ_n, ckb0, ckb1, ckb2, ckb3, eq_self, Nat.reduceEqDiff, Nat.reduceLeDiff, Nat.reduceLT, reduceIte, true_or, or_true, not_false_eq_true, not_true_eq_false, and_self, and_true, true_and, LIT, Int32.reduceLT, Int32.reduceLE, Int32.reduceToNatClampNeg]
    exact ⟨M5, rfl, (((f1.trans f2).trans f3).trans f4).trans f5, K5, T5⟩
  · have e4 : ¬ nI (t + 20) ≤ 400 := nI_ge (a := 400) (by omega) (by omega)
    simp only [if_neg q]
    rw [if_neg e4]
    exact ⟨M, rfl, FrG.refl _ M, h, T⟩
theorem r_feed {D : Nat} (hD : 2 ≤ D) {M : ej_Mem} {V : View} {mk : Nat} (h : KR M V mk) {t : Nat} {tp : Nat → Nat} (T : TR M t tp) (a b c d e : Int32) : ∃ M', cal D jm_Ref_feed [.ref 90, .int a, .int b, .int c, .int d, .int e] M = some (some (.int (a_feed t)), M') ∧ Fr P91 M M' ∧ KR M' V mk ∧ TR M' (t_feed t) (p_fed tp t a b c d e) := by
  obtain ⟨D', rfl⟩ : ∃ D', D = D' + 1 := ⟨D - 1, by omega⟩
  have h4 := T.1
  rw [ca_Ref_feed, eq_Ref_feed_0]
  simp only [RW.all h.1, T.2.1, nI_20, MR, ckk_T, deR_s, deQ_s, deQ_n, bkV_s, bkI_s, bkJ_s, bkQ_s, bkQ_n, ckb0, ckb1, ckb2, ckb3, eq_self, Nat.reduceEqDiff, Nat.reduceLeDiff, Nat.reduceLT, reduceIte, true_or, or_true, not_false_eq_true, not_true_eq_false, and_self, and_true, true_and, LIT, Int32.reduceLT, Int32.reduceLE, Int32.reduceToNatClampNeg]
  unfold a_feed t_feed p_fed
  by_cases q : t + 20 ≤ 400
  · have e4 : nI (t + 20) ≤ 400 := nI_le (b := 400) q (by decide)
    obtain ⟨M1, e1, f1, K1, T1⟩ := p_put (by omega : 1 ≤ D') h T (by omega) a
    obtain ⟨M2, e2, f2, K2, T2⟩ := p_put (by omega : 1 ≤ D') K1 T1 (by omega) b
    obtain ⟨M3, e3, f3, K3, T3⟩ := p_put (by omega : 1 ≤ D') K2 T2 (by omega) c
    obtain ⟨M4, e4', f4, K4, T4⟩ := p_put (by omega : 1 ≤ D') K3 T3 (by omega) d
    obtain ⟨M5, e5, f5, K5, T5⟩ := p_put (by omega : 1 ≤ D') K4 T4 (by omega) e
    simp only [if_pos q]
    rw [if_pos e4, e1]
    simp only [RW.all K1.1, MR, ckk_T, deR_s, deQ_s, deQ_n, bkV_s, bkI_s, bkJ_s, bkQ_s, bkQ_n, ckb0, ckb1, ckb2, ckb3, eq_self, Nat.reduceEqDiff, Nat.reduceLeDiff, Nat.reduceLT, reduceIte, true_or, or_true, not_false_eq_true, not_true_eq_false, and_self, and_true, true_and, LIT, Int32.reduceLT, Int32.reduceLE, Int32.reduceToNatClampNeg]
    rw [e2]
    simp only [RW.all K2.1, MR, ckk_T, deR_s, deQ_s, deQ_n, bkV_s, bkI_s, bkJ_s, bkQ_s, bkQ_n, ckb0, ckb1, ckb2, ckb3, eq_self, Nat.reduceEqDiff, Nat.reduceLeDiff, Nat.reduceLT, reduceIte, true_or, or_true, not_false_eq_true, not_true_eq_false, and_self, and_true, true_and, LIT, Int32.reduceLT, Int32.reduceLE, Int32.reduceToNatClampNeg]
    rw [e3]
    simp only [RW.all K3.1, MR, ckk_T, deR_s, deQ_s, deQ_n, bkV_s, bkI_s, bkJ_s, bkQ_s, bkQ_n, ckb0, ckb1, ckb2, ckb3, eq_self, Nat.reduceEqDiff, Nat.reduceLeDiff, Nat.reduceLT, reduceIte, true_or, or_true, not_false_eq_true, not_true_eq_false, and_self, and_true, true_and, LIT, Int32.reduceLT, Int32.reduceLE, Int32.reduceToNatClampNeg]
    rw [e4']
    simp only [RW.all K4.1, MR, ckk_T, deR_s, deQ_s, deQ_n, bkV_s, bkI_s, bkJ_s, bkQ_s, bkQ_n, ckb0, ckb1, ckb2, ckb3, eq_self, Nat.reduceEqDiff, Nat.reduceLeDiff, Nat.reduceLT, reduceIte, true_or, or_true, not_false_eq_true, not_true_eq_false, and_self, and_true, true_and, LIT, Int32.reduceLT, Int32.reduceLE, Int32.reduceToNatClampNeg]
    rw [e5]
    simp only [RW.all K5.1, T5.2.1, MR, ckk_T, deR_s, deQ_s, deQ_n, bkV_s, bkI_s, bkJ_s, bkQ_s, bkQ_n, ckb0, ckb1, ckb2, ckb3, eq_self, Nat.reduceEqDiff, Nat.reduceLeDiff, Nat.reduceLT, reduceIte, true_or, or_true, not_false_eq_true, not_true_eq_false, and_self, and_true, true_and, LIT, Int32.reduceLT, Int32.reduceLE, Int32.reduceToNatClampNeg]
    exact ⟨M5, rfl, (((f1.trans f2).trans f3).trans f4).trans f5, K5, T5⟩
  · have e4 : ¬ nI (t + 20) ≤ 400 := nI_ge (a := 400) (by omega) (by omega)
    simp only [if_neg q]
    rw [if_neg e4]
    exact ⟨M, rfl, Fr.refl _ M, h, T⟩
def a_end (t : Nat) (x : Int32) : Int32 := if hasB (t + 1) x = true then x else -1
def t_end (t : Nat) (x : Int32) : Nat := if hasB (t + 1) x = true then x.toNatClampNeg else t
theorem end_iff {t : Nat} (ht : t ≤ 400) (x : Int32) : hasB (t + 1) x = true ↔ ¬ x < 0 ∧ x ≤ nI t := by
  unfold hasB
  rw [decide_eq_true_iff, Int32.not_lt]
  have e1 : (nI (t + 1)).toInt = t + 1 := nI_toInt (by omega)
  have e2 : (nI t).toInt = t := nI_toInt (by omega)
  rw [Int32.lt_iff_toInt_lt, Int32.le_iff_toInt_le (x := x) (y := nI t), e1, e2]
  constructor
  · rintro ⟨a, b⟩; exact ⟨a, by omega⟩
  · rintro ⟨a, b⟩; exact ⟨a, by omega⟩
theorem c_end {D : Nat} (hD : 1 ≤ D) {M : ej_Mem} {own : Nat → Nat} {V : View} (h : KC M own V) {t : Nat} {tp : Nat → Nat} (T : TC M t tp) (x : Int32) : ∃ M', cal D jm_Suit_end [.ref 59, .int x] M = some (some (.int (a_end t x)), M') ∧ FrG P59 M M' ∧ KC M' own V ∧ TC M' (t_end t x) tp := by
  obtain ⟨d, rfl⟩ : ∃ d, D = d + 1 := ⟨D - 1, by omega⟩
  have h4 := T.1
  rw [ca_Suit_end, eq_Suit_end_0]
  simp only [SW.all h.1, T.2.2.1, MR, ckk_T, deR_s, deQ_s, deQ_n, bkV_s, bkI_s, bkJ_s, bkQ_s, bkQ_n, ckb0, ckb1, ckb2, ckb3, eq_self, Nat.reduceEqDiff, Nat.reduceLeDiff, Nat.reduceLT, reduceIte, true_or, or_true, not_false_eq_true, not_true_eq_false, and_self, and_true, true_and, LIT, Int32.reduceLT, Int32.reduceLE, Int32.reduceToNatClampNeg]
  unfold a_end t_end
  cases hx : hasB (t + 1) x
  · have hn : ¬ (¬ x < 0 ∧ x ≤ nI t) := fun z => by rw [(end_iff h4 x).mpr z] at hx; cases hx
    refine ⟨M, ?_, FrG.refl _ M, h, T⟩
    by_cases q : x < 0
    · rw [if_pos q]; rfl
    · rw [if_neg q, if_neg (fun z => hn ⟨q, z⟩)]; rfl
  · have hp := (end_iff h4 x).mp hx
    obtain ⟨j, hj, rfl⟩ := (hasB_iff (by omega)).mp hx
    rw [if_neg hp.1, if_pos hp.2, if_pos rfl, if_pos rfl, nI_clamp (by omega)]
    have f : FrG P59 M (setI M 59 1 (nI j)) := FrG.setI (P := P59) M _ (Or.inr ⟨rfl, rfl⟩)
    exact ⟨_, rfl, f, K59 h f, ⟨by omega, fun k hk => T.2.1 k (by omega), rfl, fun k hk => T.2.2.2 k (by omega)⟩⟩
theorem r_end {D : Nat} (hD : 1 ≤ D) {M : ej_Mem} {V : View} {mk : Nat} (h : KR M V mk) {t : Nat} {tp : Nat → Nat} (T : TR M t tp) (x : Int32) : ∃ M', cal D jm_Ref_end [.ref 90, .int x] M = some (some (.int (a_end t x)), M') ∧ Fr P91 M M' ∧ KR M' V mk ∧ TR M' (t_end t x) tp := by
  obtain ⟨d, rfl⟩ : ∃ d, D = d + 1 := ⟨D - 1, by omega⟩
  have h4 := T.1
  rw [ca_Ref_end, eq_Ref_end_0]
  simp only [RW.all h.1, T.2.1, MR, ckk_T, deR_s, deQ_s, deQ_n, bkV_s, bkI_s, bkJ_s, bkQ_s, bkQ_n, ckb0, ckb1, ckb2, ckb3, eq_self, Nat.reduceEqDiff, Nat.reduceLeDiff, Nat.reduceLT, reduceIte, true_or, or_true, not_false_eq_true, not_true_eq_false, and_self, and_true, true_and, LIT, Int32.reduceLT, Int32.reduceLE, Int32.reduceToNatClampNeg]
  unfold a_end t_end
  cases hx : hasB (t + 1) x
  · have hn : ¬ (¬ x < 0 ∧ x ≤ nI t) := fun z => by rw [(end_iff h4 x).mpr z] at hx; cases hx
    refine ⟨M, ?_, Fr.refl _ M, h, T⟩
    by_cases q : x < 0
    · rw [if_pos q]; rfl
    · rw [if_neg q, if_neg (fun z => hn ⟨q, z⟩)]; rfl
  · have hp := (end_iff h4 x).mp hx
    obtain ⟨j, hj, rfl⟩ := (hasB_iff (by omega)).mp hx
    rw [if_neg hp.1, if_pos hp.2, if_pos rfl, if_pos rfl, nI_clamp (by omega)]
    have f : Fr P91 M (setI M 90 1 (nI j)) := Fr.setI (P := P91) M _ (Or.inr ⟨rfl, rfl⟩)
    exact ⟨_, rfl, f, K91 h f, ⟨by omega, rfl, fun k hk => T.2.2 k (by omega)⟩⟩
def a_count (V : View) (t : Nat) (x : Int32) : Int32 := if inB x 0 3 = true then nI (vN V x.toNatClampNeg) else if x = 4 then nI (vRn V) else if x = 5 then nI t else -1
theorem in03 (x : Int32) : inB x 0 3 = true ↔ ¬ x < 0 ∧ ¬ 3 < x := by
  unfold inB
  rw [decide_eq_true_iff, Int32.not_lt, Int32.not_lt]
theorem in03_get {x : Int32} (h : inB x 0 3 = true) : ∃ j, j < 4 ∧ x = nI j := by
  obtain ⟨a, b⟩ := (in03 x).mp h
  obtain ⟨j, hj, e⟩ := nI_of2 (n := 3) (by decide : (3 : Int32).toInt = 3) a (Int32.not_lt.mp b)
  exact ⟨j, by omega, e⟩
theorem c_count {D : Nat} (hD : 1 ≤ D) {M : ej_Mem} {own : Nat → Nat} {V : View} (h : KC M own V) {t : Nat} {tp : Nat → Nat} (T : TC M t tp) (x : Int32) : cal D jm_Suit_count [.ref 59, .int x] M = some (some (.int (a_count V t x)), M) := by
  obtain ⟨d, rfl⟩ : ∃ d, D = d + 1 := ⟨D - 1, by omega⟩
  have hv := h.2.2.2.2.2.1
  have hr : mI M 74 0 = nI (vRn V) := hv.2.2.2.2.2.2.2.1.1
  rw [ca_Suit_count, eq_Suit_count_0]
  simp only [SW.all h.1, T.2.2.1, hr, MR, ckk_T, deR_s, deQ_s, deQ_n, bkV_s, bkI_s, bkJ_s, bkQ_s, bkQ_n, ckb0, ckb1, ckb2, ckb3, eq_self, Nat.reduceEqDiff, Nat.reduceLeDiff, Nat.reduceLT, reduceIte, true_or, or_true, not_false_eq_true, not_true_eq_false, and_self, and_true, true_and, LIT, Int32.reduceLT, Int32.reduceLE, Int32.reduceToNatClampNeg]
  unfold a_count
  cases hx : inB x 0 3
  · have hn : ¬ (¬ x < 0 ∧ ¬ 3 < x) := fun z => by rw [(in03 x).mpr z] at hx; cases hx
    have key : ∀ y : Option ej_R, (if x < 0 then (if x = 4 then some (some (Value.int (nI (vRn V))), M) else if x = 5 then some (some (Value.int (nI t)), M) else some (some (Value.int (-1)), M)) else if 3 < x then (if x = 4 then some (some (Value.int (nI (vRn V))), M) else if x = 5 then some (some (Value.int (nI t)), M) else some (some (Value.int (-1)), M)) else y) = some (some (Value.int (if (false : Bool) = true then nI (vN V x.toNatClampNeg) else if x = 4 then nI (vRn V) else if x = 5 then nI t else -1)), M) := by
      intro y
      have fin : (if x = 4 then some (some (Value.int (nI (vRn V))), M) else if x = 5 then some (some (Value.int (nI t)), M) else (some (some (Value.int (-1)), M) : Option ej_R)) = some (some (Value.int (if (false : Bool) = true then nI (vN V x.toNatClampNeg) else if x = 4 then nI (vRn V) else if x = 5 then nI t else -1)), M) := by
        by_cases q4 : x = 4
        · rw [if_pos q4, if_neg (show ¬ ((false : Bool) = true) by decide), if_pos q4]
        · rw [if_neg q4, if_neg (show ¬ ((false : Bool) = true) by decide), if_neg q4]
          by_cases q5 : x = 5
          · rw [if_pos q5, if_pos q5]
          · rw [if_neg q5, if_neg q5]
      by_cases q : x < 0
      · rw [if_pos q]; exact fin
      · rw [if_neg q, if_pos (show 3 < x by
          by_cases z : 3 < x
          · exact z
          · exact absurd ⟨q, z⟩ hn)]
        exact fin
    exact key _
  · have hp := (in03 x).mp hx
    obtain ⟨j, hj, rfl⟩ := in03_get hx
    rw [if_neg hp.1, if_neg hp.2, ckb_n (by omega) (by decide), if_pos rfl, nI_clamp (by omega), ← hv.2.2.1 j hj]
    exact congrArg (fun z => some (some (Value.int z), M)) (hv.2.1 j hj).1
theorem r_count {D : Nat} (hD : 2 ≤ D) {M : ej_Mem} {V : View} {mk : Nat} (h : KR M V mk) {t : Nat} {tp : Nat → Nat} (T : TR M t tp) (x : Int32) : cal D jm_Ref_count [.ref 90, .int x] M = some (some (.int (a_count V t x)), M) := by
  obtain ⟨d, rfl⟩ : ∃ d, D = d + 1 := ⟨D - 1, by omega⟩
  have hf : mI M 90 47 = nI (vRn V) := h.2.1.2.2.2.2.2.2.1.1
  have E := p_inI (by omega : 1 ≤ d) x 0 3 M
  rw [show Int32.toInt64 0 = 0 from by decide, show Int32.toInt64 3 = 3 from by decide] at E
  rw [ca_Ref_count, eq_Ref_count_0, E]
  unfold a_count
  cases hx : inB x 0 3
  · simp only [RW.all h.1, T.2.1, hf, MR, ckk_T, deR_s, deQ_s, deQ_n, bkV_s, bkI_s, bkJ_s, bkQ_s, bkQ_n, ckb0, ckb1, ckb2, ckb3, eq_self, Nat.reduceEqDiff, Nat.reduceLeDiff, Nat.reduceLT, reduceIte, true_or, or_true, not_false_eq_true, not_true_eq_false, and_self, and_true, true_and, LIT, Int32.reduceLT, Int32.reduceLE, Int32.reduceToNatClampNeg, b2i_f]
    by_cases q4 : x = 4
    · rw [if_pos q4, if_neg (show ¬ ((false : Bool) = true) by decide), if_pos q4]
    · rw [if_neg q4, if_neg (show ¬ ((false : Bool) = true) by decide), if_neg q4]
      by_cases q5 : x = 5
      · rw [if_pos q5, if_pos q5]
      · rw [if_neg q5, if_neg q5]
  · obtain ⟨j, hj, rfl⟩ := in03_get hx
    simp only [RW.all h.1, MR, ckk_T, deR_s, deQ_s, deQ_n, bkV_s, bkI_s, bkJ_s, bkQ_s, bkQ_n, ckb0, ckb1, ckb2, ckb3, eq_self, Nat.reduceEqDiff, Nat.reduceLeDiff, Nat.reduceLT, reduceIte, true_or, or_true, not_false_eq_true, not_true_eq_false, and_self, and_true, true_and, LIT, Int32.reduceLT, Int32.reduceLE, Int32.reduceToNatClampNeg, b2i_t]
    rw [ckb_n (by omega) (by decide), nI_clamp (by omega), (h.2.1.1 j hj).1, h.2.1.2.1 j hj]
