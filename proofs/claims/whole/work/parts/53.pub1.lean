/-! the class's public methods that only ask -/
def KC (M : ej_Mem) (own : Nat → Nat) (V : View) : Prop := SW M ∧ ST M ∧ 122 ≤ mZ M ∧ OwnB own M ∧ LOwn own M 68 2 ∧ CV M 68 V ∧ VOK V ∧ ∃ b, HR M 81 500 1024 22 b
def Pq (o k : Nat) : Prop := o = 80 ∨ o = 89 ∨ (o = 88 ∧ 1 ≤ k) ∨ (81 ≤ o ∧ o ≤ 84 ∧ (o = 81 → 5 ≤ k)) ∨ o = 86 ∨ o = 87
theorem ST.g {M M' : ej_Mem} {P : Nat → Nat → Prop} (f : FrG P M M') (hz : 122 ≤ mZ M) (hp : ∀ k, ¬ P 1 k ∧ ¬ P 2 k) (h : ST M) : ST M' := by
  have s1 : Sup P M 1 := ⟨by omega, fun k => (hp k).1⟩
  have s2 : Sup P M 2 := ⟨by omega, fun k => (hp k).2⟩
  unfold ST
  rw [(f.2.1 1 s1.1).1, (f.2.1 1 s1.1).2, (f.2.1 2 s2.1).1, (f.2.1 2 s2.1).2, (f.all s1).2.2.2.1, (f.all s2).2.2.2.1]
  exact h
theorem Pq_own {own : Nat → Nat} {M : ej_Mem} (h : OwnB own M) {o k : Nat} (q : Pq o k) : own o = 7 := by
  apply h.2.2.2.2.1 o <;> unfold Pq at q <;> omega
theorem KC.query {M M' : ej_Mem} {own : Nat → Nat} {V : View} (h : KC M own V) (f : FrG Pq M M') (hb : ∃ b, HR M' 81 500 1024 22 b) : KC M' own V := by
  obtain ⟨h1, h2, h3, h4, h5, h6, h7, _⟩ := h
  have s := h5.sup (P := Pq) h4 (by decide) (fun o k q => by rw [Pq_own h4 q]; decide)
  refine ⟨h1.g f h3 (fun o k a b q => by unfold Pq at q; omega), h2.g f h3 (fun k => by unfold Pq; omega), Nat.le_trans h3 f.1, h4.g f, h5.g f s h6.2.1, h6.g f s, h7, hb⟩
theorem p_isYearC {D : Nat} (hD : 1 ≤ D) (y : Int32) (M : ej_Mem) : cal D jm_Suit_isYear [.int y] M = some (some (.int (b2i (inB y 0 2999))), M) := by
  obtain ⟨d, rfl⟩ : ∃ d, D = d + 1 := ⟨D - 1, by omega⟩
  rw [ca_Suit_isYear, eq_Suit_isYear_0]
  simp only [MR, ckk_T, deR_s, deQ_s, deQ_n, bkV_s, bkI_s, bkJ_s, bkQ_s, bkQ_n, ckb0, ckb1, ckb2, ckb3, eq_self, Nat.reduceEqDiff, Nat.reduceLeDiff, Nat.reduceLT, reduceIte, true_or, or_true, not_false_eq_true, not_true_eq_false, and_self, and_true, true_and, LIT, Int32.reduceLT, Int32.reduceLE, Int32.reduceToNatClampNeg]
  unfold inB
  by_cases h1 : y < 0
  · rw [if_pos h1, decide_eq_false (fun q => absurd h1 (Int32.not_lt.mpr q.1))]; rfl
  · rw [if_neg h1]
    by_cases h2 : 2999 < y
    · rw [if_pos h2, decide_eq_false (fun q => absurd h2 (Int32.not_lt.mpr q.2))]; rfl
    · rw [if_neg h2, decide_eq_true ⟨Int32.not_lt.mp h1, Int32.not_lt.mp h2⟩]; rfl
theorem p_isStateC {D : Nat} (hD : 1 ≤ D) (y : Int32) (M : ej_Mem) : cal D jm_Suit_isState [.int y] M = some (some (.int (b2i (inB y 0 16777215))), M) := by
  obtain ⟨d, rfl⟩ : ∃ d, D = d + 1 := ⟨D - 1, by omega⟩
  rw [ca_Suit_isState, eq_Suit_isState_0]
  simp only [MR, ckk_T, deR_s, deQ_s, deQ_n, bkV_s, bkI_s, bkJ_s, bkQ_s, bkQ_n, ckb0, ckb1, ckb2, ckb3, eq_self, Nat.reduceEqDiff, Nat.reduceLeDiff, Nat.reduceLT, reduceIte, true_or, or_true, not_false_eq_true, not_true_eq_false, and_self, and_true, true_and, LIT, Int32.reduceLT, Int32.reduceLE, Int32.reduceToNatClampNeg]
  unfold inB
  by_cases h1 : y < 0
  · rw [if_pos h1, decide_eq_false (fun q => absurd h1 (Int32.not_lt.mpr q.1))]; rfl
  · rw [if_neg h1]
    by_cases h2 : 16777215 < y
    · rw [if_pos h2, decide_eq_false (fun q => absurd h2 (Int32.not_lt.mpr q.2))]; rfl
    · rw [if_neg h2, decide_eq_true ⟨Int32.not_lt.mp h1, Int32.not_lt.mp h2⟩]; rfl
theorem VOK.le {V : View} (h : VOK V) {k : Nat} (hk : k < 4) : vN V k ≤ 40 := Nat.le_trans (h.1 k hk) mst_le
/-- a writ of the land, by its number: there, or null -/
theorem KC.writ {D : Nat} (hD : 1 ≤ D) {M : ej_Mem} {own : Nat → Nat} {V : View} (h : KC M own V) {k : Int32} {kn : Nat} (hk : k = nI kn) (hk4 : kn < 4) (x : Int32) :
    (hasB (vN V kn) x = false ∧ cal D jm_Land_writ [.ref 68, .int k, .int x] M = some (some .null, M)) ∨
    ∃ i, i < vN V kn ∧ x = nI i ∧ hasB (vN V kn) x = true ∧ cal D jm_Land_writ [.ref 68, .int k, .int x] M = some (some (.ref (wL M 68 kn i)), M) ∧ WA M (wL M 68 kn i) := by
  obtain ⟨h1, h2, h3, h4, h5, h6, h7, _⟩ := h
  have hl := h7.le hk4
  have hn := h6.2.2.1 kn hk4
  cases hb : hasB (vN V kn) x
  · left
    exact ⟨rfl, p_writ_n hD h6.1 h6.2.1 hk hk4 (by rw [hn]; exact hb)⟩
  · right
    obtain ⟨i, hi, e⟩ := (hasB_iff (by omega)).mp hb
    subst e
    refine ⟨i, hi, rfl, rfl, p_writ_s hD h2 h6.1 h6.2.1 hk hk4 (by rw [hn]; exact hi), ((h6.2.1 kn hk4).2.2 i (by rw [hn]; exact hi)).2⟩
def a_first (V : View) (g : Int32) : Int32 := if hasB (vN V 1) g = true then tGv (vT V 1 g.toNatClampNeg) else -1
def a_wished (V : View) (w s : Int32) : Int32 := if (hasB (vN V 2) w && inB s 0 16777215) = true then b2i (tTs (vT V 2 w.toNatClampNeg) s) else -1
def a_after (V : View) (m s : Int32) : Int32 := if (hasB (vN V 0) m && inB s 0 16777215) = true then vCh V m.toNatClampNeg s else -1
def a_turned (V : View) (m s : Int32) : Int32 := if (hasB (vN V 0) m && inB s 0 16777215) = true then tTu (vT V 0 m.toNatClampNeg) s else -1
theorem c_first {D : Nat} (hD : 4 ≤ D) {M : ej_Mem} {own : Nat → Nat} {V : View} (h : KC M own V) (g : Int32) : cal D jm_Suit_first [.ref 59, .int g] M = some (some (.int (a_first V g)), M) := by
  obtain ⟨d, rfl⟩ : ∃ d, D = d + 1 := ⟨D - 1, by omega⟩
  rw [ca_Suit_first, eq_Suit_first_0]
  simp only [SW.all h.1, MR, ckk_T, deR_s, deQ_s, deQ_n, bkV_s, bkI_s, bkJ_s, bkQ_s, bkQ_n, ckb0, ckb1, ckb2, ckb3, eq_self, Nat.reduceEqDiff, Nat.reduceLeDiff, Nat.reduceLT, reduceIte, true_or, or_true, not_false_eq_true, not_true_eq_false, and_self, and_true, true_and, LIT, Int32.reduceLT, Int32.reduceLE, Int32.reduceToNatClampNeg]
  unfold a_first
  have hl := h.2.2.2.2.2.2.1.le (show 1 < 4 by decide)
  rcases h.writ (by omega : 1 ≤ d) ks1 (by decide) g with ⟨hb, e⟩ | ⟨i, hi, rfl, hb, e, hw⟩
  · rw [e, hb]; rfl
  · rw [e, hb, if_pos rfl, nI_clamp (by omega)]
    simp only [hw.1, MR, ckk_T, deR_s, deQ_s, deQ_n, bkV_s, bkI_s, bkJ_s, bkQ_s, bkQ_n, ckb0, ckb1, ckb2, ckb3, eq_self, Nat.reduceEqDiff, Nat.reduceLeDiff, Nat.reduceLT, reduceIte, true_or, or_true, not_false_eq_true, not_true_eq_false, and_self, and_true, true_and, LIT, Int32.reduceLT, Int32.reduceLE, Int32.reduceToNatClampNeg]
    rw [firstC_v h.2.2.2.2.2.1 hi]
theorem c_wished {D : Nat} (hD : 4 ≤ D) {M : ej_Mem} {own : Nat → Nat} {V : View} (h : KC M own V) (w s : Int32) : cal D jm_Suit_wished [.ref 59, .int w, .int s] M = some (some (.int (a_wished V w s)), M) := by
  obtain ⟨d, rfl⟩ : ∃ d, D = d + 1 := ⟨D - 1, by omega⟩
  rw [ca_Suit_wished, eq_Suit_wished_0]
  simp only [SW.all h.1, MR, ckk_T, deR_s, deQ_s, deQ_n, bkV_s, bkI_s, bkJ_s, bkQ_s, bkQ_n, ckb0, ckb1, ckb2, ckb3, eq_self, Nat.reduceEqDiff, Nat.reduceLeDiff, Nat.reduceLT, reduceIte, true_or, or_true, not_false_eq_true, not_true_eq_false, and_self, and_true, true_and, LIT, Int32.reduceLT, Int32.reduceLE, Int32.reduceToNatClampNeg]
  unfold a_wished
  have hl := h.2.2.2.2.2.2.1.le (show 2 < 4 by decide)
  rcases h.writ (by omega : 1 ≤ d) ks2 (by decide) w with ⟨hb, e⟩ | ⟨i, hi, rfl, hb, e, hw⟩
  · rw [e, hb]; rfl
  · rw [e, hb]
    simp only [MR, ckk_T, deR_s, deQ_s, deQ_n, bkV_s, bkI_s, bkJ_s, bkQ_s, bkQ_n, ckb0, ckb1, ckb2, ckb3, eq_self, Nat.reduceEqDiff, Nat.reduceLeDiff, Nat.reduceLT, reduceIte, true_or, or_true, not_false_eq_true, not_true_eq_false, and_self, and_true, true_and, LIT, Int32.reduceLT, Int32.reduceLE, Int32.reduceToNatClampNeg]
    rw [p_isStateC (by omega)]
    cases hs : inB s 0 16777215
    · rfl
    · simp only [MR, ckk_T, deR_s, deQ_s, deQ_n, bkV_s, bkI_s, bkJ_s, bkQ_s, bkQ_n, ckb0, ckb1, ckb2, ckb3, eq_self, Nat.reduceEqDiff, Nat.reduceLeDiff, Nat.reduceLT, reduceIte, true_or, or_true, not_false_eq_true, not_true_eq_false, and_self, and_true, true_and, LIT, Int32.reduceLT, Int32.reduceLE, Int32.reduceToNatClampNeg, b2i_t]
      rw [Bool.true_and, if_pos rfl, nI_clamp (by omega), p_isTrueC (by omega) hw hw.ent, h.2.2.2.2.2.1.tst (by decide) hi]
      simp only [hw.1, MR, ckk_T, deR_s, deQ_s, deQ_n, bkV_s, bkI_s, bkJ_s, bkQ_s, bkQ_n, ckb0, ckb1, ckb2, ckb3, eq_self, Nat.reduceEqDiff, Nat.reduceLeDiff, Nat.reduceLT, reduceIte, true_or, or_true, not_false_eq_true, not_true_eq_false, and_self, and_true, true_and, LIT, Int32.reduceLT, Int32.reduceLE, Int32.reduceToNatClampNeg]
      cases tTs (vT V 2 i) s <;> rfl
theorem c_after {D : Nat} (hD : 4 ≤ D) {M : ej_Mem} {own : Nat → Nat} {V : View} (h : KC M own V) (m s : Int32) : cal D jm_Suit_after [.ref 59, .int m, .int s] M = some (some (.int (a_after V m s)), M) := by
  obtain ⟨d, rfl⟩ : ∃ d, D = d + 1 := ⟨D - 1, by omega⟩
  rw [ca_Suit_after, eq_Suit_after_0]
  simp only [SW.all h.1, MR, ckk_T, deR_s, deQ_s, deQ_n, bkV_s, bkI_s, bkJ_s, bkQ_s, bkQ_n, ckb0, ckb1, ckb2, ckb3, eq_self, Nat.reduceEqDiff, Nat.reduceLeDiff, Nat.reduceLT, reduceIte, true_or, or_true, not_false_eq_true, not_true_eq_false, and_self, and_true, true_and, LIT, Int32.reduceLT, Int32.reduceLE, Int32.reduceToNatClampNeg]
  unfold a_after
  have hl := h.2.2.2.2.2.2.1.le (show 0 < 4 by decide)
  rcases h.writ (by omega : 1 ≤ d) ks0 (by decide) m with ⟨hb, e⟩ | ⟨i, hi, rfl, hb, e, hw⟩
  · rw [e, hb]; rfl
  · rw [e, hb]
    simp only [MR, ckk_T, deR_s, deQ_s, deQ_n, bkV_s, bkI_s, bkJ_s, bkQ_s, bkQ_n, ckb0, ckb1, ckb2, ckb3, eq_self, Nat.reduceEqDiff, Nat.reduceLeDiff, Nat.reduceLT, reduceIte, true_or, or_true, not_false_eq_true, not_true_eq_false, and_self, and_true, true_and, LIT, Int32.reduceLT, Int32.reduceLE, Int32.reduceToNatClampNeg]
    rw [p_isStateC (by omega)]
    cases hs : inB s 0 16777215
    · rfl
    · simp only [MR, ckk_T, deR_s, deQ_s, deQ_n, bkV_s, bkI_s, bkJ_s, bkQ_s, bkQ_n, ckb0, ckb1, ckb2, ckb3, eq_self, Nat.reduceEqDiff, Nat.reduceLeDiff, Nat.reduceLT, reduceIte, true_or, or_true, not_false_eq_true, not_true_eq_false, and_self, and_true, true_and, LIT, Int32.reduceLT, Int32.reduceLE, Int32.reduceToNatClampNeg, b2i_t]
      rw [Bool.true_and, if_pos rfl, nI_clamp (by omega), p_changed (by omega) hw.1]
      simp only [hw.1, MR, ckk_T, deR_s, deQ_s, deQ_n, bkV_s, bkI_s, bkJ_s, bkQ_s, bkQ_n, ckb0, ckb1, ckb2, ckb3, eq_self, Nat.reduceEqDiff, Nat.reduceLeDiff, Nat.reduceLT, reduceIte, true_or, or_true, not_false_eq_true, not_true_eq_false, and_self, and_true, true_and, LIT, Int32.reduceLT, Int32.reduceLE, Int32.reduceToNatClampNeg]
      rw [← chC_v h.2.2.2.2.2.1 hi]; rfl
theorem c_turned {D : Nat} (hD : 4 ≤ D) {M : ej_Mem} {own : Nat → Nat} {V : View} (h : KC M own V) (m s : Int32) : cal D jm_Suit_turned [.ref 59, .int m, .int s] M = some (some (.int (a_turned V m s)), M) := by
  obtain ⟨d, rfl⟩ : ∃ d, D = d + 1 := ⟨D - 1, by omega⟩
  rw [ca_Suit_turned, eq_Suit_turned_0]
  simp only [SW.all h.1, MR, ckk_T, deR_s, deQ_s, deQ_n, bkV_s, bkI_s, bkJ_s, bkQ_s, bkQ_n, ckb0, ckb1, ckb2, ckb3, eq_self, Nat.reduceEqDiff, Nat.reduceLeDiff, Nat.reduceLT, reduceIte, true_or, or_true, not_false_eq_true, not_true_eq_false, and_self, and_true, true_and, LIT, Int32.reduceLT, Int32.reduceLE, Int32.reduceToNatClampNeg]
  unfold a_turned
  have hl := h.2.2.2.2.2.2.1.le (show 0 < 4 by decide)
  rcases h.writ (by omega : 1 ≤ d) ks0 (by decide) m with ⟨hb, e⟩ | ⟨i, hi, rfl, hb, e, hw⟩
  · rw [e, hb]; rfl
  · rw [e, hb]
    simp only [MR, ckk_T, deR_s, deQ_s, deQ_n, bkV_s, bkI_s, bkJ_s, bkQ_s, bkQ_n, ckb0, ckb1, ckb2, ckb3, eq_self, Nat.reduceEqDiff, Nat.reduceLeDiff, Nat.reduceLT, reduceIte, true_or, or_true, not_false_eq_true, not_true_eq_false, and_self, and_true, true_and, LIT, Int32.reduceLT, Int32.reduceLE, Int32.reduceToNatClampNeg]
    rw [p_isStateC (by omega)]
    cases hs : inB s 0 16777215
    · rfl
    · simp only [MR, ckk_T, deR_s, deQ_s, deQ_n, bkV_s, bkI_s, bkJ_s, bkQ_s, bkQ_n, ckb0, ckb1, ckb2, ckb3, eq_self, Nat.reduceEqDiff, Nat.reduceLeDiff, Nat.reduceLT, reduceIte, true_or, or_true, not_false_eq_true, not_true_eq_false, and_self, and_true, true_and, LIT, Int32.reduceLT, Int32.reduceLE, Int32.reduceToNatClampNeg, b2i_t]
      rw [Bool.true_and, if_pos rfl, nI_clamp (by omega), p_turnersC (by omega) hw, h.2.2.2.2.2.1.txt (by decide) hi]
      simp only [hw.1, MR, ckk_T, deR_s, deQ_s, deQ_n, bkV_s, bkI_s, bkJ_s, bkQ_s, bkQ_n, ckb0, ckb1, ckb2, ckb3, eq_self, Nat.reduceEqDiff, Nat.reduceLeDiff, Nat.reduceLT, reduceIte, true_or, or_true, not_false_eq_true, not_true_eq_false, and_self, and_true, true_and, LIT, Int32.reduceLT, Int32.reduceLE, Int32.reduceToNatClampNeg]
theorem VOK.bq {V : View} (h : VOK V) : BQ (vB V) := by
  rcases h.2.2.2.2.1 with q | q
  · exact Or.inl q
  · exact Or.inr q.1
theorem hz4 : HZ 4000 8192 19 := Or.inr ⟨rfl, rfl, rfl⟩
theorem hz5 : HZ 500 1024 22 := Or.inl ⟨rfl, rfl, rfl⟩
theorem c_sought {D : Nat} (hD : 4 ≤ D) {M : ej_Mem} {own : Nat → Nat} {V : View} (h : KC M own V) (x : Int32) : cal D jm_Suit_sought [.ref 59, .int x] M = some (some (.int (soughtV (vB V) x)), M) := by
  obtain ⟨d, rfl⟩ : ∃ d, D = d + 1 := ⟨D - 1, by omega⟩
  rw [ca_Suit_sought, eq_Suit_sought_0]
  simp only [SW.all h.1, MR, ckk_T, deR_s, deQ_s, deQ_n, bkV_s, bkI_s, bkJ_s, bkQ_s, bkQ_n, ckb0, ckb1, ckb2, ckb3, eq_self, Nat.reduceEqDiff, Nat.reduceLeDiff, Nat.reduceLT, reduceIte, true_or, or_true, not_false_eq_true, not_true_eq_false, and_self, and_true, true_and, LIT, Int32.reduceLT, Int32.reduceLE, Int32.reduceToNatClampNeg]
  obtain ⟨h4, h5, hl, h0⟩ := h.2.2.2.2.2.2.1.bq.lk
  unfold soughtV
  by_cases x0 : x < 0
  · rw [if_pos x0, if_neg, if_neg, if_neg, if_neg]
    · rintro rfl; exact absurd x0 (by decide)
    · rintro rfl; exact absurd x0 (by decide)
    · rintro rfl; exact absurd x0 (by decide)
    · rintro rfl; exact absurd x0 (by decide)
  · rw [if_neg x0]
    by_cases x3 : x ≤ 3
    · rw [if_pos x3]
      obtain ⟨j, hj, rfl⟩ := nI_of2 (n := 3) (by decide : (3 : Int32).toInt = 3) x0 x3
      rcases h.2.2.2.2.2.1.2.2.2.2.2.2.2.2.1 with ⟨e1, e2⟩ | ⟨hh, e1, H⟩
      · rw [e1, e2]
        have : j = 0 ∨ j = 1 ∨ j = 2 ∨ j = 3 := by omega
        rcases this with rfl | rfl | rfl | rfl <;> rfl
      · rw [e1]
        simp only [H.1.1, H.2.1, MR, ckk_T, deR_s, deQ_s, deQ_n, bkV_s, bkI_s, bkJ_s, bkQ_s, bkQ_n, ckb0, ckb1, ckb2, ckb3, eq_self, Nat.reduceEqDiff, Nat.reduceLeDiff, Nat.reduceLT, reduceIte, true_or, or_true, not_false_eq_true, not_true_eq_false, and_self, and_true, true_and, LIT, Int32.reduceLT, Int32.reduceLE, Int32.reduceToNatClampNeg]
        have : j = 0 ∨ j = 1 ∨ j = 2 ∨ j = 3 := by omega
        rcases this with rfl | rfl | rfl | rfl
        · rfl
        · rfl
        · rfl
        · show (bkI (cal d jm_Hunt_rowLength [.ref hh] M) fun x4 M3 => some (some (.int x4), M3)) = some (some (.int (if (vB V).2.2.2 = 2 then nI (rowOf (vB V)).length else -1)), M)
          by_cases hs : (vB V).2.2.2 = 2
          · rw [p_rowLength (by omega) hz4 H hs (h0 hs) hl, if_pos hs]; rfl
          · rw [p_rowLength_n (by omega) H h4 hs, if_neg hs]; rfl
    · rw [if_neg x3, if_neg, if_neg, if_neg, if_neg]
      · rintro rfl; exact absurd (by decide) x3
      · rintro rfl; exact absurd (by decide) x3
      · rintro rfl; exact absurd (by decide) x3
      · rintro rfl; exact absurd (by decide) x3
theorem c_row {D : Nat} (hD : 4 ≤ D) {M : ej_Mem} {own : Nat → Nat} {V : View} (h : KC M own V) (k : Int32) : cal D jm_Suit_row [.ref 59, .int k] M = some (some (.int (rowK (vB V) k)), M) := by
  obtain ⟨d, rfl⟩ : ∃ d, D = d + 1 := ⟨D - 1, by omega⟩
  obtain ⟨h4, h5, hl, h0⟩ := h.2.2.2.2.2.2.1.bq.lk
  rw [ca_Suit_row, eq_Suit_row_0]
  simp only [SW.all h.1, MR, ckk_T, deR_s, deQ_s, deQ_n, bkV_s, bkI_s, bkJ_s, bkQ_s, bkQ_n, ckb0, ckb1, ckb2, ckb3, eq_self, Nat.reduceEqDiff, Nat.reduceLeDiff, Nat.reduceLT, reduceIte, true_or, or_true, not_false_eq_true, not_true_eq_false, and_self, and_true, true_and, LIT, Int32.reduceLT, Int32.reduceLE, Int32.reduceToNatClampNeg]
  rcases h.2.2.2.2.2.1.2.2.2.2.2.2.2.2.1 with ⟨e1, e2⟩ | ⟨hh, e1, H⟩
  · rw [e1, e2]
    unfold rowK
    rw [if_neg (fun q => absurd q.1 (by decide))]
    rfl
  · rw [e1]
    simp only [H.1.1, MR, ckk_T, deR_s, deQ_s, deQ_n, bkV_s, bkI_s, bkJ_s, bkQ_s, bkQ_n, ckb0, ckb1, ckb2, ckb3, eq_self, Nat.reduceEqDiff, Nat.reduceLeDiff, Nat.reduceLT, reduceIte, true_or, or_true, not_false_eq_true, not_true_eq_false, and_self, and_true, true_and, LIT, Int32.reduceLT, Int32.reduceLE, Int32.reduceToNatClampNeg]
    rw [p_moveOfRow (by omega) hz4 H h4 (fun q => ⟨h0 q, hl⟩)]
    rfl
theorem c_met {D : Nat} (hD : 4 ≤ D) {M : ej_Mem} {own : Nat → Nat} {V : View} (h : KC M own V) (k : Int32) : cal D jm_Suit_met [.ref 59, .int k] M = some (some (.int (metV (vB V) k)), M) := by
  obtain ⟨d, rfl⟩ : ∃ d, D = d + 1 := ⟨D - 1, by omega⟩
  obtain ⟨h4, h5, hl, h0⟩ := h.2.2.2.2.2.2.1.bq.lk
  rw [ca_Suit_met, eq_Suit_met_0]
  simp only [SW.all h.1, MR, ckk_T, deR_s, deQ_s, deQ_n, bkV_s, bkI_s, bkJ_s, bkQ_s, bkQ_n, ckb0, ckb1, ckb2, ckb3, eq_self, Nat.reduceEqDiff, Nat.reduceLeDiff, Nat.reduceLT, reduceIte, true_or, or_true, not_false_eq_true, not_true_eq_false, and_self, and_true, true_and, LIT, Int32.reduceLT, Int32.reduceLE, Int32.reduceToNatClampNeg]
  unfold metV
  rcases h.2.2.2.2.2.1.2.2.2.2.2.2.2.2.1 with ⟨e1, e2⟩ | ⟨hh, e1, H⟩
  · rw [e1, e2]
    rw [if_neg]
    · rfl
    · intro q
      obtain ⟨j, hj, _⟩ := (hasB_iff (by decide)).mp q
      exact absurd hj (Nat.not_lt_zero j)
  · rw [e1]
    simp only [H.1.1, H.1.2.1, H.1.2.2, H.2.1, MR, ckk_T, deR_s, deQ_s, deQ_n, bkV_s, bkI_s, bkJ_s, bkQ_s, bkQ_n, ckb0, ckb1, ckb2, ckb3, eq_self, Nat.reduceEqDiff, Nat.reduceLeDiff, Nat.reduceLT, reduceIte, true_or, or_true, not_false_eq_true, not_true_eq_false, and_self, and_true, true_and, LIT, Int32.reduceLT, Int32.reduceLE, Int32.reduceToNatClampNeg]
    by_cases hk : hasB (vB V).1.length k = true
    · obtain ⟨j, hj, rfl⟩ := (hasB_iff (by omega)).mp hk
      rw [if_pos hk, if_neg (nI_pos (by omega)), if_pos (nI_lt hj (by omega)), ckb_n (by omega) (by decide), nI_clamp (by omega), H.2.2.2.2.1 j hj]
    · rw [if_neg hk]
      by_cases k0 : k < 0
      · rw [if_pos k0]
      · rw [if_neg k0, if_neg]
        intro q
        apply hk
        unfold hasB
        rw [decide_eq_true_iff]
        exact ⟨Int32.not_lt.mp k0, q⟩
