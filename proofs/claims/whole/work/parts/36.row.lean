/-! the row of moves that was found -/
def LK (lk : List (Nat × Nat)) (n : Nat) : Prop := ∀ i, 0 < i → i < n → (lk.getD i (0, 0)).1 < i ∧ (lk.getD i (0, 0)).2 < 40
theorem b_row_ge {lk : List (Nat × Nat)} {n : Nat} (hl : LK lk n) : ∀ (i a b : Nat), i ≤ a → i ≤ b → i < n → b_row lk a i = b_row lk b i := by
  intro i
  induction i using Nat.strongRecOn with
  | _ i ih =>
    intro a b ha hb hi
    by_cases h0 : i = 0
    · subst h0
      cases a <;> cases b <;> rfl
    · obtain ⟨a, rfl⟩ : ∃ a', a = a' + 1 := ⟨a - 1, by omega⟩
      obtain ⟨b, rfl⟩ : ∃ b', b = b' + 1 := ⟨b - 1, by omega⟩
      have h1 := hl i (by omega) hi
      unfold b_row
      rw [if_neg h0, if_neg h0, ih _ h1.1 a b (by omega) (by omega) (by omega)]
theorem b_row_s {lk : List (Nat × Nat)} {n i : Nat} (hl : LK lk n) (h0 : 0 < i) (hi : i < n) : b_row lk i i = (lk.getD i (0, 0)).2 :: b_row lk (lk.getD i (0, 0)).1 (lk.getD i (0, 0)).1 := by
  have h1 := hl i h0 hi
  obtain ⟨j, rfl⟩ : ∃ j, i = j + 1 := ⟨i - 1, by omega⟩
  have e : b_row lk (j + 1) (j + 1) = (lk.getD (j + 1) (0, 0)).2 :: b_row lk j (lk.getD (j + 1) (0, 0)).1 := by
    show (if j + 1 = 0 then [] else _) = _
    rw [if_neg (by omega)]
  rw [e, b_row_ge hl _ j _ (by omega) (Nat.le_refl _) (by omega)]
theorem b_row_len {lk : List (Nat × Nat)} : ∀ (a i : Nat), (b_row lk a i).length ≤ a
  | 0, _ => Nat.le_refl 0
  | a + 1, i => by
    unfold b_row
    split
    · exact Nat.zero_le _
    · have := b_row_len (lk := lk) a (lk.getD i (0, 0)).1
      rw [List.length_cons]; omega
theorem b_row_lt {lk : List (Nat × Nat)} {n : Nat} (hl : LK lk n) : ∀ (a i : Nat), i ≤ a → i < n → ∀ m, m ∈ b_row lk a i → m < 40
  | 0, _, _, _, _, h => by cases h
  | a + 1, i, ha, hi, m, h => by
    unfold b_row at h
    split at h
    · cases h
    · have h1 := hl i (by omega) hi
      rcases List.mem_cons.mp h with rfl | h
      · exact h1.2
      · exact b_row_lt hl a _ (by omega) (by omega) m h
/-- the moves of a row, the last one first -/
def rowOf (b : BS) : List Nat := b_row b.2.1 (b.1.length - 1) (b.1.length - 1)
theorem lk64 {f m : Nat} (hf : f < 4000) (hm : m < 40) : nI (64 * f + m) / 64 = nI f := by
  have := pk_div (a := 64 * f + m) (d := 64) (by omega) (by decide) (by decide)
  rw [show (64 * f + m) / 64 = f by omega] at this
  exact this
theorem lk64r {f m : Nat} (hf : f < 4000) (hm : m < 40) : nI (64 * f + m) - nI (64 * f + m) / 64 * 64 = nI m := by
  have := pk_rem (a := 64 * f + m) (d := 64) (by omega) (by decide) (by decide)
  rw [show (64 * f + m) % 64 = m by omega] at this
  exact this
theorem HR_lk {M : ej_Mem} {h cap N sh : Nat} {b : BS} (H : HR M h cap N sh b) {k : Nat} (hk : k < b.1.length) : aI M (h + 2) k = nI (64 * (b.2.1.getD k (0, 0)).1 + (b.2.1.getD k (0, 0)).2) := H.2.2.2.2.2.2.1 k hk
theorem rowLen_loop (cl : Nat → List Value → ej_Mem → Option ej_R) {M : ej_Mem} {h cap N sh : Nat} {b : BS} (z : HZ cap N sh) (H : HR M h cap N sh b) (hl : LK b.2.1 b.1.length) : ∀ (i j : Nat), i < b.1.length → j + i < b.1.length →
    rn jm_Hunt_rowLength cl 19 [some (.ref h), some (.int (nI j)), some (.int (nI i))] [] M = some (some (.int (nI (j + (b_row b.2.1 i i).length))), M) := by
  have hz := z.caps
  have hcap := H.2.2.1
  intro i
  induction i using Nat.strongRecOn with
  | _ i ih =>
    intro j hi hj
    rw [eq_Hunt_rowLength_19]
    by_cases h0 : i = 0
    · subst h0
      rw [if_pos (by decide)]
      rfl
    · have h1 := hl i (by omega) hi
      rw [if_neg (nI_nle (by omega) (by omega))]
      simp only [H.1.1, H.1.2.1, H.1.2.2, H.2.1, MR, ckk_T, deR_s, deQ_s, deQ_n, bkV_s, bkI_s, bkJ_s, bkQ_s, bkQ_n, ckb0, ckb1, ckb2, ckb3, eq_self, Nat.reduceEqDiff, Nat.reduceLeDiff, Nat.reduceLT, reduceIte, true_or, or_true, not_false_eq_true, not_true_eq_false, and_self, and_true, true_and, LIT, Int32.reduceLT, Int32.reduceLE, Int32.reduceToNatClampNeg]
      have h4 : cap ≤ 4000 := by rcases z with q | q <;> omega
      rw [if_neg (nI_ge (by omega) (by omega)), ckb_n (by omega) (by omega), nI_clamp (by omega), HR_lk H hi, lk64 (by omega) h1.2, nI_1, ih _ h1.1 (j + 1) (by omega) (by omega), b_row_s hl (by omega) hi]
      rw [List.length_cons, show j + 1 + (b_row b.2.1 (b.2.1.getD i (0, 0)).1 (b.2.1.getD i (0, 0)).1).length = j + ((b_row b.2.1 (b.2.1.getD i (0, 0)).1 (b.2.1.getD i (0, 0)).1).length + 1) by omega]
theorem p_rowLength {D : Nat} (hD : 1 ≤ D) {M : ej_Mem} {h cap N sh : Nat} {b : BS} (z : HZ cap N sh) (H : HR M h cap N sh b) (hs : b.2.2.2 = 2) (h0 : 0 < b.1.length) (hl : LK b.2.1 b.1.length) :
    cal D jm_Hunt_rowLength [.ref h] M = some (some (.int (nI (rowOf b).length)), M) := by
  obtain ⟨d, rfl⟩ : ∃ d, D = d + 1 := ⟨D - 1, by omega⟩
  have hz := z.caps
  have hcap := H.2.2.1
  rw [ca_Hunt_rowLength, eq_Hunt_rowLength_0]
  simp only [H.1.1, H.2.1, MR, ckk_T, deR_s, deQ_s, deQ_n, bkV_s, bkI_s, bkJ_s, bkQ_s, bkQ_n, ckb0, ckb1, ckb2, ckb3, eq_self, Nat.reduceEqDiff, Nat.reduceLeDiff, Nat.reduceLT, reduceIte, true_or, or_true, not_false_eq_true, not_true_eq_false, and_self, and_true, true_and, LIT, Int32.reduceLT, Int32.reduceLE, Int32.reduceToNatClampNeg]
  rw [if_pos (show nI b.2.2.2 = 2 by rw [hs]; rfl), nI_m1 (by omega)]
  have L := rowLen_loop (cal d) z H hl (b.1.length - 1) 0 (by omega) (by omega)
  rw [Nat.zero_add] at L
  exact L
theorem p_rowLength_n {D : Nat} (hD : 1 ≤ D) {M : ej_Mem} {h cap N sh : Nat} {b : BS} (H : HR M h cap N sh b) (h4 : b.2.2.2 ≤ 4) (hs : b.2.2.2 ≠ 2) :
    cal D jm_Hunt_rowLength [.ref h] M = some (some (.int (-1)), M) := by
  obtain ⟨d, rfl⟩ : ∃ d, D = d + 1 := ⟨D - 1, by omega⟩
  rw [ca_Hunt_rowLength, eq_Hunt_rowLength_0]
  simp only [H.1.1, H.2.1, MR, ckk_T, deR_s, deQ_s, deQ_n, bkV_s, bkI_s, bkJ_s, bkQ_s, bkQ_n, ckb0, ckb1, ckb2, ckb3, eq_self, Nat.reduceEqDiff, Nat.reduceLeDiff, Nat.reduceLT, reduceIte, true_or, or_true, not_false_eq_true, not_true_eq_false, and_self, and_true, true_and, LIT, Int32.reduceLT, Int32.reduceLE, Int32.reduceToNatClampNeg]
  have : ¬ nI b.2.2.2 = 2 := fun q => hs ((st_eq h4 (by decide)).mp q)
  rw [if_neg this]
theorem moveRow_loop (cl : Nat → List Value → ej_Mem → Option ej_R) {M : ej_Mem} {h cap N sh : Nat} {b : BS} (z : HZ cap N sh) (H : HR M h cap N sh b) (hl : LK b.2.1 b.1.length) (l1 : Int32) {bh : Nat} (hb : bh < 2 ^ 31) : ∀ (r k i : Nat), k + r = bh → i < b.1.length → r < (b_row b.2.1 i i).length →
    rn jm_Hunt_moveOfRow cl 27 [some (.ref h), some (.int l1), some (.int (nI bh)), some (.int (nI i)), some (.int (nI k))] [] M = some (some (.int (nI ((b_row b.2.1 i i).getD r 0))), M)
  | 0, k, i, hk, hi, hr => by
    have hz := z.caps
    have hcap := H.2.2.1
    have h4 : cap ≤ 4000 := by rcases z with q | q <;> omega
    have h0 : 0 < i := by
      rcases Nat.eq_zero_or_pos i with rfl | q
      · exact absurd hr (Nat.lt_irrefl 0)
      · exact q
    have h1 := hl i h0 hi
    rw [eq_Hunt_moveOfRow_27, if_pos (nI_le (by omega) (by omega)), if_neg (nI_nle h0 (by omega))]
    simp only [H.1.1, H.1.2.1, H.1.2.2, H.2.1, MR, ckk_T, deR_s, deQ_s, deQ_n, bkV_s, bkI_s, bkJ_s, bkQ_s, bkQ_n, ckb0, ckb1, ckb2, ckb3, eq_self, Nat.reduceEqDiff, Nat.reduceLeDiff, Nat.reduceLT, reduceIte, true_or, or_true, not_false_eq_true, not_true_eq_false, and_self, and_true, true_and, LIT, Int32.reduceLT, Int32.reduceLE, Int32.reduceToNatClampNeg]
    rw [ckb_n (by omega) (by omega), nI_clamp (by omega), HR_lk H hi, lk64r (by omega) h1.2, b_row_s hl h0 hi]
    rfl
  | r + 1, k, i, hk, hi, hr => by
    have hz := z.caps
    have hcap := H.2.2.1
    have h4 : cap ≤ 4000 := by rcases z with q | q <;> omega
    have h0 : 0 < i := by
      rcases Nat.eq_zero_or_pos i with rfl | q
      · exact absurd hr (Nat.not_lt_zero _)
      · exact q
    have h1 := hl i h0 hi
    rw [eq_Hunt_moveOfRow_27, if_neg (nI_ge (by omega) (by omega)), if_neg (nI_nle h0 (by omega))]
    simp only [H.1.1, H.1.2.1, H.1.2.2, H.2.1, MR, ckk_T, deR_s, deQ_s, deQ_n, bkV_s, bkI_s, bkJ_s, bkQ_s, bkQ_n, ckb0, ckb1, ckb2, ckb3, eq_self, Nat.reduceEqDiff, Nat.reduceLeDiff, Nat.reduceLT, reduceIte, true_or, or_true, not_false_eq_true, not_true_eq_false, and_self, and_true, true_and, LIT, Int32.reduceLT, Int32.reduceLE, Int32.reduceToNatClampNeg]
    rw [b_row_s hl h0 hi] at hr ⊢
    rw [ckb_n (by omega) (by omega), nI_clamp (by omega), HR_lk H hi, lk64 (by omega) h1.2, nI_1, moveRow_loop cl z H hl l1 hb r (k + 1) _ (by omega) (by omega) (by simpa using hr)]
    rfl
def rowK (b : BS) (k : Int32) : Int32 := if b.2.2.2 = 2 ∧ hasB (rowOf b).length k = true then nI ((rowOf b).getD ((rowOf b).length - 1 - k.toNatClampNeg) 0) else -1
theorem rowOf_le {b : BS} {cap : Nat} (h : b.1.length ≤ cap) : (rowOf b).length ≤ cap := by
  have := b_row_len (lk := b.2.1) (b.1.length - 1) (b.1.length - 1)
  unfold rowOf
  omega
theorem p_moveOfRow {D : Nat} (hD : 2 ≤ D) {M : ej_Mem} {h cap N sh : Nat} {b : BS} (z : HZ cap N sh) (H : HR M h cap N sh b) (hst : b.2.2.2 ≤ 4) (h0 : b.2.2.2 = 2 → 0 < b.1.length ∧ LK b.2.1 b.1.length) (k : Int32) :
    cal D jm_Hunt_moveOfRow [.ref h, .int k] M = some (some (.int (rowK b k)), M) := by
  obtain ⟨d, rfl⟩ : ∃ d, D = d + 1 := ⟨D - 1, by omega⟩
  have hz := z.caps
  have hcap := H.2.2.1
  have hr := rowOf_le hcap
  rw [ca_Hunt_moveOfRow, eq_Hunt_moveOfRow_0]
  simp only [H.1.1, MR, ckk_T, deR_s, deQ_s, deQ_n, bkV_s, bkI_s, bkJ_s, bkQ_s, bkQ_n, ckb0, ckb1, ckb2, ckb3, eq_self, Nat.reduceEqDiff, Nat.reduceLeDiff, Nat.reduceLT, reduceIte, true_or, or_true, not_false_eq_true, not_true_eq_false, and_self, and_true, true_and, LIT, Int32.reduceLT, Int32.reduceLE, Int32.reduceToNatClampNeg]
  unfold rowK
  by_cases hs : b.2.2.2 = 2
  · obtain ⟨hp, hl⟩ := h0 hs
    rw [p_rowLength (by omega) z H hs hp hl]
    simp only [H.1.1, H.2.1, MR, ckk_T, deR_s, deQ_s, deQ_n, bkV_s, bkI_s, bkJ_s, bkQ_s, bkQ_n, ckb0, ckb1, ckb2, ckb3, eq_self, Nat.reduceEqDiff, Nat.reduceLeDiff, Nat.reduceLT, reduceIte, true_or, or_true, not_false_eq_true, not_true_eq_false, and_self, and_true, true_and, LIT, Int32.reduceLT, Int32.reduceLE, Int32.reduceToNatClampNeg]
    by_cases hk : k < 0
    · rw [if_pos hk, if_neg]
      rintro ⟨_, q⟩
      unfold hasB at q
      rw [decide_eq_true_iff] at q
      exact absurd q.1 (Int32.not_le.mpr hk)
    · rw [if_neg hk]
      obtain ⟨j, hj, rfl⟩ := nI_of hk
      rw [nI_clamp hj]
      by_cases hj2 : j < (rowOf b).length
      · rw [pk_sub (by omega), if_pos (show 0 < nI ((rowOf b).length - j) from by rw [← nI_0]; exact nI_lt (by omega) (by omega)), nI_m1 (by omega), if_pos ⟨hs, (hasB_iff (by omega)).mpr ⟨j, hj2, rfl⟩⟩]
        have L := moveRow_loop (cal d) z H hl (nI j) (bh := (rowOf b).length - j) (by omega) ((rowOf b).length - j - 1) 1 (b.1.length - 1) (by omega) (by omega) (by show _ < (rowOf b).length; omega)
        rw [show (rowOf b).length - 1 - j = (rowOf b).length - j - 1 by omega]
        exact L
      · have hneg : ¬ (0 : Int32) < nI (rowOf b).length - nI j := by
          rw [Int32.lt_iff_toInt_lt]
          have e1 := nI_toInt hj
          have e2 := nI_toInt (by omega : (rowOf b).length < 2 ^ 31)
          rw [Int32.toInt_sub, e1, e2]
          have : ((rowOf b).length : Int) - (j : Int) ≤ 0 := by omega
          have h2 : (-(2 : Int) ^ 31) ≤ ((rowOf b).length : Int) - (j : Int) := by omega
          rw [Int.bmod_eq_of_le (by omega) (by omega)]
          show ¬ (0 : Int) < _
          omega
        rw [if_neg hneg, if_neg]
        rintro ⟨_, q⟩
        obtain ⟨j', hj', e⟩ := (hasB_iff (by omega)).mp q
        have := (nI_eq hj (by omega)).mp e
        omega
  · rw [p_rowLength_n (by omega) H hst hs, if_neg (fun q => hs q.1)]
    simp only [H.1.1, H.2.1, MR, ckk_T, deR_s, deQ_s, deQ_n, bkV_s, bkI_s, bkJ_s, bkQ_s, bkQ_n, ckb0, ckb1, ckb2, ckb3, eq_self, Nat.reduceEqDiff, Nat.reduceLeDiff, Nat.reduceLT, reduceIte, true_or, or_true, not_false_eq_true, not_true_eq_false, and_self, and_true, true_and, LIT, Int32.reduceLT, Int32.reduceLE, Int32.reduceToNatClampNeg]
    by_cases hk : k < 0
    · rw [if_pos hk]
    · rw [if_neg hk]
      obtain ⟨j, hj, rfl⟩ := nI_of hk
      have hneg : ¬ (0 : Int32) < -1 - nI j := by
        rw [Int32.lt_iff_toInt_lt, Int32.toInt_sub, nI_toInt hj]
        have e : (-1 : Int32).toInt = -1 := by decide
        rw [e, Int.bmod_eq_of_le (by omega) (by omega)]
        show ¬ (0 : Int) < _
        omega
      rw [if_neg hneg]
theorem movesRow_loop (cl : Nat → List Value → ej_Mem → Option ej_R) {M : ej_Mem} {h cap N sh : Nat} {b : BS} (z : HZ cap N sh) (H : HR M h cap N sh b) (hl : LK b.2.1 b.1.length) : ∀ (i j : Nat) (acc : Int64), i < b.1.length → j + i < b.1.length →
    ∃ x, rn jm_Hunt_movesOfRow cl 12 [some (.ref h), some (.long acc), none, some (.int (nI i)), some (.int (nI j))] [] M = some (some (.long x), M) ∧ ∀ k, k < 64 → bJ x k = (bJ acc k || decide (k ∈ b_row b.2.1 i i)) := by
  have hz := z.caps
  have hcap := H.2.2.1
  have h4 : cap ≤ 4000 := by rcases z with q | q <;> omega
  intro i
  induction i using Nat.strongRecOn with
  | _ i ih =>
    intro j acc hi hj
    rw [eq_Hunt_movesOfRow_12]
    simp only [H.1.1, H.2.1, MR, ckk_T, deR_s, deQ_s, deQ_n, bkV_s, bkI_s, bkJ_s, bkQ_s, bkQ_n, ckb0, ckb1, ckb2, ckb3, eq_self, Nat.reduceEqDiff, Nat.reduceLeDiff, Nat.reduceLT, reduceIte, true_or, or_true, not_false_eq_true, not_true_eq_false, and_self, and_true, true_and, LIT, Int32.reduceLT, Int32.reduceLE, Int32.reduceToNatClampNeg]
    rw [if_neg (nI_ge (by omega) (by omega)), eq_Hunt_movesOfRow_21]
    by_cases h0 : i = 0
    · subst h0
      rw [if_pos (by decide), eq_Hunt_movesOfRow_55]
      refine ⟨acc, rfl, fun k _ => ?_⟩
      simp [b_row]
    · have h1 := hl i (by omega) hi
      rw [if_neg (nI_nle (by omega) (by omega)), eq_Hunt_movesOfRow_25, eq_Hunt_movesOfRow_27]
      simp only [H.1.1, H.1.2.1, H.1.2.2, H.2.1, MR, ckk_T, deR_s, deQ_s, deQ_n, bkV_s, bkI_s, bkJ_s, bkQ_s, bkQ_n, ckb0, ckb1, ckb2, ckb3, eq_self, Nat.reduceEqDiff, Nat.reduceLeDiff, Nat.reduceLT, reduceIte, true_or, or_true, not_false_eq_true, not_true_eq_false, and_self, and_true, true_and, LIT, Int32.reduceLT, Int32.reduceLE, Int32.reduceToNatClampNeg]
      rw [ckb_n (by omega) (by omega), nI_clamp (by omega), HR_lk H hi, eq_Hunt_movesOfRow_33, eq_Hunt_movesOfRow_35, ckk_t (by decide), lk64r (by omega) h1.2, eq_Hunt_movesOfRow_36, eq_Hunt_movesOfRow_37]
      simp only [H.1.1, H.1.2.1, H.1.2.2, H.2.1, MR, ckk_T, deR_s, deQ_s, deQ_n, bkV_s, bkI_s, bkJ_s, bkQ_s, bkQ_n, ckb0, ckb1, ckb2, ckb3, eq_self, Nat.reduceEqDiff, Nat.reduceLeDiff, Nat.reduceLT, reduceIte, true_or, or_true, not_false_eq_true, not_true_eq_false, and_self, and_true, true_and, LIT, Int32.reduceLT, Int32.reduceLE, Int32.reduceToNatClampNeg]
      rw [ckb_n (by omega) (by omega), nI_clamp (by omega), HR_lk H hi, eq_Hunt_movesOfRow_45, eq_Hunt_movesOfRow_47, ckk_t (by decide), lk64 (by omega) h1.2, eq_Hunt_movesOfRow_48, nI_1]
      obtain ⟨x, e, hx⟩ := ih _ h1.1 (j + 1) (acc ||| ej_ls 0 1 (nI (b.2.1.getD i (0, 0)).2)) (by omega) (by omega)
      refine ⟨x, e, fun k hk => ?_⟩
      rw [hx k hk, bJ_or, bJ_shl (by omega) hk, b_row_s hl (by omega) hi]
      by_cases q : k = (b.2.1.getD i (0, 0)).2
      · rw [decide_eq_true q, decide_eq_true (List.mem_cons.mpr (Or.inl q))]; simp
      · have : (k ∈ (b.2.1.getD i (0, 0)).2 :: b_row b.2.1 (b.2.1.getD i (0, 0)).1 (b.2.1.getD i (0, 0)).1) ↔ k ∈ b_row b.2.1 (b.2.1.getD i (0, 0)).1 (b.2.1.getD i (0, 0)).1 := by
          rw [List.mem_cons]
          exact ⟨fun y => y.resolve_left q, Or.inr⟩
        rw [decide_eq_false q, Bool.or_false, decide_eq_decide.mpr this]
theorem p_movesOfRow {D : Nat} (hD : 1 ≤ D) {M : ej_Mem} {h cap N sh : Nat} {b : BS} (z : HZ cap N sh) (H : HR M h cap N sh b) (h0 : 0 < b.1.length) (hl : LK b.2.1 b.1.length) :
    ∃ x, cal D jm_Hunt_movesOfRow [.ref h] M = some (some (.long x), M) ∧ ∀ k, k < 64 → bJ x k = decide (k ∈ rowOf b) := by
  obtain ⟨d, rfl⟩ : ∃ d, D = d + 1 := ⟨D - 1, by omega⟩
  rw [ca_Hunt_movesOfRow, eq_Hunt_movesOfRow_0]
  simp only [H.1.1, H.2.1, MR, ckk_T, deR_s, deQ_s, deQ_n, bkV_s, bkI_s, bkJ_s, bkQ_s, bkQ_n, ckb0, ckb1, ckb2, ckb3, eq_self, Nat.reduceEqDiff, Nat.reduceLeDiff, Nat.reduceLT, reduceIte, true_or, or_true, not_false_eq_true, not_true_eq_false, and_self, and_true, true_and, LIT, Int32.reduceLT, Int32.reduceLE, Int32.reduceToNatClampNeg]
  rw [nI_m1 (by omega)]
  obtain ⟨x, e, hx⟩ := movesRow_loop (cal d) z H hl (b.1.length - 1) 0 0 (by omega) (by omega)
  refine ⟨x, e, fun k hk => ?_⟩
  rw [hx k hk, bJ_0, Bool.false_or]
  rfl
