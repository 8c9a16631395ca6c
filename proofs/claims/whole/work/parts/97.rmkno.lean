theorem r_mark_n {D : Nat} (hD : 2 ≤ D) {M : ej_Mem} {V : View} {mk : Nat} (h : KR M V mk) {x : Int32} (hx : inB x 0 3 = false) : cal D jm_Ref_mark [.ref 90, .int x] M = some (some (.int (-1)), M) := by
  obtain ⟨d, rfl⟩ : ∃ d, D = d + 1 := ⟨D - 1, by omega⟩
  have E := p_inI (by omega : 1 ≤ d) x 0 3 M
  rw [show Int32.toInt64 0 = 0 from by decide, show Int32.toInt64 3 = 3 from by decide, hx] at E
  rw [ca_Ref_mark, eq_Ref_mark_0, E]
  rfl
theorem r_back_n {D : Nat} (hD : 2 ≤ D) {M : ej_Mem} {V : View} {mk : Nat} (h : KR M V mk) {x : Int32} (hx : inB x 0 3 = false ∨ ∃ k, k < 4 ∧ x = nI k ∧ aI M 121 k = 0) : cal D jm_Ref_back [.ref 90, .int x] M = some (some (.int (-1)), M) := by
  obtain ⟨d, rfl⟩ : ∃ d, D = d + 1 := ⟨D - 1, by omega⟩
  have E := p_inI (by omega : 1 ≤ d) x 0 3 M
  rw [show Int32.toInt64 0 = 0 from by decide, show Int32.toInt64 3 = 3 from by decide] at E
  rw [ca_Ref_back, eq_Ref_back_0, E]
  cases hb : inB x 0 3
  · rfl
  · rcases hx with q | ⟨k, hk, rfl, ha⟩
    · rw [q] at hb; cases hb
    · simp only [RW.all h.1, MR, ckk_T, deR_s, deQ_s, deQ_n, bkV_s, bkI_s, bkJ_s, bkQ_s, bkQ_n, ckb0, ckb1, ckb2, ckb3, eq_self, Nat.reduceEqDiff, Nat.reduceLeDiff, Nat.reduceLT, reduceIte, true_or, or_true, not_false_eq_true, not_true_eq_false, and_self, and_true, true_and, LIT, Int32.reduceLT, Int32.reduceLE, Int32.reduceToNatClampNeg, b2i_t]
      rw [ckb_n (by omega) (by decide), nI_clamp (by omega), if_pos ha]
