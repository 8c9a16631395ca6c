theorem RoomS.refl (M : ej_Mem) : RoomS M M := Or.inl ⟨rfl, rfl, rfl⟩
theorem c_search {D : Nat} (hD : 6 ≤ D) {M : ej_Mem} {own : Nat → Nat} {V : View} (h : KC M own V) (g w y s : Int32) : ∃ M' own', cal D jm_Suit_search [.ref 59, .int g, .int w, .int y, .int s] M = some (some (.int (a_search V g w y s)), M') ∧ FrG (P2 own) M M' ∧ KC M' own' (u_search V g w y s) ∧ (∀ o, o < mZ M → own' o = own o) ∧ RoomS M M' := by
  obtain ⟨d, rfl⟩ : ∃ d, D = d + 1 := ⟨D - 1, by omega⟩
  have hV := h.2.2.2.2.2.2.1
  have hv := h.2.2.2.2.2.1
  have l1 := hV.le (show 1 < 4 by decide)
  have l2 := hV.le (show 2 < 4 by decide)
  rw [ca_Suit_search, eq_Suit_search_0]
  simp only [SW.all h.1, MR, ckk_T, deR_s, deQ_s, deQ_n, bkV_s, bkI_s, bkJ_s, bkQ_s, bkQ_n, ckb0, ckb1, ckb2, ckb3, eq_self, Nat.reduceEqDiff, Nat.reduceLeDiff, Nat.reduceLT, reduceIte, true_or, or_true, not_false_eq_true, not_true_eq_false, and_self, and_true, true_and, LIT, Int32.reduceLT, Int32.reduceLE, Int32.reduceToNatClampNeg]
  unfold a_search u_search
  have no : seV V g w y s = false → ∃ M' own', (some (some (Value.int 0), M) : Option ej_R) = some (some (.int (b2i (seV V g w y s))), M') ∧ FrG (P2 own) M M' ∧ KC M' own' (if seV V g w y s = true then setVB V (newB V g.toNatClampNeg w.toNatClampNeg s) g.toNatClampNeg w.toNatClampNeg y else V) ∧ (∀ o, o < mZ M → own' o = own o) ∧ RoomS M M' := by
    intro e
    rw [e]
    exact ⟨M, own, rfl, FrG.refl _ M, h, fun _ _ => rfl, RoomS.refl M⟩
  rcases h.writ (by omega : 1 ≤ d) ks1 (by decide) g with ⟨hb, e⟩ | ⟨gi, hgi, rfl, hb, e, hwg⟩
  · have n := no (by unfold seV seOK; rw [hb]; rfl)
    rw [e]
    simp only [SW.all h.1, MR, ckk_T, deR_s, deQ_s, deQ_n, bkV_s, bkI_s, bkJ_s, bkQ_s, bkQ_n, ckb0, ckb1, ckb2, ckb3, eq_self, Nat.reduceEqDiff, Nat.reduceLeDiff, Nat.reduceLT, reduceIte, true_or, or_true, not_false_eq_true, not_true_eq_false, and_self, and_true, true_and, LIT, Int32.reduceLT, Int32.reduceLE, Int32.reduceToNatClampNeg]
    rcases h.writ (by omega : 1 ≤ d) ks2 (by decide) w with ⟨_, e2⟩ | ⟨_, _, _, _, e2, _⟩
    · rw [e2]; exact n
    · rw [e2]; exact n
  · rw [e]
    simp only [SW.all h.1, MR, ckk_T, deR_s, deQ_s, deQ_n, bkV_s, bkI_s, bkJ_s, bkQ_s, bkQ_n, ckb0, ckb1, ckb2, ckb3, eq_self, Nat.reduceEqDiff, Nat.reduceLeDiff, Nat.reduceLT, reduceIte, true_or, or_true, not_false_eq_true, not_true_eq_false, and_self, and_true, true_and, LIT, Int32.reduceLT, Int32.reduceLE, Int32.reduceToNatClampNeg]
    rcases h.writ (by omega : 1 ≤ d) ks2 (by decide) w with ⟨hb2, e2⟩ | ⟨wi, hwi, rfl, hb2, e2, hww⟩
    · rw [e2]; exact no (by unfold seV seOK; rw [hb2, Bool.false_and, Bool.and_false])
    · rw [e2]
      simp only [SW.all h.1, MR, ckk_T, deR_s, deQ_s, deQ_n, bkV_s, bkI_s, bkJ_s, bkQ_s, bkQ_n, ckb0, ckb1, ckb2, ckb3, eq_self, Nat.reduceEqDiff, Nat.reduceLeDiff, Nat.reduceLT, reduceIte, true_or, or_true, not_false_eq_true, not_true_eq_false, and_self, and_true, true_and, LIT, Int32.reduceLT, Int32.reduceLE, Int32.reduceToNatClampNeg]
      rw [p_isYearC (by omega)]
      cases hy : inB y 0 2999
      · exact no (by unfold seV seOK; rw [hy, Bool.false_and, Bool.and_false, Bool.and_false])
      · simp only [SW.all h.1, MR, ckk_T, deR_s, deQ_s, deQ_n, bkV_s, bkI_s, bkJ_s, bkQ_s, bkQ_n, ckb0, ckb1, ckb2, ckb3, eq_self, Nat.reduceEqDiff, Nat.reduceLeDiff, Nat.reduceLT, reduceIte, true_or, or_true, not_false_eq_true, not_true_eq_false, and_self, and_true, true_and, LIT, Int32.reduceLT, Int32.reduceLE, Int32.reduceToNatClampNeg, b2i_t]
        have go : (s = -1 ∨ inB s 0 16777215 = true) → ∃ M' own', cal d jm_Land_beginSearch [.ref 68, .int (nI gi), .int (nI wi), .int y, .int (if s = -1 then tGv (vT V 1 gi) else s)] M = some (none, M') ∧ FrG (P2 own) M M' ∧ KC M' own' (setVB V (newB V gi wi s) gi wi y) ∧ (∀ o, o < mZ M → own' o = own o) ∧ RoomS M M' := fun hs => p_beginSearch (by omega : 5 ≤ d) h hgi hwi y _ (hV.search hgi hwi hs y)
        by_cases q : s = -1
        · obtain ⟨M', own', e3, f3, K3, o3, r3⟩ := go (Or.inl q)
          have hS : seV V (nI gi) (nI wi) y s = true := by unfold seV seOK; rw [hb, hb2, hy, decide_eq_true q]; rfl
          rw [if_pos q] at e3
          rw [if_pos q, if_pos q]
          simp only [SW.all h.1, hwg.1, firstC_v hv hgi, MR, ckk_T, deR_s, deQ_s, deQ_n, bkV_s, bkI_s, bkJ_s, bkQ_s, bkQ_n, ckb0, ckb1, ckb2, ckb3, eq_self, Nat.reduceEqDiff, Nat.reduceLeDiff, Nat.reduceLT, reduceIte, true_or, or_true, not_false_eq_true, not_true_eq_false, and_self, and_true, true_and, LIT, Int32.reduceLT, Int32.reduceLE, Int32.reduceToNatClampNeg]
          rw [e3, hS, if_pos rfl, nI_clamp (by omega), nI_clamp (by omega)]
          exact ⟨M', own', rfl, f3, K3, o3, r3⟩
        · rw [if_neg q, p_isStateC (by omega)]
          cases hs : inB s 0 16777215
          · exact no (by unfold seV seOK; rw [hs, decide_eq_false q, Bool.or_false, Bool.and_false, Bool.and_false, Bool.and_false])
          · obtain ⟨M', own', e3, f3, K3, o3, r3⟩ := go (Or.inr hs)
            have hS : seV V (nI gi) (nI wi) y s = true := by unfold seV seOK; rw [hb, hb2, hy, hs, Bool.or_true]; rfl
            rw [if_neg q] at e3
            simp only [SW.all h.1, MR, ckk_T, deR_s, deQ_s, deQ_n, bkV_s, bkI_s, bkJ_s, bkQ_s, bkQ_n, ckb0, ckb1, ckb2, ckb3, eq_self, Nat.reduceEqDiff, Nat.reduceLeDiff, Nat.reduceLT, reduceIte, true_or, or_true, not_false_eq_true, not_true_eq_false, and_self, and_true, true_and, LIT, Int32.reduceLT, Int32.reduceLE, Int32.reduceToNatClampNeg, b2i_t]
            rw [if_neg q, e3, hS, if_pos rfl, nI_clamp (by omega), nI_clamp (by omega)]
            exact ⟨M', own', rfl, f3, K3, o3, r3⟩
