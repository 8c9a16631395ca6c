/-! force, holds, open, roll, enter: the reference -/
theorem RV.new {V V' : View} {A B : Arr} {f g : Nat → Int32} (r : RV A f V) (h92 : ∀ k, k < 4 → B 92 k = A 92 k) (hs : ∀ k, k < 4 → ∀ i, i < vN V k → SlAg A B (pl k + i)) (n1 : vN V' = vN V ∧ vT V' = vT V) (n3 : ∀ m, m < vN V 0 → B 101 m = (vO V' m).1 ∧ B 102 m = (vO V' m).2) (n4 : g 9 = vF V') (n5 : ∀ r, r < 24 → B 103 r = vH V' r) (n6 : RlR B g V') (n7 : RGc B g (vB V')) (n8 : vB V' ≠ b_none → g 34 = nI (vG V') ∧ g 35 = nI (vW V') ∧ g 36 = vY V') : RV B g V' := by
  obtain ⟨r1, r2, r3, _⟩ := r
  have eN : ∀ k, k < 4 → rN B k = rN A k := by intro k hk; unfold rN; rw [h92 k hk]
  refine ⟨fun k hk => ?_, fun k hk => ?_, fun k hk i hi => ?_, fun m hm => ?_, n4, n5, n6, n7, n8⟩
  · obtain ⟨x, y, z⟩ := r1 k hk
    rw [eN k hk, h92 k hk]
    exact ⟨x, y, fun i hi => slOK_cg (hs k hk i (by rw [← r2 k hk]; exact hi)) (z i hi)⟩
  · rw [eN k hk, n1.1]; exact r2 k hk
  · rw [n1.1] at hi
    rw [rTx_cg hk (hs k hk i hi) ((r1 k hk).2.2 i (by rw [r2 k hk]; exact hi)), n1.2]
    exact r3 k hk i hi
  · rw [n1.1] at hm; exact n3 m hm
theorem RV.simple {V V' : View} {A B : Arr} {f g : Nat → Int32} (r : RV A f V) (hB : ∀ o, ((92 ≤ o ∧ o ≤ 99) ∨ (108 ≤ o ∧ o ≤ 110)) → B o = A o) (hf : ∀ k, 31 ≤ k → k ≤ 37 → g k = f k) (n1 : vN V' = vN V ∧ vT V' = vT V) (n3 : ∀ m, m < vN V 0 → B 101 m = (vO V' m).1 ∧ B 102 m = (vO V' m).2) (n4 : g 9 = vF V') (n5 : ∀ r, r < 24 → B 103 r = vH V' r) (n6 : RlR B g V') (hv : vB V' = vB V ∧ vG V' = vG V ∧ vW V' = vW V ∧ vY V' = vY V) : RV B g V' := by
  refine r.new (fun k _ => by rw [hB 92 (by omega)]) (fun k _ i _ => ⟨by rw [hB 95 (by omega)], fun q _ _ => ⟨by rw [hB 96 (by omega)], by rw [hB 97 (by omega)], by rw [hB 98 (by omega)], by rw [hB 99 (by omega)]⟩, fun e _ _ => ⟨by rw [hB 93 (by omega)], by rw [hB 94 (by omega)]⟩⟩) n1 n3 n4 n5 n6 ?_ ?_
  · have h8 := r.2.2.2.2.2.2.2.1
    rw [hv.1]
    unfold RGc at h8 ⊢
    rw [hf 31 (by omega) (by omega), hf 32 (by omega) (by omega), hf 33 (by omega) (by omega), hf 37 (by omega) (by omega), hB 108 (by omega), hB 109 (by omega), hB 110 (by omega)]
    exact h8
  · rw [hv.1, hv.2.1, hv.2.2.1, hv.2.2.2, hf 34 (by omega) (by omega), hf 35 (by omega) (by omega), hf 36 (by omega) (by omega)]
    exact r.2.2.2.2.2.2.2.2
def PR (o k : Nat) : Prop := (101 ≤ o ∧ o ≤ 103) ∨ (115 ≤ o ∧ o ≤ 118) ∨ (o = 90 ∧ (k = 9 ∨ k = 47))
theorem KR.simple {M M' : ej_Mem} {V V' : View} {mk : Nat} (h : KR M V mk) (f : Fr PR M M') (n1 : vN V' = vN V ∧ vT V' = vT V) (n3 : ∀ m, m < vN V 0 → aI M' 101 m = (vO V' m).1 ∧ aI M' 102 m = (vO V' m).2) (n4 : mI M' 90 9 = vF V') (n5 : ∀ r, r < 24 → aI M' 103 r = vH V' r) (n6 : RlR (aI M') (mI M' 90) V') (hv : vB V' = vB V ∧ vG V' = vG V ∧ vW V' = vW V ∧ vY V' = vY V) (hV : VOK V') : KR M' V' mk ∧ FrG P8 M M' := by
  obtain ⟨h1, h2, h3, h4, h5⟩ := h
  refine ⟨⟨f.rw h1, h2.simple (fun o ho => f.af (fun k q => by unfold PR at q; omega)) (fun k a b => f.i (fun q => by unfold PR at q; omega)) n1 n3 n4 n5 n6 hv, hV, ⟨by rw [f.i (by unfold PR; omega)]; exact h4.1, by rw [f.i (by unfold PR; omega)]; exact h4.2.1, by rw [f.i (by unfold PR; omega)]; exact h4.2.2⟩, h5.fr f (fun j => by unfold PR; omega) (by unfold PR; omega)⟩, f.g.mono (fun o k _ q => by unfold PR at q; unfold P8; omega)⟩
theorem r_force {D : Nat} (hD : 4 ≤ D) {M : ej_Mem} {V : View} {mk : Nat} (h : KR M V mk) (x : Int32) : ∃ M', cal D jm_Ref_force [.ref 90, .int x] M = some (some (.int (a_force V x)), M') ∧ FrG P8 M M' ∧ KR M' (u_force V x) mk := by
  obtain ⟨d, rfl⟩ : ∃ d, D = d + 1 := ⟨D - 1, by omega⟩
  have l3 := h.2.2.1.1 3 (by decide)
  have m3 : mst 3 = 8 := rfl
  have h3 : aI M 92 3 = nI (vN V 3) := by rw [(h.2.1.1 3 (by decide)).1, h.2.1.2.1 3 (by decide)]
  rw [ca_Ref_force, eq_Ref_force_0]
  simp only [RW.all h.1, h3, h.2.1.2.2.2.2.1, MR, ckk_T, deR_s, deQ_s, deQ_n, bkV_s, bkI_s, bkJ_s, bkQ_s, bkQ_n, ckb0, ckb1, ckb2, ckb3, eq_self, Nat.reduceEqDiff, Nat.reduceLeDiff, Nat.reduceLT, reduceIte, true_or, or_true, not_false_eq_true, not_true_eq_false, and_self, and_true, true_and, LIT, Int32.reduceLT, Int32.reduceLE, Int32.reduceToNatClampNeg]
  unfold a_force u_force
  by_cases x0 : x < 0
  · rw [if_pos x0, bits_n x0]
    exact ⟨M, rfl, FrG.refl _ M, h⟩
  · rw [if_neg x0]
    cases hx : bitsB (vN V 3) x
    · rw [if_neg (fun z => by rw [(bits_r (by omega) x x0).mpr z] at hx; cases hx)]
      exact ⟨M, rfl, FrG.refl _ M, h⟩
    · rw [if_pos ((bits_r (by omega) x x0).mp hx)]
      exact ⟨setI M 90 9 x, rfl, gset8 M 9 x, h.vf x⟩
theorem r_holds {D : Nat} (hD : 4 ≤ D) {M : ej_Mem} {V : View} {mk : Nat} (h : KR M V mk) (r x : Int32) : ∃ M', cal D jm_Ref_holds [.ref 90, .int r, .int x] M = some (some (.int (a_holds V r x)), M') ∧ FrG P8 M M' ∧ KR M' (u_holds V r x) mk := by
  obtain ⟨d, rfl⟩ : ∃ d, D = d + 1 := ⟨D - 1, by omega⟩
  obtain ⟨_, h2, hV, _⟩ := id h
  have E1 := p_inI (by omega : 1 ≤ d) r 0 23 M
  rw [show Int32.toInt64 0 = 0 from by decide, show Int32.toInt64 23 = 23 from by decide] at E1
  have E2 := p_inI (by omega : 1 ≤ d) x (-1) 15 M
  rw [show Int32.toInt64 (-1) = -1 from by decide, show Int32.toInt64 15 = 15 from by decide] at E2
  rw [ca_Ref_holds, eq_Ref_holds_0, E1]
  unfold a_holds u_holds
  cases hr : inB r 0 23
  · exact ⟨M, rfl, FrG.refl _ M, h⟩
  · simp only [RW.all h.1, MR, ckk_T, deR_s, deQ_s, deQ_n, bkV_s, bkI_s, bkJ_s, bkQ_s, bkQ_n, ckb0, ckb1, ckb2, ckb3, eq_self, Nat.reduceEqDiff, Nat.reduceLeDiff, Nat.reduceLT, reduceIte, true_or, or_true, not_false_eq_true, not_true_eq_false, and_self, and_true, true_and, LIT, Int32.reduceLT, Int32.reduceLE, Int32.reduceToNatClampNeg, b2i_t]
    rw [E2]
    cases hx : inB x (-1) 15
    · exact ⟨M, rfl, FrG.refl _ M, h⟩
    · obtain ⟨j, hj, rfl⟩ := inB23 hr
      simp only [RW.all h.1, MR, ckk_T, deR_s, deQ_s, deQ_n, bkV_s, bkI_s, bkJ_s, bkQ_s, bkQ_n, ckb0, ckb1, ckb2, ckb3, eq_self, Nat.reduceEqDiff, Nat.reduceLeDiff, Nat.reduceLT, reduceIte, true_or, or_true, not_false_eq_true, not_true_eq_false, and_self, and_true, true_and, LIT, Int32.reduceLT, Int32.reduceLE, Int32.reduceToNatClampNeg, b2i_t]
      rw [ckb_n (by omega) (by decide), ckb_n (by omega) (by decide), nI_clamp (by omega), h2.2.2.2.2.2.1 j hj]
      have f : Fr PR M (setA M 103 j x) := Fr.setA (P := PR) M x (Or.inl ⟨by omega, by omega⟩)
      obtain ⟨K, G⟩ := h.simple (V' := setVH V j x) f ⟨rfl, rfl⟩ h2.2.2.2.1 h2.2.2.2.2.1 (fun i hi => by
        show va_up (aI M 103) j x i = va_up (vH V) j x i
        by_cases q : i = j
        · subst q; rw [up_s, up_s]
        · rw [up_n q, up_n q]; exact h2.2.2.2.2.2.1 i hi) h2.2.2.2.2.2.2.1 ⟨rfl, rfl, rfl, rfl⟩ (hV.vh hx)
      exact ⟨_, rfl, G, K⟩
theorem open_in (a b : Int32) (ha : inB a 0 2999 = true) : inB b a 2999 = (inB b 0 2999 && decide (a ≤ b)) := by
  unfold inB at *
  have h0 := (of_decide_eq_true ha).1
  by_cases q : a ≤ b
  · have : (0 : Int32) ≤ b := Int32.le_trans h0 q
    simp [q, this]
  · simp [q]
theorem r_open {D : Nat} (hD : 4 ≤ D) {M : ej_Mem} {V : View} {mk : Nat} (h : KR M V mk) (m a b : Int32) : ∃ M', cal D jm_Ref_open [.ref 90, .int m, .int a, .int b] M = some (some (.int (a_open V m a b)), M') ∧ FrG P8 M M' ∧ KR M' (u_open V m a b) mk := by
  obtain ⟨d, rfl⟩ : ∃ d, D = d + 1 := ⟨D - 1, by omega⟩
  obtain ⟨_, h2, hV, _⟩ := id h
  have l0 := hV.le (show 0 < 4 by decide)
  rw [ca_Ref_open, eq_Ref_open_0]
  simp only [RW.all h.1, MR, ckk_T, deR_s, deQ_s, deQ_n, bkV_s, bkI_s, bkJ_s, bkQ_s, bkQ_n, ckb0, ckb1, ckb2, ckb3, eq_self, Nat.reduceEqDiff, Nat.reduceLeDiff, Nat.reduceLT, reduceIte, true_or, or_true, not_false_eq_true, not_true_eq_false, and_self, and_true, true_and, LIT, Int32.reduceLT, Int32.reduceLE, Int32.reduceToNatClampNeg]
  rw [h.has (by omega) ks0 (by decide)]
  unfold a_open u_open
  have no : opB V m a b = false → ∃ M', (some (some (Value.int 0), M) : Option ej_R) = some (some (.int (b2i (opB V m a b))), M') ∧ FrG P8 M M' ∧ KR M' (if opB V m a b = true then setVO V m.toNatClampNeg a b else V) mk := by
    intro e
    rw [e]
    exact ⟨M, rfl, FrG.refl _ M, h⟩
  cases hm : hasB (vN V 0) m
  · exact no (by unfold opB; rw [hm]; rfl)
  · simp only [RW.all h.1, MR, ckk_T, deR_s, deQ_s, deQ_n, bkV_s, bkI_s, bkJ_s, bkQ_s, bkQ_n, ckb0, ckb1, ckb2, ckb3, eq_self, Nat.reduceEqDiff, Nat.reduceLeDiff, Nat.reduceLT, reduceIte, true_or, or_true, not_false_eq_true, not_true_eq_false, and_self, and_true, true_and, LIT, Int32.reduceLT, Int32.reduceLE, Int32.reduceToNatClampNeg, b2i_t]
    rw [p_isYear (by omega)]
    cases ha : inB a 0 2999
    · exact no (by unfold opB; rw [ha, Bool.false_and, Bool.and_false])
    · have E := p_inI (by omega : 1 ≤ d) b a 2999 M
      rw [show Int32.toInt64 2999 = 2999 from by decide, open_in a b ha] at E
      simp only [RW.all h.1, MR, ckk_T, deR_s, deQ_s, deQ_n, bkV_s, bkI_s, bkJ_s, bkQ_s, bkQ_n, ckb0, ckb1, ckb2, ckb3, eq_self, Nat.reduceEqDiff, Nat.reduceLeDiff, Nat.reduceLT, reduceIte, true_or, or_true, not_false_eq_true, not_true_eq_false, and_self, and_true, true_and, LIT, Int32.reduceLT, Int32.reduceLE, Int32.reduceToNatClampNeg, b2i_t]
      rw [E]
      cases hb : (inB b 0 2999 && decide (a ≤ b))
      · exact no (by unfold opB; rw [hb, Bool.and_false, Bool.and_false])
      · obtain ⟨mi, hmi, rfl⟩ := (hasB_iff (by omega)).mp hm
        have hB : opB V (nI mi) a b = true := by unfold opB; rw [hm, ha, hb]; rfl
        simp only [RW.all h.1, MR, ckk_T, deR_s, deQ_s, deQ_n, bkV_s, bkI_s, bkJ_s, bkQ_s, bkQ_n, ckb0, ckb1, ckb2, ckb3, eq_self, Nat.reduceEqDiff, Nat.reduceLeDiff, Nat.reduceLT, reduceIte, true_or, or_true, not_false_eq_true, not_true_eq_false, and_self, and_true, true_and, LIT, Int32.reduceLT, Int32.reduceLE, Int32.reduceToNatClampNeg, b2i_t]
        rw [ckb_n (by omega) (by decide), ckb_n (by omega) (by decide), hB, if_pos rfl, nI_clamp (by omega)]
        have f : Fr PR M (setA (setA M 101 mi a) 102 mi b) := (Fr.setA (P := PR) M a (Or.inl ⟨by omega, by omega⟩)).trans (Fr.setA (P := PR) _ b (Or.inl ⟨by omega, by omega⟩))
        obtain ⟨K, G⟩ := h.simple (V' := setVO V mi a b) f ⟨rfl, rfl⟩ (fun i hi => by
          show va_up (aI M 101) mi a i = (va_up (vO V) mi (a, b) i).1 ∧ va_up (aI M 102) mi b i = (va_up (vO V) mi (a, b) i).2
          by_cases q : i = mi
          · subst q; rw [up_s, up_s, up_s]; exact ⟨rfl, rfl⟩
          · rw [up_n q, up_n q, up_n q]; exact h2.2.2.2.1 i hi) h2.2.2.2.2.1 h2.2.2.2.2.2.1 h2.2.2.2.2.2.2.1 ⟨rfl, rfl, rfl, rfl⟩ (hV.vo mi a b)
        exact ⟨_, rfl, G, K⟩
theorem r_roll {D : Nat} (hD : 4 ≤ D) {M : ej_Mem} {V : View} {mk : Nat} (h : KR M V mk) (g y : Int32) : ∃ M', cal D jm_Ref_roll [.ref 90, .int g, .int y] M = some (some (.int (a_roll V g y)), M') ∧ FrG P8 M M' ∧ KR M' (u_roll V g y) mk := by
  obtain ⟨d, rfl⟩ : ∃ d, D = d + 1 := ⟨D - 1, by omega⟩
  obtain ⟨_, h2, hV, _⟩ := id h
  have h30 := hV.2.2.2.1.1
  have l1 := hV.le (show 1 < 4 by decide)
  have hX : RlX (aI M 115) (aI M 116) (aI M 117) (aI M 118) (mI M 90 47) V := h2.2.2.2.2.2.2.1
  rw [ca_Ref_roll, eq_Ref_roll_0]
  simp only [RW.all h.1, hX.1, MR, ckk_T, deR_s, deQ_s, deQ_n, bkV_s, bkI_s, bkJ_s, bkQ_s, bkQ_n, ckb0, ckb1, ckb2, ckb3, eq_self, Nat.reduceEqDiff, Nat.reduceLeDiff, Nat.reduceLT, reduceIte, true_or, or_true, not_false_eq_true, not_true_eq_false, and_self, and_true, true_and, LIT, Int32.reduceLT, Int32.reduceLE, Int32.reduceToNatClampNeg]
  unfold a_roll u_roll
  have no : rlB V g y = false → ∃ M', (some (some (Value.int (-1)), M) : Option ej_R) = some (some (.int (if rlB V g y = true then nI (vRn V) else -1)), M') ∧ FrG P8 M M' ∧ KR M' (if rlB V g y = true then mkRoll V g.toNatClampNeg y else V) mk := by
    intro e
    rw [e]
    exact ⟨M, rfl, FrG.refl _ M, h⟩
  by_cases q : vRn V < 30
  · have n30 : ¬ nI (vRn V) = 30 := fun z => by
      have := (nI_eq (a := vRn V) (b := 30) (by omega) (by decide)).mp z
      omega
    rw [if_neg n30, h.has (by omega) ks1 (by decide)]
    cases hg : hasB (vN V 1) g
    · exact no (by unfold rlB; rw [hg, Bool.false_and, Bool.and_false])
    · simp only [RW.all h.1, MR, ckk_T, deR_s, deQ_s, deQ_n, bkV_s, bkI_s, bkJ_s, bkQ_s, bkQ_n, ckb0, ckb1, ckb2, ckb3, eq_self, Nat.reduceEqDiff, Nat.reduceLeDiff, Nat.reduceLT, reduceIte, true_or, or_true, not_false_eq_true, not_true_eq_false, and_self, and_true, true_and, LIT, Int32.reduceLT, Int32.reduceLE, Int32.reduceToNatClampNeg, b2i_t]
      rw [p_isYear (by omega)]
      cases hy : inB y 0 2999
      · exact no (by unfold rlB; rw [hy, Bool.and_false, Bool.and_false])
      · obtain ⟨gi, hgi, rfl⟩ := (hasB_iff (by omega)).mp hg
        have hB : rlB V (nI gi) y = true := by unfold rlB; rw [decide_eq_true q, hg, hy]; rfl
        simp only [RW.all h.1, hX.1, MR, ckk_T, deR_s, deQ_s, deQ_n, bkV_s, bkI_s, bkJ_s, bkQ_s, bkQ_n, ckb0, ckb1, ckb2, ckb3, eq_self, Nat.reduceEqDiff, Nat.reduceLeDiff, Nat.reduceLT, reduceIte, true_or, or_true, not_false_eq_true, not_true_eq_false, and_self, and_true, true_and, LIT, Int32.reduceLT, Int32.reduceLE, Int32.reduceToNatClampNeg, b2i_t]
        rw [ckb_n (by omega) (by decide), ckb_n (by omega) (by decide), ckb_n (by omega) (by decide), hB, if_pos rfl, nI_clamp (by omega), nI_clamp (by omega)]
        simp only [up_s, nI_1]
        have f : Fr PR M (setI (setA (setA (setA M 115 (vRn V) (nI gi)) 116 (vRn V) y) 117 (vRn V) 0) 90 47 (nI (vRn V + 1))) := (((Fr.setA (P := PR) M _ (Or.inr (Or.inl ⟨by omega, by omega⟩))).trans (Fr.setA (P := PR) _ _ (Or.inr (Or.inl ⟨by omega, by omega⟩)))).trans (Fr.setA (P := PR) _ _ (Or.inr (Or.inl ⟨by omega, by omega⟩)))).trans (Fr.setI (P := PR) _ _ (Or.inr (Or.inr ⟨rfl, Or.inr rfl⟩)))
        obtain ⟨K, G⟩ := h.simple (V' := mkRoll V gi y) f ⟨rfl, rfl⟩ h2.2.2.2.1 h2.2.2.2.2.1 h2.2.2.2.2.2.1 (show RlX _ _ _ _ _ _ from hX.roll gi y) ⟨rfl, rfl, rfl, rfl⟩ (hV.roll y q hgi)
        refine ⟨_, ?_, G, K⟩
        rw [← nI_1, Int32.add_sub_cancel]
  · have e30 : nI (vRn V) = 30 := by rw [show vRn V = 30 by omega]; rfl
    rw [if_pos e30]
    exact no (by unfold rlB; rw [decide_eq_false q, Bool.false_and])
theorem r_enter {D : Nat} (hD : 4 ≤ D) {M : ej_Mem} {V : View} {mk : Nat} (h : KR M V mk) (r m : Int32) : ∃ M', cal D jm_Ref_enter [.ref 90, .int r, .int m] M = some (some (.int (a_enter V r m)), M') ∧ FrG P8 M M' ∧ KR M' (u_enter V r m) mk := by
  obtain ⟨d, rfl⟩ : ∃ d, D = d + 1 := ⟨D - 1, by omega⟩
  obtain ⟨_, h2, hV, _⟩ := id h
  have h30 := hV.2.2.2.1.1
  have l0 := hV.le (show 0 < 4 by decide)
  have hX : RlX (aI M 115) (aI M 116) (aI M 117) (aI M 118) (mI M 90 47) V := h2.2.2.2.2.2.2.1
  rw [ca_Ref_enter, eq_Ref_enter_0]
  simp only [RW.all h.1, MR, ckk_T, deR_s, deQ_s, deQ_n, bkV_s, bkI_s, bkJ_s, bkQ_s, bkQ_n, ckb0, ckb1, ckb2, ckb3, eq_self, Nat.reduceEqDiff, Nat.reduceLeDiff, Nat.reduceLT, reduceIte, true_or, or_true, not_false_eq_true, not_true_eq_false, and_self, and_true, true_and, LIT, Int32.reduceLT, Int32.reduceLE, Int32.reduceToNatClampNeg]
  unfold a_enter u_enter
  have no : enB V r m = false → ∃ M', (some (some (Value.int (-1)), M) : Option ej_R) = some (some (.int (if enB V r m = true then nI ((vR V r.toNatClampNeg).2.2.length + 1) else -1)), M') ∧ FrG P8 M M' ∧ KR M' (if enB V r m = true then mkEnter V r.toNatClampNeg m.toNatClampNeg else V) mk := by
    intro e
    rw [e]
    exact ⟨M, rfl, FrG.refl _ M, h⟩
  rw [p_isRoll (by omega) h]
  rcases roll_cases hV r with hr | ⟨i, hi, rfl, hr⟩
  · rw [hr]; exact no (by unfold enB; rw [hr]; rfl)
  · rw [hr]
    simp only [RW.all h.1, MR, ckk_T, deR_s, deQ_s, deQ_n, bkV_s, bkI_s, bkJ_s, bkQ_s, bkQ_n, ckb0, ckb1, ckb2, ckb3, eq_self, Nat.reduceEqDiff, Nat.reduceLeDiff, Nat.reduceLT, reduceIte, true_or, or_true, not_false_eq_true, not_true_eq_false, and_self, and_true, true_and, LIT, Int32.reduceLT, Int32.reduceLE, Int32.reduceToNatClampNeg, b2i_t]
    rw [h.has (by omega) ks0 (by decide)]
    cases hm : hasB (vN V 0) m
    · exact no (by unfold enB; rw [hm, Bool.false_and, Bool.and_false])
    · obtain ⟨mi, hmi, rfl⟩ := (hasB_iff (by omega)).mp hm
      have h24 := (hV.2.2.2.1.2 i hi).2.1
      simp only [RW.all h.1, MR, ckk_T, deR_s, deQ_s, deQ_n, bkV_s, bkI_s, bkJ_s, bkQ_s, bkQ_n, ckb0, ckb1, ckb2, ckb3, eq_self, Nat.reduceEqDiff, Nat.reduceLeDiff, Nat.reduceLT, reduceIte, true_or, or_true, not_false_eq_true, not_true_eq_false, and_self, and_true, true_and, LIT, Int32.reduceLT, Int32.reduceLE, Int32.reduceToNatClampNeg, b2i_t]
      rw [ckb_n (by omega) (by decide), nI_clamp (by omega), (hX.2 i hi).2.2.1]
      by_cases q : (vR V i).2.2.length < 24
      · have hB : enB V (nI i) (nI mi) = true := by unfold enB; rw [hr, hm, nI_clamp (by omega), decide_eq_true q]; rfl
        have ei : 24 * nI i + nI (vR V i).2.2.length = nI (24 * i + (vR V i).2.2.length) := by
          rw [show (24 : Int32) = nI 24 from rfl, pk_mul, nI_add]
        have n24 : ¬ nI (vR V i).2.2.length = 24 := fun z => by
          have := (nI_eq (a := (vR V i).2.2.length) (b := 24) (by omega) (by decide)).mp z
          omega
        rw [if_neg n24, ckb_n (by omega) (by decide), ei, ckb_n (by omega) (by decide), nI_clamp (by omega)]
        rw [ckb_n (by omega) (by decide), ckb_n (by omega) (by decide), ckb_n (by omega) (by decide), hB, if_pos rfl, nI_clamp (by omega), up_s, nI_1, if_pos rfl]
        have f : Fr PR M (setA (setA M 118 (24 * i + (vR V i).2.2.length) (nI mi)) 117 i (nI ((vR V i).2.2.length + 1))) := (Fr.setA (P := PR) M _ (Or.inr (Or.inl ⟨by omega, by omega⟩))).trans (Fr.setA (P := PR) _ _ (Or.inr (Or.inl ⟨by omega, by omega⟩)))
        obtain ⟨K, G⟩ := h.simple (V' := mkEnter V i mi) f ⟨rfl, rfl⟩ h2.2.2.2.1 h2.2.2.2.2.1 h2.2.2.2.2.2.1 (show RlX _ _ _ _ _ _ from hX.enter hV hi q) ⟨rfl, rfl, rfl, rfl⟩ (hV.enter hi hmi q)
        exact ⟨_, rfl, G, K⟩
      · have e24 : nI (vR V i).2.2.length = 24 := by rw [show (vR V i).2.2.length = 24 by omega]; rfl
        rw [if_pos e24]
        have e := no (by unfold enB; rw [nI_clamp (by omega), decide_eq_false q, Bool.and_false, Bool.and_false])
        rw [nI_clamp (by omega)] at e
        exact e
