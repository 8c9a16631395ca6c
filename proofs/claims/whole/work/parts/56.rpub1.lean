/-! the reference's public calls that ask -/
theorem RV.fr {P : Nat → Nat → Prop} {V : View} (hV : VOK V) {M M' : ej_Mem} (f : Fr P M M') (h1 : ∀ o k, ((92 ≤ o ∧ o ≤ 99) ∨ (101 ≤ o ∧ o ≤ 103) ∨ (108 ≤ o ∧ o ≤ 110) ∨ (115 ≤ o ∧ o ≤ 118)) → ¬ P o k) (h2 : ∀ k, (k = 9 ∨ (31 ≤ k ∧ k ≤ 37) ∨ k = 47) → ¬ P 90 k) (r : RV (aI M) (mI M 90) V) : RV (aI M') (mI M' 90) V := by
  have a : ∀ o, ((92 ≤ o ∧ o ≤ 99) ∨ (101 ≤ o ∧ o ≤ 103) ∨ (108 ≤ o ∧ o ≤ 110) ∨ (115 ≤ o ∧ o ≤ 118)) → aI M' o = aI M o := fun o ho => f.af (fun k => h1 o k ho)
  refine r.cg hV ⟨fun k _ => by rw [a 92 (by omega)], fun k _ i _ => ⟨by rw [a 95 (by omega)], fun q _ _ => ⟨by rw [a 96 (by omega)], by rw [a 97 (by omega)], by rw [a 98 (by omega)], by rw [a 99 (by omega)]⟩, fun e _ _ => ⟨by rw [a 93 (by omega)], by rw [a 94 (by omega)]⟩⟩, fun m _ => ⟨by rw [a 101 (by omega)], by rw [a 102 (by omega)]⟩, fun r _ => by rw [a 103 (by omega)],
    fun r _ => ⟨by rw [a 115 (by omega)], by rw [a 116 (by omega)], by rw [a 117 (by omega)], fun j _ => by rw [a 118 (by omega)]⟩, fun k _ => ⟨by rw [a 108 (by omega)], by rw [a 109 (by omega)], by rw [a 110 (by omega)]⟩,
    f.i (h2 9 (by omega)), f.i (h2 31 (by omega)), f.i (h2 32 (by omega)), f.i (h2 33 (by omega)), f.i (h2 34 (by omega)), f.i (h2 35 (by omega)), f.i (h2 36 (by omega)), f.i (h2 37 (by omega)), f.i (h2 47 (by omega))⟩
def KR (M : ej_Mem) (V : View) (mk : Nat) : Prop := RW M ∧ RV (aI M) (mI M 90) V ∧ VOK V ∧ (mI M 90 40 = -1 ∧ mI M 90 41 = -1 ∧ mI M 90 42 = -1) ∧ MK M mk
def P8 (o k : Nat) : Prop := 90 ≤ o ∧ o ≤ 118 ∧ o ≠ 91 ∧ (o = 90 → 2 ≤ k)
theorem KR.f104 {M : ej_Mem} {V : View} {mk : Nat} (h : KR M V mk) (g : Nat → Int32) : KR (setF M 104 g) V mk := by
  obtain ⟨h1, h2, h3, h4, h5⟩ := h
  exact ⟨h1, h2.fr h3 (fr104 M g) (fun o k q z => by unfold P104 at z; omega) (fun k q z => by unfold P104 at z; omega), h3, h4, h5.f104 g⟩
theorem g104 (M : ej_Mem) (g : Nat → Int32) : FrG P8 M (setF M 104 g) := (fr104 M g).g.mono (fun o k _ q => by unfold P104 at q; unfold P8; omega)
theorem KR.has {D : Nat} (hD : 2 ≤ D) {M : ej_Mem} {V : View} {mk : Nat} (h : KR M V mk) {k : Int32} {kn : Nat} (hk : k = nI kn) (hk4 : kn < 4) (x : Int32) : cal D jm_Ref_has [.ref 90, .int k, .int x] M = some (some (.int (b2i (hasB (vN V kn) x))), M) := by
  have l := h.2.2.1.le hk4
  subst hk
  refine p_has hD h.1 (nI kn) x ⟨nI_pos (by omega), by rw [nI_clamp (by omega)]; exact hk4⟩ ?_ (by omega)
  rw [nI_clamp (by omega), (h.2.1.1 kn hk4).1, h.2.1.2.1 kn hk4]
theorem KR.sl {M : ej_Mem} {V : View} {mk : Nat} (h : KR M V mk) {k i : Nat} (hk : k < 4) (hi : i < vN V k) : slOK (aI M) (pl k + i) := (h.2.1.1 k hk).2.2 i (by rw [h.2.1.2.1 k hk]; exact hi)
theorem KR.sl0 {M : ej_Mem} {V : View} {mk : Nat} (h : KR M V mk) {i : Nat} (hi : i < vN V 0) : slOK (aI M) i := by
  have := h.sl (show 0 < 4 by decide) hi
  rw [show pl 0 + i = i by simp [pl]] at this
  exact this
theorem r_first {D : Nat} (hD : 4 ≤ D) {M : ej_Mem} {V : View} {mk : Nat} (h : KR M V mk) (g : Int32) : cal D jm_Ref_first [.ref 90, .int g] M = some (some (.int (a_first V g)), M) := by
  obtain ⟨d, rfl⟩ : ∃ d, D = d + 1 := ⟨D - 1, by omega⟩
  have l := h.2.2.1.le (show 1 < 4 by decide)
  have m1 := h.2.2.1.1 1 (by decide)
  have : mst 1 = 8 := rfl
  rw [ca_Ref_first, eq_Ref_first_0]
  simp only [RW.all h.1, MR, ckk_T, deR_s, deQ_s, deQ_n, bkV_s, bkI_s, bkJ_s, bkQ_s, bkQ_n, ckb0, ckb1, ckb2, ckb3, eq_self, Nat.reduceEqDiff, Nat.reduceLeDiff, Nat.reduceLT, reduceIte, true_or, or_true, not_false_eq_true, not_true_eq_false, and_self, and_true, true_and, LIT, Int32.reduceLT, Int32.reduceLE, Int32.reduceToNatClampNeg]
  rw [h.has (by omega) ks1 (by decide)]
  simp only [RW.all h.1, MR, ckk_T, deR_s, deQ_s, deQ_n, bkV_s, bkI_s, bkJ_s, bkQ_s, bkQ_n, ckb0, ckb1, ckb2, ckb3, eq_self, Nat.reduceEqDiff, Nat.reduceLeDiff, Nat.reduceLT, reduceIte, true_or, or_true, not_false_eq_true, not_true_eq_false, and_self, and_true, true_and, LIT, Int32.reduceLT, Int32.reduceLE, Int32.reduceToNatClampNeg]
  unfold a_first
  cases hb : hasB (vN V 1) g
  · rfl
  · obtain ⟨i, hi, rfl⟩ := (hasB_iff (by omega)).mp hb
    have E := p_firstOf (by omega : 2 ≤ d) h.1 (show i < 8 by omega) (h.sl (show 1 < 4 by decide) hi) (aI M 104)
    rw [setF_self] at E
    rw [if_neg (by decide), E, if_pos rfl, nI_clamp (by omega), first_v h.2.1 hi]
    rfl
theorem r_wished {D : Nat} (hD : 6 ≤ D) {M : ej_Mem} {V : View} {mk : Nat} (h : KR M V mk) (w s : Int32) : ∃ M', cal D jm_Ref_wished [.ref 90, .int w, .int s] M = some (some (.int (a_wished V w s)), M') ∧ FrG P8 M M' ∧ KR M' V mk := by
  obtain ⟨d, rfl⟩ : ∃ d, D = d + 1 := ⟨D - 1, by omega⟩
  have l := h.2.2.1.le (show 2 < 4 by decide)
  have m1 := h.2.2.1.1 2 (by decide)
  have : mst 2 = 16 := rfl
  rw [ca_Ref_wished, eq_Ref_wished_0]
  simp only [RW.all h.1, MR, ckk_T, deR_s, deQ_s, deQ_n, bkV_s, bkI_s, bkJ_s, bkQ_s, bkQ_n, ckb0, ckb1, ckb2, ckb3, eq_self, Nat.reduceEqDiff, Nat.reduceLeDiff, Nat.reduceLT, reduceIte, true_or, or_true, not_false_eq_true, not_true_eq_false, and_self, and_true, true_and, LIT, Int32.reduceLT, Int32.reduceLE, Int32.reduceToNatClampNeg]
  rw [h.has (by omega) ks2 (by decide)]
  simp only [RW.all h.1, MR, ckk_T, deR_s, deQ_s, deQ_n, bkV_s, bkI_s, bkJ_s, bkQ_s, bkQ_n, ckb0, ckb1, ckb2, ckb3, eq_self, Nat.reduceEqDiff, Nat.reduceLeDiff, Nat.reduceLT, reduceIte, true_or, or_true, not_false_eq_true, not_true_eq_false, and_self, and_true, true_and, LIT, Int32.reduceLT, Int32.reduceLE, Int32.reduceToNatClampNeg]
  unfold a_wished
  cases hb : hasB (vN V 2) w
  · exact ⟨M, rfl, FrG.refl _ M, h⟩
  · rw [if_neg (by decide), p_isState (by omega)]
    cases hs : inB s 0 16777215
    · exact ⟨M, rfl, FrG.refl _ M, h⟩
    · obtain ⟨i, hi, rfl⟩ := (hasB_iff (by omega)).mp hb
      obtain ⟨g', e⟩ := (p_isWished (by omega : 4 ≤ d) h.1 (show i < 16 by omega) (h.sl (show 2 < 4 by decide) hi) s).self
      simp only [RW.all h.1, MR, ckk_T, deR_s, deQ_s, deQ_n, bkV_s, bkI_s, bkJ_s, bkQ_s, bkQ_n, ckb0, ckb1, ckb2, ckb3, eq_self, Nat.reduceEqDiff, Nat.reduceLeDiff, Nat.reduceLT, reduceIte, true_or, or_true, not_false_eq_true, not_true_eq_false, and_self, and_true, true_and, LIT, Int32.reduceLT, Int32.reduceLE, Int32.reduceToNatClampNeg, b2i_t]
      rw [e, rTs_2 h.2.1 hi, nI_clamp (by omega)]
      refine ⟨setF M 104 g', ?_, g104 M g', h.f104 g'⟩
      cases tTs (vT V 2 i) s <;> rfl
theorem r_after {D : Nat} (hD : 4 ≤ D) {M : ej_Mem} {V : View} {mk : Nat} (h : KR M V mk) (m s : Int32) : cal D jm_Ref_after [.ref 90, .int m, .int s] M = some (some (.int (a_after V m s)), M) := by
  obtain ⟨d, rfl⟩ : ∃ d, D = d + 1 := ⟨D - 1, by omega⟩
  have l := h.2.2.1.le (show 0 < 4 by decide)
  rw [ca_Ref_after, eq_Ref_after_0]
  simp only [RW.all h.1, MR, ckk_T, deR_s, deQ_s, deQ_n, bkV_s, bkI_s, bkJ_s, bkQ_s, bkQ_n, ckb0, ckb1, ckb2, ckb3, eq_self, Nat.reduceEqDiff, Nat.reduceLeDiff, Nat.reduceLT, reduceIte, true_or, or_true, not_false_eq_true, not_true_eq_false, and_self, and_true, true_and, LIT, Int32.reduceLT, Int32.reduceLE, Int32.reduceToNatClampNeg]
  rw [h.has (by omega) ks0 (by decide)]
  simp only [RW.all h.1, MR, ckk_T, deR_s, deQ_s, deQ_n, bkV_s, bkI_s, bkJ_s, bkQ_s, bkQ_n, ckb0, ckb1, ckb2, ckb3, eq_self, Nat.reduceEqDiff, Nat.reduceLeDiff, Nat.reduceLT, reduceIte, true_or, or_true, not_false_eq_true, not_true_eq_false, and_self, and_true, true_and, LIT, Int32.reduceLT, Int32.reduceLE, Int32.reduceToNatClampNeg]
  unfold a_after
  cases hb : hasB (vN V 0) m
  · rfl
  · rw [if_neg (by decide), p_isState (by omega)]
    cases hs : inB s 0 16777215
    · rfl
    · obtain ⟨i, hi, rfl⟩ := (hasB_iff (by omega)).mp hb
      have E := p_behind (by omega : 2 ≤ d) h.1 (show i < 40 by omega) (h.sl0 hi) s (aI M 104)
      rw [setF_self] at E
      simp only [RW.all h.1, MR, ckk_T, deR_s, deQ_s, deQ_n, bkV_s, bkI_s, bkJ_s, bkQ_s, bkQ_n, ckb0, ckb1, ckb2, ckb3, eq_self, Nat.reduceEqDiff, Nat.reduceLeDiff, Nat.reduceLT, reduceIte, true_or, or_true, not_false_eq_true, not_true_eq_false, and_self, and_true, true_and, LIT, Int32.reduceLT, Int32.reduceLE, Int32.reduceToNatClampNeg, b2i_t]
      rw [E, nI_clamp (by omega), rBeh_v h.2.1 hi]
      rfl
theorem r_turned {D : Nat} (hD : 6 ≤ D) {M : ej_Mem} {V : View} {mk : Nat} (h : KR M V mk) (m s : Int32) : ∃ M', cal D jm_Ref_turned [.ref 90, .int m, .int s] M = some (some (.int (a_turned V m s)), M') ∧ FrG P8 M M' ∧ KR M' V mk := by
  obtain ⟨d, rfl⟩ : ∃ d, D = d + 1 := ⟨D - 1, by omega⟩
  have l := h.2.2.1.le (show 0 < 4 by decide)
  rw [ca_Ref_turned, eq_Ref_turned_0]
  simp only [RW.all h.1, MR, ckk_T, deR_s, deQ_s, deQ_n, bkV_s, bkI_s, bkJ_s, bkQ_s, bkQ_n, ckb0, ckb1, ckb2, ckb3, eq_self, Nat.reduceEqDiff, Nat.reduceLeDiff, Nat.reduceLT, reduceIte, true_or, or_true, not_false_eq_true, not_true_eq_false, and_self, and_true, true_and, LIT, Int32.reduceLT, Int32.reduceLE, Int32.reduceToNatClampNeg]
  rw [h.has (by omega) ks0 (by decide)]
  simp only [RW.all h.1, MR, ckk_T, deR_s, deQ_s, deQ_n, bkV_s, bkI_s, bkJ_s, bkQ_s, bkQ_n, ckb0, ckb1, ckb2, ckb3, eq_self, Nat.reduceEqDiff, Nat.reduceLeDiff, Nat.reduceLT, reduceIte, true_or, or_true, not_false_eq_true, not_true_eq_false, and_self, and_true, true_and, LIT, Int32.reduceLT, Int32.reduceLE, Int32.reduceToNatClampNeg]
  unfold a_turned
  cases hb : hasB (vN V 0) m
  · exact ⟨M, rfl, FrG.refl _ M, h⟩
  · rw [if_neg (by decide), p_isState (by omega)]
    cases hs : inB s 0 16777215
    · exact ⟨M, rfl, FrG.refl _ M, h⟩
    · obtain ⟨i, hi, rfl⟩ := (hasB_iff (by omega)).mp hb
      obtain ⟨g', e⟩ := (p_turns (by omega : 4 ≤ d) h.1 (show i < 40 by omega) (h.sl0 hi) s).self
      simp only [RW.all h.1, MR, ckk_T, deR_s, deQ_s, deQ_n, bkV_s, bkI_s, bkJ_s, bkQ_s, bkQ_n, ckb0, ckb1, ckb2, ckb3, eq_self, Nat.reduceEqDiff, Nat.reduceLeDiff, Nat.reduceLT, reduceIte, true_or, or_true, not_false_eq_true, not_true_eq_false, and_self, and_true, true_and, LIT, Int32.reduceLT, Int32.reduceLE, Int32.reduceToNatClampNeg, b2i_t]
      rw [e, nI_clamp (by omega)]
      have : rTurn (aI M) i s = tTu (vT V 0 i) s := by rw [← h.2.1.2.2.1 0 (by decide) i hi]; rfl
      rw [this]
      exact ⟨setF M 104 g', rfl, g104 M g', h.f104 g'⟩
theorem KR.stops {M : ej_Mem} {V : View} {mk : Nat} (h : KR M V mk) : aI M 92 3 = nI (rN (aI M) 3) ∧ rN (aI M) 3 ≤ 8 ∧ ∀ k, k < rN (aI M) 3 → slOK (aI M) (64 + k) := by
  obtain ⟨a, b, c⟩ := h.2.1.1 3 (by decide)
  exact ⟨a, b, fun k hk => c k hk⟩
theorem r_may {D : Nat} (hD : 7 ≤ D) {M : ej_Mem} {V : View} {mk : Nat} (h : KR M V mk) (g y m s : Int32) : ∃ M', cal D jm_Ref_may [.ref 90, .int g, .int y, .int m, .int s] M = some (some (.int (a_may V g y m s)), M') ∧ FrG P8 M M' ∧ KR M' V mk := by
  obtain ⟨d, rfl⟩ : ∃ d, D = d + 1 := ⟨D - 1, by omega⟩
  have l0 := h.2.2.1.le (show 0 < 4 by decide)
  have l1 := h.2.2.1.1 1 (by decide)
  have m1 : mst 1 = 8 := rfl
  have l3 := h.2.2.1.1 3 (by decide)
  have m3 : mst 3 = 8 := rfl
  rw [ca_Ref_may, eq_Ref_may_0]
  simp only [RW.all h.1, MR, ckk_T, deR_s, deQ_s, deQ_n, bkV_s, bkI_s, bkJ_s, bkQ_s, bkQ_n, ckb0, ckb1, ckb2, ckb3, eq_self, Nat.reduceEqDiff, Nat.reduceLeDiff, Nat.reduceLT, reduceIte, true_or, or_true, not_false_eq_true, not_true_eq_false, and_self, and_true, true_and, LIT, Int32.reduceLT, Int32.reduceLE, Int32.reduceToNatClampNeg]
  rw [h.has (by omega) ks1 (by decide)]
  simp only [RW.all h.1, MR, ckk_T, deR_s, deQ_s, deQ_n, bkV_s, bkI_s, bkJ_s, bkQ_s, bkQ_n, ckb0, ckb1, ckb2, ckb3, eq_self, Nat.reduceEqDiff, Nat.reduceLeDiff, Nat.reduceLT, reduceIte, true_or, or_true, not_false_eq_true, not_true_eq_false, and_self, and_true, true_and, LIT, Int32.reduceLT, Int32.reduceLE, Int32.reduceToNatClampNeg]
  unfold a_may
  cases hb : hasB (vN V 1) g
  · exact ⟨M, rfl, FrG.refl _ M, h⟩
  · rw [if_neg (by decide), p_isYear (by omega)]
    cases hy : inB y 0 2999
    · exact ⟨M, rfl, FrG.refl _ M, h⟩
    · simp only [RW.all h.1, MR, ckk_T, deR_s, deQ_s, deQ_n, bkV_s, bkI_s, bkJ_s, bkQ_s, bkQ_n, ckb0, ckb1, ckb2, ckb3, eq_self, Nat.reduceEqDiff, Nat.reduceLeDiff, Nat.reduceLT, reduceIte, true_or, or_true, not_false_eq_true, not_true_eq_false, and_self, and_true, true_and, LIT, Int32.reduceLT, Int32.reduceLE, Int32.reduceToNatClampNeg, b2i_t]
      rw [h.has (by omega) ks0 (by decide)]
      simp only [RW.all h.1, MR, ckk_T, deR_s, deQ_s, deQ_n, bkV_s, bkI_s, bkJ_s, bkQ_s, bkQ_n, ckb0, ckb1, ckb2, ckb3, eq_self, Nat.reduceEqDiff, Nat.reduceLeDiff, Nat.reduceLT, reduceIte, true_or, or_true, not_false_eq_true, not_true_eq_false, and_self, and_true, true_and, LIT, Int32.reduceLT, Int32.reduceLE, Int32.reduceToNatClampNeg]
      cases hb2 : hasB (vN V 0) m
      · exact ⟨M, rfl, FrG.refl _ M, h⟩
      · rw [if_neg (by decide), p_isState (by omega)]
        cases hs : inB s 0 16777215
        · exact ⟨M, rfl, FrG.refl _ M, h⟩
        · obtain ⟨gi, hgi, rfl⟩ := (hasB_iff (by omega)).mp hb
          obtain ⟨mi, hmi, rfl⟩ := (hasB_iff (by omega)).mp hb2
          obtain ⟨s1, s2, s3⟩ := h.stops
          obtain ⟨g', e⟩ := (p_mayBe (by omega : 5 ≤ d) h.1 (show mi < 40 by omega) (h.sl0 hmi) (show gi < 8 by omega) (h.sl (show 1 < 4 by decide) hgi) s1 s2 s3 y s).self
          simp only [RW.all h.1, MR, ckk_T, deR_s, deQ_s, deQ_n, bkV_s, bkI_s, bkJ_s, bkQ_s, bkQ_n, ckb0, ckb1, ckb2, ckb3, eq_self, Nat.reduceEqDiff, Nat.reduceLeDiff, Nat.reduceLT, reduceIte, true_or, or_true, not_false_eq_true, not_true_eq_false, and_self, and_true, true_and, LIT, Int32.reduceLT, Int32.reduceLE, Int32.reduceToNatClampNeg, b2i_t]
          rw [e]
          simp only [MR, ckk_T, deR_s, deQ_s, deQ_n, bkV_s, bkI_s, bkJ_s, bkQ_s, bkQ_n, ckb0, ckb1, ckb2, ckb3, eq_self, Nat.reduceEqDiff, Nat.reduceLeDiff, Nat.reduceLT, reduceIte, true_or, or_true, not_false_eq_true, not_true_eq_false, and_self, and_true, true_and, LIT, Int32.reduceLT, Int32.reduceLE, Int32.reduceToNatClampNeg, Bool.and_self]
          rw [nI_clamp (by omega), nI_clamp (by omega)]
          refine ⟨setF M 104 g', ?_, g104 M g', h.f104 g'⟩
          have q := rMay_v h.2.1 (by omega) hgi hmi y s
          have hx : (nxV V gi (vF V) (fun m _ => vOp V y m) mi s).isSome = rMay (aI M) (mI M 90 9) (rN (aI M) 3) gi y mi s := by
            unfold nxV
            cases hm : rMay (aI M) (mI M 90 9) (rN (aI M) 3) gi y mi s
            · rw [if_neg]
              · rfl
              · rintro ⟨_, z⟩
                rw [q.mpr z] at hm
                cases hm
            · rw [if_pos ⟨hmi, q.mp hm⟩]; rfl
          rw [hx]
          cases rMay (aI M) (mI M 90 9) (rN (aI M) 3) gi y mi s <;> rfl
theorem p_isAsked {D : Nat} (hD : 3 ≤ D) {M : ej_Mem} {V : View} {mk : Nat} (h : KR M V mk) (g w y : Int32) : cal D jm_Ref_isAsked [.ref 90, .int g, .int w, .int y] M = some (some (.int (b2i (askB V g w y))), M) := by
  obtain ⟨d, rfl⟩ : ∃ d, D = d + 1 := ⟨D - 1, by omega⟩
  rw [ca_Ref_isAsked, eq_Ref_isAsked_0]
  simp only [RW.all h.1, MR, ckk_T, deR_s, deQ_s, deQ_n, bkV_s, bkI_s, bkJ_s, bkQ_s, bkQ_n, ckb0, ckb1, ckb2, ckb3, eq_self, Nat.reduceEqDiff, Nat.reduceLeDiff, Nat.reduceLT, reduceIte, true_or, or_true, not_false_eq_true, not_true_eq_false, and_self, and_true, true_and, LIT, Int32.reduceLT, Int32.reduceLE, Int32.reduceToNatClampNeg]
  rw [h.has (by omega) ks1 (by decide)]
  simp only [RW.all h.1, MR, ckk_T, deR_s, deQ_s, deQ_n, bkV_s, bkI_s, bkJ_s, bkQ_s, bkQ_n, ckb0, ckb1, ckb2, ckb3, eq_self, Nat.reduceEqDiff, Nat.reduceLeDiff, Nat.reduceLT, reduceIte, true_or, or_true, not_false_eq_true, not_true_eq_false, and_self, and_true, true_and, LIT, Int32.reduceLT, Int32.reduceLE, Int32.reduceToNatClampNeg]
  unfold askB
  cases hb : hasB (vN V 1) g
  · rfl
  · rw [if_neg (by decide), h.has (by omega) ks2 (by decide)]
    simp only [RW.all h.1, MR, ckk_T, deR_s, deQ_s, deQ_n, bkV_s, bkI_s, bkJ_s, bkQ_s, bkQ_n, ckb0, ckb1, ckb2, ckb3, eq_self, Nat.reduceEqDiff, Nat.reduceLeDiff, Nat.reduceLT, reduceIte, true_or, or_true, not_false_eq_true, not_true_eq_false, and_self, and_true, true_and, LIT, Int32.reduceLT, Int32.reduceLE, Int32.reduceToNatClampNeg]
    cases hb2 : hasB (vN V 2) w
    · rfl
    · rw [if_neg (by decide), p_isYear (by omega)]
      cases hy : inB y 0 2999 <;> rfl
theorem ask_get {V : View} (hV : VOK V) {g w y : Int32} (ha : askB V g w y = true) : ∃ gi wi, gi < vN V 1 ∧ wi < vN V 2 ∧ g = nI gi ∧ w = nI wi ∧ g.toNatClampNeg = gi ∧ w.toNatClampNeg = wi ∧ inB y 0 2999 = true := by
  unfold askB at ha
  rw [Bool.and_eq_true, Bool.and_eq_true] at ha
  have h1 := hV.le (show 1 < 4 by decide)
  have h2 := hV.le (show 2 < 4 by decide)
  obtain ⟨gi, hg, rfl⟩ := (hasB_iff (by omega)).mp ha.1
  obtain ⟨wi, hw, rfl⟩ := (hasB_iff (by omega)).mp ha.2.1
  exact ⟨gi, wi, hg, hw, rfl, rfl, nI_clamp (by omega), nI_clamp (by omega), ha.2.2⟩
/-- a search of its own, whatever the three choices say -/
def KS (M : ej_Mem) (V : View) (mk : Nat) : Prop := RW M ∧ RV (aI M) (mI M 90) V ∧ VOK V ∧ MK M mk
theorem KR.ks {M : ej_Mem} {V : View} {mk : Nat} (h : KR M V mk) : KS M V mk := ⟨h.1, h.2.1, h.2.2.1, h.2.2.2.2⟩
theorem KS.fr {M M' : ej_Mem} {V : View} {mk mk' : Nat} (h : KS M V mk) (f : Fr Prc M M') (hm : MK M' mk') : KS M' V mk' :=
  ⟨f.rw h.1, h.2.1.fr h.2.2.1 f (fun o k q z => by unfold Prc at z; omega) (fun k q z => by unfold Prc at z; omega), h.2.2.1, hm⟩
theorem KS.set {M : ej_Mem} {V : View} {mk : Nat} (h : KS M V mk) {k : Nat} (hk : 40 ≤ k ∧ k ≤ 42) (v : Int32) : KS (setI M 90 k v) V mk := by
  have f : Fr (fun o j => o = 90 ∧ j = k) M (setI M 90 k v) := Fr.setI M v ⟨rfl, rfl⟩
  exact ⟨f.rw h.1, h.2.1.fr h.2.2.1 f (fun o j q z => by omega) (fun j q z => by omega), h.2.2.1, h.2.2.2.fr f (fun j => by omega) (by omega)⟩
theorem gset8 (M : ej_Mem) (k : Nat) (v : Int32) (hk : 2 ≤ k := by decide) : FrG P8 M (setI M 90 k v) := FrG.setI M v ⟨by omega, by omega, by omega, fun _ => hk⟩
theorem grc {M M' : ej_Mem} (f : Fr Prc M M') : FrG P8 M M' := f.g.mono (fun o k _ q => by unfold Prc at q; unfold P8; omega)
theorem r_srch {D : Nat} (hD : 7 ≤ D) {M : ej_Mem} {V : View} {mk gi wi : Nat} (h : KS M V mk) (hmk : mk < 2 ^ 30) (hg : gi < vN V 1) (hw : wi < vN V 2) (y : Int32) {ok : Nat → Int32 → Bool} (hok : ∀ m, m < vN V 0 → ∀ s, (tolV V (mI M 90 41) (mI M 90 40) (mI M 90 42) m s && vOp V y m) = ok m s) :
    ∃ M', cal D jm_Ref_reaches [.ref 90, .int (nI gi), .int (nI wi), .int y] M = some (some (.int (nI (srch V gi wi (vF V) ok).2.2.2)), M') ∧ Fr Prc M M' ∧ RS M' (srch V gi wi (vF V) ok) ∧ KS M' V (mk + 1) := by
  have l3 := h.2.2.1.1 3 (by decide)
  have m3 : mst 3 = 8 := rfl
  have X : RX M gi (some wi) := ⟨h.1, h.2.1.1, by rw [h.2.1.2.1 1 (by decide)]; exact hg, fun i e => by cases e; rw [h.2.1.2.1 2 (by decide)]; exact hw⟩
  obtain ⟨M', e, f, r, k⟩ := p_reaches hD y X h.2.2.2 hmk
  rw [h.2.1.2.1 0 (by decide), nxR_v h.2.1 (by omega) hg, wsR_v h.2.1 hw, first_v h.2.1 hg, nxV_congr hok] at e r
  exact ⟨M', e, f, r, h.fr f k⟩
theorem tol_none {V : View} (hV : VOK V) {m : Nat} (hm : m < vN V 0) (s : Int32) : tolV V (-1) (-1) (-1) m s = true := by
  have l := hV.le (show 0 < 4 by decide)
  have : nI m ≠ -1 := by
    intro q
    have := nI_pos' (n := m) (by omega)
    rw [q] at this
    exact absurd this (by decide)
  unfold tolV
  rw [decide_eq_true this, decide_eq_true rfl]; rfl
theorem KR.back {M M' : ej_Mem} {V : View} {mk mk' : Nat} (h : KR M V mk) (f : Fr Prc M M') (k : KS M' V mk') : KR M' V mk' :=
  ⟨k.1, k.2.1, k.2.2.1, ⟨by rw [f.i (by unfold Prc; omega)]; exact h.2.2.2.1.1, by rw [f.i (by unfold Prc; omega)]; exact h.2.2.2.1.2.1, by rw [f.i (by unfold Prc; omega)]; exact h.2.2.2.1.2.2⟩, k.2.2.2⟩
theorem r_reached {D : Nat} (hD : 8 ≤ D) {M : ej_Mem} {V : View} {mk : Nat} (h : KR M V mk) (hmk : mk < 2 ^ 29) (g w y : Int32) : ∃ M' mk', cal D jm_Ref_reached [.ref 90, .int g, .int w, .int y] M = some (some (.int (a_reached V g w y)), M') ∧ FrG P8 M M' ∧ KR M' V mk' ∧ mk' ≤ mk + 1 := by
  obtain ⟨d, rfl⟩ : ∃ d, D = d + 1 := ⟨D - 1, by omega⟩
  rw [ca_Ref_reached, eq_Ref_reached_0]
  simp only [RW.all h.1, MR, ckk_T, deR_s, deQ_s, deQ_n, bkV_s, bkI_s, bkJ_s, bkQ_s, bkQ_n, ckb0, ckb1, ckb2, ckb3, eq_self, Nat.reduceEqDiff, Nat.reduceLeDiff, Nat.reduceLT, reduceIte, true_or, or_true, not_false_eq_true, not_true_eq_false, and_self, and_true, true_and, LIT, Int32.reduceLT, Int32.reduceLE, Int32.reduceToNatClampNeg]
  rw [p_isAsked (by omega) h]
  simp only [RW.all h.1, MR, ckk_T, deR_s, deQ_s, deQ_n, bkV_s, bkI_s, bkJ_s, bkQ_s, bkQ_n, ckb0, ckb1, ckb2, ckb3, eq_self, Nat.reduceEqDiff, Nat.reduceLeDiff, Nat.reduceLT, reduceIte, true_or, or_true, not_false_eq_true, not_true_eq_false, and_self, and_true, true_and, LIT, Int32.reduceLT, Int32.reduceLE, Int32.reduceToNatClampNeg]
  unfold a_reached
  cases ha : askB V g w y
  · exact ⟨M, mk, rfl, FrG.refl _ M, h, by omega⟩
  · obtain ⟨gi, wi, hg, hw, rfl, rfl, eg, ew, _⟩ := ask_get h.2.2.1 ha
    obtain ⟨M', e, f, r, k⟩ := r_srch (by omega : 7 ≤ d) h.ks (by omega) hg hw y (ok := fun m _ => vOp V y m) (fun m hm s => by rw [h.2.2.2.1.1, h.2.2.2.1.2.1, h.2.2.2.1.2.2, tol_none h.2.2.1 hm, Bool.true_and])
    rw [if_neg (by decide), e, eg, ew]
    exact ⟨M', mk + 1, rfl, grc f, h.back f k, by omega⟩
theorem r_safe {D : Nat} (hD : 8 ≤ D) {M : ej_Mem} {V : View} {mk : Nat} (h : KR M V mk) (hmk : mk < 2 ^ 29) (g w y tr : Int32) : ∃ M' mk', cal D jm_Ref_safe [.ref 90, .int g, .int w, .int y, .int tr] M = some (some (.int (a_safe V g w y tr)), M') ∧ FrG P8 M M' ∧ KR M' V mk' ∧ mk' ≤ mk + 1 := by
  obtain ⟨d, rfl⟩ : ∃ d, D = d + 1 := ⟨D - 1, by omega⟩
  rw [ca_Ref_safe, eq_Ref_safe_0]
  simp only [RW.all h.1, MR, ckk_T, deR_s, deQ_s, deQ_n, bkV_s, bkI_s, bkJ_s, bkQ_s, bkQ_n, ckb0, ckb1, ckb2, ckb3, eq_self, Nat.reduceEqDiff, Nat.reduceLeDiff, Nat.reduceLT, reduceIte, true_or, or_true, not_false_eq_true, not_true_eq_false, and_self, and_true, true_and, LIT, Int32.reduceLT, Int32.reduceLE, Int32.reduceToNatClampNeg]
  rw [p_isAsked (by omega) h]
  simp only [RW.all h.1, MR, ckk_T, deR_s, deQ_s, deQ_n, bkV_s, bkI_s, bkJ_s, bkQ_s, bkQ_n, ckb0, ckb1, ckb2, ckb3, eq_self, Nat.reduceEqDiff, Nat.reduceLeDiff, Nat.reduceLT, reduceIte, true_or, or_true, not_false_eq_true, not_true_eq_false, and_self, and_true, true_and, LIT, Int32.reduceLT, Int32.reduceLE, Int32.reduceToNatClampNeg]
  unfold a_safe
  cases ha : askB V g w y
  · rw [Bool.and_false]; exact ⟨M, mk, rfl, FrG.refl _ M, h, by omega⟩
  · have E := p_inI (by omega : 1 ≤ d) tr 0 65535 M
    rw [show Int32.toInt64 0 = 0 from by decide, show Int32.toInt64 65535 = 65535 from by decide] at E
    rw [if_neg (by decide), E]
    cases hin : inB tr 0 65535
    · exact ⟨M, mk, rfl, FrG.refl _ M, h, by omega⟩
    · obtain ⟨gi, wi, hg, hw, rfl, rfl, eg, ew, _⟩ := ask_get h.2.2.1 ha
      have K1 := h.ks.set (k := 42) (by omega) tr
      have htr : ¬ tr = -1 := by
        rintro rfl
        exact absurd hin (by decide)
      obtain ⟨M2, e, f, r, k⟩ := r_srch (by omega : 7 ≤ d) K1 (by omega) hg hw y (ok := okS V y tr) (fun m hm s => by
        have q1 : mI (setI M 90 42 tr) 90 41 = -1 := by rw [gI_n (by omega)]; exact h.2.2.2.1.2.1
        have q2 : mI (setI M 90 42 tr) 90 40 = -1 := by rw [gI_n (by omega)]; exact h.2.2.2.1.1
        rw [q1, q2, gI_s]
        have l := h.2.2.1.le (show 0 < 4 by decide)
        have hne : nI m ≠ -1 := by
          intro q
          have := nI_pos' (n := m) (by omega)
          rw [q] at this
          exact absurd this (by decide)
        unfold tolV okS
        rw [decide_eq_true hne, decide_eq_true (rfl : (-1 : Int32) = -1), decide_eq_false htr, Bool.true_and, Bool.true_or, Bool.true_and, Bool.false_or, Bool.and_comm])
      simp only [RW.all h.1, MR, ckk_T, deR_s, deQ_s, deQ_n, bkV_s, bkI_s, bkJ_s, bkQ_s, bkQ_n, ckb0, ckb1, ckb2, ckb3, eq_self, Nat.reduceEqDiff, Nat.reduceLeDiff, Nat.reduceLT, reduceIte, true_or, or_true, not_false_eq_true, not_true_eq_false, and_self, and_true, true_and, LIT, Int32.reduceLT, Int32.reduceLE, Int32.reduceToNatClampNeg, b2i_t]
      rw [e, eg, ew]
      simp only [RW.all k.1, MR, ckk_T, deR_s, deQ_s, deQ_n, bkV_s, bkI_s, bkJ_s, bkQ_s, bkQ_n, ckb0, ckb1, ckb2, ckb3, eq_self, Nat.reduceEqDiff, Nat.reduceLeDiff, Nat.reduceLT, reduceIte, true_or, or_true, not_false_eq_true, not_true_eq_false, and_self, and_true, true_and, LIT, Int32.reduceLT, Int32.reduceLE, Int32.reduceToNatClampNeg]
      have K3 := k.set (k := 42) (by omega) (-1)
      have KRf : KR (setI M2 90 42 (-1)) V (mk + 1) := ⟨K3.1, K3.2.1, K3.2.2.1, ⟨by rw [gI_n (by omega), f.i (by unfold Prc; omega), gI_n (by omega)]; exact h.2.2.2.1.1, by rw [gI_n (by omega), f.i (by unfold Prc; omega), gI_n (by omega)]; exact h.2.2.2.1.2.1, gI_s _ _ _ _⟩, K3.2.2.2⟩
      have GG : FrG P8 M (setI M2 90 42 (-1)) := ((gset8 M 42 tr).trans (grc f)).trans (gset8 M2 42 (-1))
      obtain ⟨B, Bn⟩ := srch_end h.2.2.1 gi wi (vF V) (okS V y tr)
      have b4 := B.2.2.2.2.2.2.2.2
      generalize srch V gi wi (vF V) (okS V y tr) = b at *
      by_cases s2 : b.2.2.2 = 2
      · rw [if_pos (show nI b.2.2.2 = 2 by rw [s2]; rfl), if_pos s2]
        refine ⟨_, mk + 1, ?_, GG, KRf, by omega⟩
        rw [up_n (show (43 : Nat) ≠ 42 by decide), r.2.2.2.1]
        rfl
      · have n2 : ¬ nI b.2.2.2 = 2 := fun q => s2 ((st_eq b4 (by decide)).mp q)
        rw [if_neg n2, if_neg s2]
        by_cases s4 : b.2.2.2 = 4
        · rw [if_pos (show nI b.2.2.2 = 4 by rw [s4]; rfl), if_pos s4]
          exact ⟨_, mk + 1, rfl, GG, KRf, by omega⟩
        · have n4 : ¬ nI b.2.2.2 = 4 := fun q => s4 ((st_eq b4 (by decide)).mp q)
          rw [if_neg n4, if_neg s4]
          exact ⟨_, mk + 1, rfl, GG, KRf, by omega⟩
theorem rkeys_loop {D : Nat} (hD : 7 ≤ D) {V : View} {gi wi : Nat} {y : Int32} (hg : gi < vN V 1) (hw : wi < vN V 2) : ∀ (n m mq : Nat) (M : ej_Mem) (acc : Int64), m + n = vN V 0 → KS M V mq → mq + n < 2 ^ 30 → mI M 90 40 = -1 → mI M 90 42 = -1 → (∀ k, k < 64 → bJ acc k = (decide (k < m) && keyB V gi wi y k)) →
    ∃ x M' mk', rn jm_Ref_keys (cal D) 20 [some (.ref 90), some (.int (nI gi)), some (.int (nI wi)), some (.int y), some (.long acc), none, some (.int (nI m))] [] M = some (some (.long x), M') ∧ (∀ k, k < 64 → bJ x k = keyB V gi wi y k) ∧ FrG P8 M M' ∧ KR M' V mk' ∧ mk' ≤ mq + n
  | 0, m, mq, M, acc, hm, h, hb, q40, q42, ha => by
    have l0 := h.2.2.1.le (show 0 < 4 by decide)
    refine ⟨acc, setI M 90 41 (-1), mq, ?_, fun k hk => ?_, gset8 M 41 (-1), ?_, by omega⟩
    · rw [eq_Ref_keys_20]
      simp only [RW.all h.1, MR, ckk_T, deR_s, deQ_s, deQ_n, bkV_s, bkI_s, bkJ_s, bkQ_s, bkQ_n, ckb0, ckb1, ckb2, ckb3, eq_self, Nat.reduceEqDiff, Nat.reduceLeDiff, Nat.reduceLT, reduceIte, true_or, or_true, not_false_eq_true, not_true_eq_false, and_self, and_true, true_and, LIT, Int32.reduceLT, Int32.reduceLE, Int32.reduceToNatClampNeg]
      rw [(h.2.1.1 0 (by decide)).1, h.2.1.2.1 0 (by decide), if_pos (nI_le (by omega) (by omega))]
    · rw [ha k hk]
      unfold keyB
      rw [show m = vN V 0 by omega]
      cases decide (k < vN V 0) <;> rfl
    · have K := h.set (k := 41) (by omega) (-1)
      exact ⟨K.1, K.2.1, K.2.2.1, ⟨by rw [gI_n (by omega)]; exact q40, gI_s _ _ _ _, by rw [gI_n (by omega)]; exact q42⟩, K.2.2.2⟩
  | n + 1, m, mq, M, acc, hm, h, hb, q40, q42, ha => by
    have hV := h.2.2.1
    have l0 := hV.le (show 0 < 4 by decide)
    rw [eq_Ref_keys_20]
    simp only [RW.all h.1, MR, ckk_T, deR_s, deQ_s, deQ_n, bkV_s, bkI_s, bkJ_s, bkQ_s, bkQ_n, ckb0, ckb1, ckb2, ckb3, eq_self, Nat.reduceEqDiff, Nat.reduceLeDiff, Nat.reduceLT, reduceIte, true_or, or_true, not_false_eq_true, not_true_eq_false, and_self, and_true, true_and, LIT, Int32.reduceLT, Int32.reduceLE, Int32.reduceToNatClampNeg]
    rw [(h.2.1.1 0 (by decide)).1, h.2.1.2.1 0 (by decide), if_neg (nI_ge (by omega) (by omega)), nI_1]
    have K1 := h.set (k := 41) (by omega) (nI m)
    obtain ⟨M2, e2, f2, r2, K2⟩ := r_srch hD K1 (by omega) hg hw y (ok := okW V y m) (fun k hk s => by
      have z1 : mI (setI M 90 41 (nI m)) 90 40 = -1 := by rw [gI_n (by omega)]; exact q40
      have z2 : mI (setI M 90 41 (nI m)) 90 42 = -1 := by rw [gI_n (by omega)]; exact q42
      rw [z1, z2, gI_s]
      unfold tolV okW
      rw [decide_eq_true (rfl : (-1 : Int32) = -1), Bool.true_or, Bool.true_or, Bool.and_true, Bool.and_true, Bool.and_comm]
      congr 1
      apply decide_eq_decide.mpr
      constructor
      · intro q z; exact q (by rw [z])
      · intro q z; exact q ((nI_eq (by omega) (by omega)).mp z))
    rw [e2]
    simp only [MR, ckk_T, deR_s, deQ_s, deQ_n, bkV_s, bkI_s, bkJ_s, bkQ_s, bkQ_n, ckb0, ckb1, ckb2, ckb3, eq_self, Nat.reduceEqDiff, Nat.reduceLeDiff, Nat.reduceLT, reduceIte, true_or, or_true, not_false_eq_true, not_true_eq_false, and_self, and_true, true_and, LIT, Int32.reduceLT, Int32.reduceLE, Int32.reduceToNatClampNeg]
    have B := srch_end hV gi wi (vF V) (okW V y m)
    have w40 : mI M2 90 40 = -1 := by rw [f2.i (by unfold Prc; omega), gI_n (by omega)]; exact q40
    have w42 : mI M2 90 42 = -1 := by rw [f2.i (by unfold Prc; omega), gI_n (by omega)]; exact q42
    have G2 := (gset8 M 41 (nI m)).trans (grc f2)
    have acc2 : ∀ b : Bool, keyB V gi wi y m = b → ∀ acc' : Int64, (∀ k, k < 64 → bJ acc' k = (bJ acc k || (decide (k = m) && b))) → ∀ k, k < 64 → bJ acc' k = (decide (k < m + 1) && keyB V gi wi y k) := by
      intro b hb acc' hacc k hk
      rw [hacc k hk, ha k hk]
      by_cases q : k = m
      · subst q
        rw [hb]
        simp
      · have : (k < m) = (k < m + 1) := by apply propext; omega
        simp only [q, decide_false, Bool.false_and, Bool.or_false, this]
    by_cases s3 : (srch V gi wi (vF V) (okW V y m)).2.2.2 = 3
    · rw [if_pos (show nI (srch V gi wi (vF V) (okW V y m)).2.2.2 = 3 by rw [s3]; rfl)]
      have hk : keyB V gi wi y m = true := by
        unfold keyB
        rw [decide_eq_true s3, decide_eq_true (show m < vN V 0 by omega)]; rfl
      obtain ⟨x, M', mk', e, hx, f, K, hmk⟩ := rkeys_loop hD hg hw n (m + 1) (mq + 1) M2 (acc ||| ej_ls 0 1 (nI m)) (by omega) K2 (by omega) w40 w42 (acc2 true hk _ (fun k hk => by rw [bJ_or, bJ_shl (by omega) hk, Bool.and_true]))
      exact ⟨x, M', mk', e, hx, G2.trans f, K, by omega⟩
    · have n3 : ¬ nI (srch V gi wi (vF V) (okW V y m)).2.2.2 = 3 := fun q => s3 ((st_eq B.1.2.2.2.2.2.2.2.2 (by decide)).mp q)
      rw [if_neg n3]
      have hk : keyB V gi wi y m = false := by
        unfold keyB
        rw [decide_eq_false s3, Bool.and_false]
      obtain ⟨x, M', mk', e, hx, f, K, hmk⟩ := rkeys_loop hD hg hw n (m + 1) (mq + 1) M2 (acc ||| 0) (by omega) K2 (by omega) w40 w42 (acc2 false hk _ (fun k _ => by rw [bJ_or, bJ_0]; simp))
      exact ⟨x, M', mk', e, hx, G2.trans f, K, by omega⟩
theorem r_keys {D : Nat} (hD : 8 ≤ D) {M : ej_Mem} {V : View} {mk : Nat} (h : KR M V mk) (hmk : mk < 2 ^ 29) (g w y : Int32) : ∃ x M' mk', cal D jm_Ref_keys [.ref 90, .int g, .int w, .int y] M = some (some (.long x), M') ∧ (askB V g w y = false → x = -1) ∧ (askB V g w y = true → ∀ k, k < 64 → bJ x k = keyB V g.toNatClampNeg w.toNatClampNeg y k) ∧ FrG P8 M M' ∧ KR M' V mk' ∧ mk' ≤ mk + 40 := by
  obtain ⟨d, rfl⟩ : ∃ d, D = d + 1 := ⟨D - 1, by omega⟩
  have l0 := h.2.2.1.le (show 0 < 4 by decide)
  rw [ca_Ref_keys, eq_Ref_keys_0]
  simp only [RW.all h.1, MR, ckk_T, deR_s, deQ_s, deQ_n, bkV_s, bkI_s, bkJ_s, bkQ_s, bkQ_n, ckb0, ckb1, ckb2, ckb3, eq_self, Nat.reduceEqDiff, Nat.reduceLeDiff, Nat.reduceLT, reduceIte, true_or, or_true, not_false_eq_true, not_true_eq_false, and_self, and_true, true_and, LIT, Int32.reduceLT, Int32.reduceLE, Int32.reduceToNatClampNeg]
  rw [p_isAsked (by omega) h]
  simp only [RW.all h.1, MR, ckk_T, deR_s, deQ_s, deQ_n, bkV_s, bkI_s, bkJ_s, bkQ_s, bkQ_n, ckb0, ckb1, ckb2, ckb3, eq_self, Nat.reduceEqDiff, Nat.reduceLeDiff, Nat.reduceLT, reduceIte, true_or, or_true, not_false_eq_true, not_true_eq_false, and_self, and_true, true_and, LIT, Int32.reduceLT, Int32.reduceLE, Int32.reduceToNatClampNeg]
  cases ha : askB V g w y
  · exact ⟨-1, M, mk, rfl, fun _ => rfl, fun q => (by cases q), FrG.refl _ M, h, by omega⟩
  · obtain ⟨gi, wi, hg, hw, rfl, rfl, eg, ew, _⟩ := ask_get h.2.2.1 ha
    rw [if_neg (by decide), eg, ew]
    obtain ⟨x, M', mk', e, hx, f, K, hm⟩ := rkeys_loop (by omega : 7 ≤ d) hg hw (y := y) (vN V 0) 0 mk M 0 (by omega) h.ks (by omega) h.2.2.2.1.1 h.2.2.2.1.2.2 (fun k hk => by rw [bJ_0]; simp)
    exact ⟨x, M', mk', e, fun q => (by cases q), fun _ => hx, f, K, by omega⟩
theorem rlast_loop {D : Nat} (hD : 7 ≤ D) {V : View} {gi wi : Nat} {l3 : Int32} {b : Nat} (hb : b < 3000) (hg : gi < vN V 1) (hw : wi < vN V 2) : ∀ (n y mq : Nat) (M : ej_Mem), y + n = b + 1 → KR M V mq → mq + n < 2 ^ 30 →
    ∃ M' mk', rn jm_Ref_last (cal D) 38 [some (.ref 90), some (.int (nI gi)), some (.int (nI wi)), some (.int l3), some (.int (nI b)), some (.int (nI y))] [] M = some (some (.int (lstV V gi wi n (nI y))), M') ∧ FrG P8 M M' ∧ KR M' V mk' ∧ mk' ≤ mq + n
  | 0, y, mq, M, hy, h, hm => by
    rw [eq_Ref_last_38, if_pos (nI_lt (by omega) (by omega)), if_neg (nI_ge (by omega) (by omega))]
    exact ⟨M, mq, rfl, FrG.refl _ M, h, by omega⟩
  | n + 1, y, mq, M, hy, h, hm => by
    have hV := h.2.2.1
    rw [eq_Ref_last_38, if_neg (nI_nlt (by omega) (by omega))]
    simp only [RW.all h.1, MR, ckk_T, deR_s, deQ_s, deQ_n, bkV_s, bkI_s, bkJ_s, bkQ_s, bkQ_n, ckb0, ckb1, ckb2, ckb3, eq_self, Nat.reduceEqDiff, Nat.reduceLeDiff, Nat.reduceLT, reduceIte, true_or, or_true, not_false_eq_true, not_true_eq_false, and_self, and_true, true_and, LIT, Int32.reduceLT, Int32.reduceLE, Int32.reduceToNatClampNeg]
    obtain ⟨M2, e2, f2, r2, K2⟩ := r_srch hD h.ks (by omega) hg hw (nI y) (ok := fun m _ => vOp V (nI y) m) (fun m hm s => by rw [h.2.2.2.1.1, h.2.2.2.1.2.1, h.2.2.2.1.2.2, tol_none h.2.2.1 hm, Bool.true_and])
    rw [e2]
    simp only [MR, ckk_T, deR_s, deQ_s, deQ_n, bkV_s, bkI_s, bkJ_s, bkQ_s, bkQ_n, ckb0, ckb1, ckb2, ckb3, eq_self, Nat.reduceEqDiff, Nat.reduceLeDiff, Nat.reduceLT, reduceIte, true_or, or_true, not_false_eq_true, not_true_eq_false, and_self, and_true, true_and, LIT, Int32.reduceLT, Int32.reduceLE, Int32.reduceToNatClampNeg]
    have B := srch_end hV gi wi (vF V) (fun m _ => vOp V (nI y) m)
    unfold lstV
    by_cases s3 : (srch V gi wi (vF V) (fun m _ => vOp V (nI y) m)).2.2.2 = 3
    · rw [if_pos (show nI (srch V gi wi (vF V) (fun m _ => vOp V (nI y) m)).2.2.2 = 3 by rw [s3]; rfl), if_pos s3, if_pos (nI_le (by omega) (by omega))]
      exact ⟨M2, mq + 1, rfl, grc f2, h.back f2 K2, by omega⟩
    · have n3 : ¬ nI (srch V gi wi (vF V) (fun m _ => vOp V (nI y) m)).2.2.2 = 3 := fun q => s3 ((st_eq B.1.2.2.2.2.2.2.2.2 (by decide)).mp q)
      rw [if_neg n3, if_neg s3, nI_1]
      obtain ⟨M', mk', e, f, K, hmk⟩ := rlast_loop hD (l3 := l3) hb hg hw n (y + 1) (mq + 1) M2 (by omega) (h.back f2 K2) (by omega)
      exact ⟨M', mk', e, (grc f2).trans f, K, by omega⟩
theorem r_last {D : Nat} (hD : 8 ≤ D) {M : ej_Mem} {V : View} {mk : Nat} (h : KR M V mk) (hmk : mk < 2 ^ 29) (g w a b : Int32) : ∃ M' mk', cal D jm_Ref_last [.ref 90, .int g, .int w, .int a, .int b] M = some (some (.int (a_last V g w a b)), M') ∧ FrG P8 M M' ∧ KR M' V mk' ∧ mk' ≤ mk + 100 := by
  obtain ⟨d, rfl⟩ : ∃ d, D = d + 1 := ⟨D - 1, by omega⟩
  rw [ca_Ref_last, eq_Ref_last_0]
  simp only [RW.all h.1, MR, ckk_T, deR_s, deQ_s, deQ_n, bkV_s, bkI_s, bkJ_s, bkQ_s, bkQ_n, ckb0, ckb1, ckb2, ckb3, eq_self, Nat.reduceEqDiff, Nat.reduceLeDiff, Nat.reduceLT, reduceIte, true_or, or_true, not_false_eq_true, not_true_eq_false, and_self, and_true, true_and, LIT, Int32.reduceLT, Int32.reduceLE, Int32.reduceToNatClampNeg]
  rw [p_isAsked (by omega) h]
  simp only [RW.all h.1, MR, ckk_T, deR_s, deQ_s, deQ_n, bkV_s, bkI_s, bkJ_s, bkQ_s, bkQ_n, ckb0, ckb1, ckb2, ckb3, eq_self, Nat.reduceEqDiff, Nat.reduceLeDiff, Nat.reduceLT, reduceIte, true_or, or_true, not_false_eq_true, not_true_eq_false, and_self, and_true, true_and, LIT, Int32.reduceLT, Int32.reduceLE, Int32.reduceToNatClampNeg]
  unfold a_last
  have no : ∀ t : Bool, t = false → ∃ M' mk', (some (some (Value.int (-1)), M) : Option ej_R) = some (some (.int (if t = true then lstV V g.toNatClampNeg w.toNatClampNeg (b.toNatClampNeg + 1 - a.toNatClampNeg) a else -1)), M') ∧ FrG P8 M M' ∧ KR M' V mk' ∧ mk' ≤ mk + 100 := by
    intro t ht
    rw [ht]
    exact ⟨M, mk, rfl, FrG.refl _ M, h, by omega⟩
  cases ha : askB V g w a
  · refine no _ ?_
    simp
  · obtain ⟨gi, wi, hg, hw, rfl, rfl, eg, ew, ya⟩ := ask_get h.2.2.1 ha
    have E := p_inI (by omega : 1 ≤ d) b a 2999 M
    rw [show Int32.toInt64 2999 = 2999 from by decide] at E
    rw [if_neg (by decide), E, ya]
    obtain ⟨aj, ha3, rfl⟩ := inB_get ya
    have hin : inB b (nI aj) 2999 = (inB b 0 2999 && decide (nI aj ≤ b)) := by
      unfold inB
      rw [← Bool.decide_and]
      apply decide_eq_decide.mpr
      constructor
      · rintro ⟨q1, q2⟩; exact ⟨⟨Int32.le_trans (nI_pos' (by omega)) q1, q2⟩, q1⟩
      · rintro ⟨⟨_, q2⟩, q1⟩; exact ⟨q1, q2⟩
    rw [hin]
    cases yb : inB b 0 2999
    · simp only [MR, ckk_T, deR_s, deQ_s, deQ_n, bkV_s, bkI_s, bkJ_s, bkQ_s, bkQ_n, ckb0, ckb1, ckb2, ckb3, eq_self, Nat.reduceEqDiff, Nat.reduceLeDiff, Nat.reduceLT, reduceIte, true_or, or_true, not_false_eq_true, not_true_eq_false, and_self, and_true, true_and, LIT, Int32.reduceLT, Int32.reduceLE, Int32.reduceToNatClampNeg, Bool.false_and, b2i_f]
      exact no _ rfl
    · cases q1 : decide (nI aj ≤ b)
      · simp only [MR, ckk_T, deR_s, deQ_s, deQ_n, bkV_s, bkI_s, bkJ_s, bkQ_s, bkQ_n, ckb0, ckb1, ckb2, ckb3, eq_self, Nat.reduceEqDiff, Nat.reduceLeDiff, Nat.reduceLT, reduceIte, true_or, or_true, not_false_eq_true, not_true_eq_false, and_self, and_true, true_and, LIT, Int32.reduceLT, Int32.reduceLE, Int32.reduceToNatClampNeg, Bool.and_false, b2i_f]
        exact no _ rfl
      · simp only [MR, ckk_T, deR_s, deQ_s, deQ_n, bkV_s, bkI_s, bkJ_s, bkQ_s, bkQ_n, ckb0, ckb1, ckb2, ckb3, eq_self, Nat.reduceEqDiff, Nat.reduceLeDiff, Nat.reduceLT, reduceIte, true_or, or_true, not_false_eq_true, not_true_eq_false, and_self, and_true, true_and, LIT, Int32.reduceLT, Int32.reduceLE, Int32.reduceToNatClampNeg, Bool.and_self, b2i_t]
        obtain ⟨bj, hb3, rfl⟩ := inB_get yb
        rw [decide_eq_true_iff] at q1
        have hle : aj ≤ bj := by
          rcases Nat.lt_or_ge bj aj with z | z
          · exact absurd q1 (nI_ge z (by omega))
          · exact z
        by_cases q2 : nI bj - nI aj < 100
        · rw [if_pos q2, decide_eq_true q2]
          rw [pk_sub hle] at q2
          have hlt : bj - aj < 100 := by
            have := (nI_ltI (a := bj - aj) (b := 100) (by omega) (by decide)).mp q2
            exact this
          rw [eg, ew]
          simp only [Bool.and_self, if_true]
          rw [nI_clamp (by omega), nI_clamp (by omega)]
          obtain ⟨M2, mk2, e2, f2, K2, hm2⟩ := rlast_loop (by omega : 7 ≤ d) (l3 := nI aj) (show bj < 3000 by omega) hg hw (bj + 1 - aj) aj mk M (by omega) h (by omega)
          exact ⟨M2, mk2, e2, f2, K2, by omega⟩
        · rw [if_neg q2, decide_eq_false q2]
          exact no _ rfl
