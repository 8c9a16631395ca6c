/-! the reference's search that goes on from call to call -/
def Pgo (o k : Nat) : Prop := (104 ≤ o ∧ o ≤ 110) ∨ (o = 90 ∧ (k = 27 ∨ k = 31 ∨ k = 32 ∨ k = 33 ∨ k = 37))
theorem P104_go (o k : Nat) : P104 o k → Pgo o k := by unfold P104 Pgo; omega
theorem Pm_go (o k : Nat) : Pm o k → Pgo o k := by unfold Pm Pgo; omega
theorem AgA.go {M M' : ej_Mem} (f : Fr Pgo M M') : AgA (aI M) (aI M') := AgA.of f (fun o h k q => by unfold Pgo at q; omega)
def nxG (M : ej_Mem) (gi : Nat) (y : Int32) (m : Nat) (s : Int32) : Option Int32 := if m < rN (aI M) 0 ∧ rMay (aI M) (mI M 90 9) (rN (aI M) 3) gi y m s = true then some (rBeh (aI M) m s) else none
theorem nxG_fr {M M' : ej_Mem} (f : Fr Pgo M M') (gi : Nat) (y : Int32) : nxG M' gi y = nxG M gi y := by
  funext m s
  unfold nxG
  rw [rN_ag (AgA.go f), rMay_ag (AgA.go f), rBeh_ag (AgA.go f), f.i (show ¬ Pgo 90 9 by unfold Pgo; omega)]
theorem wsR_go {M M' : ej_Mem} (f : Fr Pgo M M') (wo : Option Nat) : wsR M' wo = wsR M wo := by
  funext s
  cases wo with
  | none => rfl
  | some i => show rTs (aI M') _ s = rTs (aI M) _ s; rw [rTs_ag (AgA.go f)]
/-- the context of a search: which gift, wish, year -/
def GX (M : ej_Mem) (gi wi : Nat) (y : Int32) : Prop := RX M gi (some wi) ∧ mI M 90 34 = nI gi ∧ mI M 90 35 = nI wi ∧ mI M 90 36 = y
theorem GX.fr {M M' : ej_Mem} (f : Fr Pgo M M') {gi wi : Nat} {y : Int32} (h : GX M gi wi y) : GX M' gi wi y := by
  obtain ⟨⟨a, b, c, d⟩, e1, e2, e3⟩ := h
  refine ⟨⟨f.rw a, TXA_ag (AgA.go f) b, ?_, ?_⟩, ?_, ?_, ?_⟩
  · rw [rN_ag (AgA.go f)]; exact c
  · rw [rN_ag (AgA.go f)]; exact d
  · rw [f.i (by unfold Pgo; omega)]; exact e1
  · rw [f.i (by unfold Pgo; omega)]; exact e2
  · rw [f.i (by unfold Pgo; omega)]; exact e3
def RG (M : ej_Mem) (b : BS) : Prop := (mI M 90 31 = nI b.2.2.2 ∧ mI M 90 32 = nI b.1.length ∧ mI M 90 33 = nI b.2.2.1 ∧ mI M 90 37 = nI (b.1.length - 1)) ∧ (∀ k, k < b.1.length → aI M 108 k = b.1.getD k 0) ∧
  (b.1.length ≠ 0 → aI M 109 0 = -1) ∧ ∀ k, 0 < k → k < b.1.length → aI M 109 k = nI (b.2.1.getD k (0, 0)).1 ∧ aI M 110 k = nI (b.2.1.getD k (0, 0)).2
theorem RG.fr {P : Nat → Nat → Prop} {M M' : ej_Mem} (f : Fr P M M') (h1 : ¬ P 90 31 ∧ ¬ P 90 32 ∧ ¬ P 90 33 ∧ ¬ P 90 37) (h2 : ∀ k, ¬ P 108 k ∧ ¬ P 109 k ∧ ¬ P 110 k) {b : BS} (H : RG M b) : RG M' b := by
  unfold RG
  rw [f.i h1.1, f.i h1.2.1, f.i h1.2.2.1, f.i h1.2.2.2, f.af (o := 108) (fun k => (h2 k).1), f.af (o := 109) (fun k => (h2 k).2.1), f.af (o := 110) (fun k => (h2 k).2.2)]
  exact H
theorem RG.f104 {M : ej_Mem} {b : BS} (g : Nat → Int32) (H : RG M b) : RG (setF M 104 g) b := H.fr (fr104 M g) ⟨by unfold P104; omega, by unfold P104; omega, by unfold P104; omega, by unfold P104; omega⟩ (fun k => ⟨by unfold P104; omega, by unfold P104; omega, by unfold P104; omega⟩)
theorem RT.f104 {M : ej_Mem} {xs : List Int32} (g : Nat → Int32) (H : RT M xs) : RT (setF M 104 g) xs := H.fr (fr104 M g) (fun k => ⟨by unfold P104; omega, by unfold P104; omega, by unfold P104; omega⟩) (by unfold P104; omega)
theorem MK.f104 {M : ej_Mem} {mk : Nat} (g : Nat → Int32) (H : MK M mk) : MK (setF M 104 g) mk := H.fr (fr104 M g) (fun k => by unfold P104; omega) (by unfold P104; omega)
theorem RG_st {M : ej_Mem} {b : BS} (H : RG M b) (st : Nat) : RG (setI M 90 31 (nI st)) (b.1, b.2.1, b.2.2.1, st) := by
  obtain ⟨⟨h1, h2, h3, h4⟩, h5, h6, h7⟩ := H
  exact ⟨⟨gI_s _ _ _ _, by rw [gI_n (by omega)]; exact h2, by rw [gI_n (by omega)]; exact h3, by rw [gI_n (by omega)]; exact h4⟩, h5, h6, h7⟩
theorem RG_gn {M : ej_Mem} {b : BS} (H : RG M b) (gn : Nat) : RG (setI M 90 33 (nI gn)) (b.1, b.2.1, gn, b.2.2.2) := by
  obtain ⟨⟨h1, h2, h3, h4⟩, h5, h6, h7⟩ := H
  exact ⟨⟨by rw [gI_n (by omega)]; exact h1, by rw [gI_n (by omega)]; exact h2, gI_s _ _ _ _, by rw [gI_n (by omega)]; exact h4⟩, h5, h6, h7⟩
theorem p_meets {D : Nat} (hD : 5 ≤ D) {gi wi : Nat} {y : Int32} {i m mk : Nat} {t : Int32} {b : BS} {M : ej_Mem} (hX : GX M gi wi y) (H : RG M b) (hT : RT M b.1) (hK : MK M mk) (hk : BOKp 4000 b)
    (hi : i < b.1.length) (hm : m < 40) (ht : t ∉ b.1) :
    ∃ M', cal D jm_Ref_meets [.ref 90, .int t, .int (nI i), .int (nI m)] M = some (none, M') ∧ Fr Pgo M M' ∧ RG M' (b_meet 4000 (wsR M (some wi)) t (i, m) b) ∧ RT M' (b_meet 4000 (wsR M (some wi)) t (i, m) b).1 ∧ MK M' mk := by
  obtain ⟨d, rfl⟩ : ∃ d, D = d + 1 := ⟨D - 1, by omega⟩
  have hW := hX.1.1
  obtain ⟨⟨h1, h2, h3, h4⟩, h5, h6, h7⟩ := id H
  obtain ⟨k0, k1, k2, k3, k4, k5, k6, k7⟩ := hk
  have hlen : b.1.length < 2 ^ 31 := by omega
  rw [ca_Ref_meets, eq_Ref_meets_0]
  simp only [RW.all hW, h2, MR, ckk_T, deR_s, deQ_s, deQ_n, bkV_s, bkI_s, bkJ_s, bkQ_s, bkQ_n, ckb0, ckb1, ckb2, ckb3, eq_self, Nat.reduceEqDiff, Nat.reduceLeDiff, Nat.reduceLT, reduceIte, true_or, or_true, not_false_eq_true, not_true_eq_false, and_self, and_true, true_and, LIT, Int32.reduceLT, Int32.reduceLE, Int32.reduceToNatClampNeg]
  by_cases hc : b.1.length = 4000
  · rw [if_pos (by rw [hc]; rfl)]
    unfold b_meet
    rw [if_pos hc]
    refine ⟨_, rfl, Fr.setI M _ (by unfold Pgo; omega), RG_st H 4, ?_, ?_⟩
    · exact hT.fr (P := fun o k => o = 90 ∧ k = 31) (Fr.setI M _ (by omega)) (fun k => ⟨by omega, by omega, by omega⟩) (by omega)
    · exact hK.fr (P := fun o k => o = 90 ∧ k = 31) (Fr.setI M _ (by omega)) (fun k => by omega) (by omega)
  · have hc2 : ¬ nI b.1.length = 4000 := fun q => hc ((nI_eq hlen (by decide : 4000 < 2 ^ 31)).mp q)
    have hc3 : b.1.length < 4000 := by omega
    rw [if_neg hc2, b_meet_st hc]
    obtain ⟨M1, e1, f1, r1, mk1⟩ := p_marks (by omega : 2 ≤ d) hW hT hK ht (by omega)
    have W1 := f1.rw hW
    have q32 : mI M1 90 32 = nI b.1.length := by rw [f1.i (by unfold Pm; omega)]; exact h2
    have q35 : mI M1 90 35 = nI wi := by rw [f1.i (by unfold Pm; omega)]; exact hX.2.2.1
    rw [e1]
    simp only [RW.all W1, q32, q35, ckb_n hc3 (show 4000 < 2 ^ 31 by decide), nI_clamp hlen, MR, ckk_T, deR_s, deQ_s, deQ_n, bkV_s, bkI_s, bkJ_s, bkQ_s, bkQ_n, ckb0, ckb1, ckb2, ckb3, eq_self, Nat.reduceEqDiff, Nat.reduceLeDiff, Nat.reduceLT, reduceIte, true_or, or_true, not_false_eq_true, not_true_eq_false, and_self, and_true, true_and, LIT, Int32.reduceLT, Int32.reduceLE, Int32.reduceToNatClampNeg, up_n (show (35 : Nat) ≠ 37 by decide), up_n (show (32 : Nat) ≠ 37 by decide), up_n (show (35 : Nat) ≠ 32 by decide), nI_1]
    generalize hM2 : setI (setI (setA (setA (setA M1 108 b.1.length t) 109 b.1.length (nI i)) 110 b.1.length (nI m)) 90 37 (nI b.1.length)) 90 32 (nI (b.1.length + 1)) = M2
    have f2 : Fr (fun o k => o = 108 ∨ o = 109 ∨ o = 110 ∨ (o = 90 ∧ (k = 37 ∨ k = 32))) M1 M2 := by
      rw [← hM2]
      exact ((((Fr.setA M1 _ (by omega)).trans (Fr.setA _ _ (by omega))).trans (Fr.setA _ _ (by omega))).trans (Fr.setI _ _ (by omega))).trans (Fr.setI _ _ (by omega))
    have g2 : Fr Pgo M M2 := (f1.mono Pm_go).trans (f2.mono (fun o k => by unfold Pgo; omega))
    have X2 := hX.fr g2
    have hwi := hX.1.2.2.2 wi rfl
    have hw16 : wi < 16 := by have := (hX.1.2.1 2 (by decide)).2.1; have : mst 2 = 16 := rfl; omega
    have hsl : slOK (aI M2) (48 + wi) := (X2.1.2.1 2 (by decide)).2.2 wi (by rw [rN_ag (AgA.go g2)]; exact hwi)
    obtain ⟨g', e'⟩ := (p_isWished (by omega : 4 ≤ d) X2.1.1 hw16 hsl t).self
    have hws : rTs (aI M2) (12 * (48 + wi)) t = wsR M (some wi) t := by
      show _ = rTs (aI M) _ t
      rw [rTs_ag (AgA.go g2)]
    rw [e', hws]
    simp only [RW.all X2.1.1, MR, ckk_T, deR_s, deQ_s, deQ_n, bkV_s, bkI_s, bkJ_s, bkQ_s, bkQ_n, ckb0, ckb1, ckb2, ckb3, eq_self, Nat.reduceEqDiff, Nat.reduceLeDiff, Nat.reduceLT, reduceIte, true_or, or_true, not_false_eq_true, not_true_eq_false, and_self, and_true, true_and, LIT, Int32.reduceLT, Int32.reduceLE, Int32.reduceToNatClampNeg]
    have S2 : ∀ st, RG (setI (setF M2 104 g') 90 31 (nI st)) (b.1 ++ [t], b.2.1 ++ [(i, m)], b.2.2.1, st) := by
      intro st
      refine RG_st (b := (b.1 ++ [t], b.2.1 ++ [(i, m)], b.2.2.1, b.2.2.2)) (RG.f104 g' ?_) st
      refine ⟨⟨?_, ?_, ?_, ?_⟩, ?_, ?_, ?_⟩
      · rw [f2.i (by omega), f1.i (by unfold Pm; omega)]; exact h1
      · rw [← hM2, gI_s]
        show _ = nI (b.1 ++ [t]).length
        rw [List.length_append]; rfl
      · rw [f2.i (by omega), f1.i (by unfold Pm; omega)]; exact h3
      · rw [← hM2, gI_n (by omega), gI_s]
        show _ = nI ((b.1 ++ [t]).length - 1)
        rw [List.length_append]; rfl
      · intro k hk2
        have hk3 : k < b.1.length + 1 := by simpa using hk2
        have e8 : aI M2 108 = va_up (aI M 108) b.1.length t := by
          rw [← hM2]
          show aI (setA (setA (setA M1 108 b.1.length t) 109 b.1.length (nI i)) 110 b.1.length (nI m)) 108 = _
          rw [gA_o (by decide), gA_o (by decide), gA_u, f1.af (fun k q => by unfold Pm at q; omega)]
        show _ = (b.1 ++ [t]).getD k 0
        rw [e8, va_upe, getD_app]
        by_cases g : k < b.1.length
        · rw [if_neg (by omega), if_pos g]; exact h5 k g
        · rw [if_pos (by omega), if_neg g, if_pos (by omega)]
      · intro _
        have e9 : aI M2 109 = va_up (aI M 109) b.1.length (nI i) := by
          rw [← hM2]
          show aI (setA (setA (setA M1 108 b.1.length t) 109 b.1.length (nI i)) 110 b.1.length (nI m)) 109 = _
          rw [gA_o (by decide), gA_u, gA_o (by decide), f1.af (fun k q => by unfold Pm at q; omega)]
        rw [e9, va_upe, if_neg (by omega)]
        exact h6 (by omega)
      · intro k hk0 hk2
        have hk3 : k < b.1.length + 1 := by simpa using hk2
        have e9 : aI M2 109 = va_up (aI M 109) b.1.length (nI i) := by
          rw [← hM2]
          show aI (setA (setA (setA M1 108 b.1.length t) 109 b.1.length (nI i)) 110 b.1.length (nI m)) 109 = _
          rw [gA_o (by decide), gA_u, gA_o (by decide), f1.af (fun k q => by unfold Pm at q; omega)]
        have e10 : aI M2 110 = va_up (aI M 110) b.1.length (nI m) := by
          rw [← hM2]
          show aI (setA (setA (setA M1 108 b.1.length t) 109 b.1.length (nI i)) 110 b.1.length (nI m)) 110 = _
          rw [gA_u, gA_o (by decide), gA_o (by decide), f1.af (fun k q => by unfold Pm at q; omega)]
        show _ = nI ((b.2.1 ++ [(i, m)]).getD k (0, 0)).1 ∧ _ = nI ((b.2.1 ++ [(i, m)]).getD k (0, 0)).2
        rw [e9, e10, va_upe, va_upe, getD_app, k2]
        by_cases g : k < b.1.length
        · have q1 : ¬ k = b.1.length := by omega
          simp only [if_neg q1, if_pos g]; exact h7 k hk0 g
        · have q1 : k = b.1.length := by omega
          simp only [if_pos q1, if_neg g, and_self]
    have T2 : ∀ v, RT (setI (setF M2 104 g') 90 31 v) (b.1 ++ [t]) := fun v =>
      ((r1.fr f2 (fun k => ⟨by omega, by omega, by omega⟩) (by omega)).f104 g').fr (P := fun o k => o = 90 ∧ k = 31) (Fr.setI _ _ (by omega)) (fun k => ⟨by omega, by omega, by omega⟩) (by omega)
    have K2 : ∀ v, MK (setI (setF M2 104 g') 90 31 v) mk := fun v =>
      ((mk1.fr f2 (fun k => by omega) (by omega)).f104 g').fr (P := fun o k => o = 90 ∧ k = 31) (Fr.setI _ _ (by omega)) (fun k => by omega) (by omega)
    have F2 : ∀ v, Fr Pgo M (setI (setF M2 104 g') 90 31 v) := fun v => (g2.trans ((fr104 M2 g').mono P104_go)).trans (Fr.setI _ _ (by unfold Pgo; omega))
    cases wsR M (some wi) t
    · refine ⟨setI (setF M2 104 g') 90 31 1, if_pos b2i_f, F2 1, S2 1, T2 1, K2 1⟩
    · refine ⟨setI (setF M2 104 g') 90 31 2, if_neg (by decide), F2 2, S2 2, T2 2, K2 2⟩
theorem goes_end {M : ej_Mem} {b : BS} (H : RG M b) (hT : RT M b.1) {mk : Nat} (hK : MK M mk) (hk : BOKp 4000 b) :
    ∃ M', (if mI M 90 31 = 1 then (if mI M 90 33 = mI M 90 32 then (some (none, setI M 90 31 3) : Option ej_R) else some (none, setI M 90 31 (mI M 90 31))) else some (none, setI M 90 31 (mI M 90 31))) = some (none, M') ∧ Fr Pgo M M' ∧ RG M' (b_fin b) ∧ RT M' (b_fin b).1 ∧ MK M' mk := by
  obtain ⟨⟨h1, h2, h3, h4⟩, h5, h6, h7⟩ := id H
  obtain ⟨k0, k1, k2, k3, k4, k5, k6, k7⟩ := hk
  have F : ∀ v, Fr Pgo M (setI M 90 31 v) := fun v => Fr.setI M _ (by unfold Pgo; omega)
  have T : ∀ v, RT (setI M 90 31 v) b.1 := fun v => hT.fr (P := fun o k => o = 90 ∧ k = 31) (Fr.setI M _ (by omega)) (fun k => ⟨by omega, by omega, by omega⟩) (by omega)
  have K : ∀ v, MK (setI M 90 31 v) mk := fun v => hK.fr (P := fun o k => o = 90 ∧ k = 31) (Fr.setI M _ (by omega)) (fun k => by omega) (by omega)
  rw [h1, h2, h3]
  unfold b_fin
  by_cases hs : b.2.2.2 = 1
  · rw [if_pos (show nI b.2.2.2 = 1 by rw [hs]; rfl)]
    by_cases hg : b.2.2.1 = b.1.length
    · rw [if_pos (by rw [hg]), if_pos ⟨hs, hg⟩]
      exact ⟨_, rfl, F _, RG_st H 3, T _, K _⟩
    · rw [if_neg (fun q => hg ((nI_eq (by omega) (by omega)).mp q)), if_neg (fun q => hg q.2)]
      exact ⟨_, rfl, F _, RG_st H b.2.2.2, T _, K _⟩
  · have hn : ¬ nI b.2.2.2 = 1 := fun q => hs ((st_eq k7 (by decide)).mp q)
    rw [if_neg hn, if_neg (fun q => hs q.1)]
    exact ⟨_, rfl, F _, RG_st H b.2.2.2, T _, K _⟩
theorem goes_loop {D : Nat} (hD : 5 ≤ D) {gi wi : Nat} {y : Int32} {i mk : Nat} {s : Int32} : ∀ (n m : Nat) (M : ej_Mem) (b : BS) (o3 : Option Value), m + n = rN (aI M) 0 → GX M gi wi y → RG M b → RT M b.1 → MK M mk → BOKp 4000 b → i < b.1.length → b.1.getD i 0 = s →
    ∃ M', rn jm_Ref_goesThrough (cal D) 17 [some (.ref 90), some (.int (nI i)), some (.int (nI m)), o3] [] M = some (none, M') ∧ Fr Pgo M M' ∧ RG M' (b_fin (b_mvs (nxG M gi y) 4000 (wsR M (some wi)) i s n m b)) ∧ RT M' (b_fin (b_mvs (nxG M gi y) 4000 (wsR M (some wi)) i s n m b)).1 ∧ MK M' mk
  | 0, m, M, b, o3, hm, hX, H, hT, hK, hk, hi, he => by
    obtain ⟨t1, t2, t3⟩ := hX.1.2.1 0 (by decide)
    have m0 : mst 0 = 40 := rfl
    rw [eq_Ref_goesThrough_17]
    simp only [RW.all hX.1.1, MR, ckk_T, deR_s, deQ_s, deQ_n, bkV_s, bkI_s, bkJ_s, bkQ_s, bkQ_n, ckb0, ckb1, ckb2, ckb3, eq_self, Nat.reduceEqDiff, Nat.reduceLeDiff, Nat.reduceLT, reduceIte, true_or, or_true, not_false_eq_true, not_true_eq_false, and_self, and_true, true_and, LIT, Int32.reduceLT, Int32.reduceLE, Int32.reduceToNatClampNeg]
    rw [t1, if_pos (nI_le (by omega) (by omega))]
    exact goes_end H hT hK hk
  | n + 1, m, M, b, o3, hm, hX, H, hT, hK, hk, hi, he => by
    obtain ⟨t1, t2, t3⟩ := hX.1.2.1 0 (by decide)
    obtain ⟨u1, u2, u3⟩ := hX.1.2.1 1 (by decide)
    obtain ⟨v1, v2, v3⟩ := hX.1.2.1 3 (by decide)
    have m0 : mst 0 = 40 := rfl
    have m1 : mst 1 = 8 := rfl
    have m3 : mst 3 = 8 := rfl
    have hW := hX.1.1
    have hgi := hX.1.2.2.1
    obtain ⟨⟨h1, h2, h3, h4⟩, h5, h6, h7⟩ := id H
    have hl4 := hk.2.1
    have hsl : slOK (aI M) m := by have := t3 m (by omega); rw [show pl 0 + m = m by simp [pl]] at this; exact this
    have ih := goes_loop hD (gi := gi) (wi := wi) (y := y) (i := i) (mk := mk) (s := s) n (m + 1)
    rw [eq_Ref_goesThrough_17]
    simp only [RW.all hW, MR, ckk_T, deR_s, deQ_s, deQ_n, bkV_s, bkI_s, bkJ_s, bkQ_s, bkQ_n, ckb0, ckb1, ckb2, ckb3, eq_self, Nat.reduceEqDiff, Nat.reduceLeDiff, Nat.reduceLT, reduceIte, true_or, or_true, not_false_eq_true, not_true_eq_false, and_self, and_true, true_and, LIT, Int32.reduceLT, Int32.reduceLE, Int32.reduceToNatClampNeg, nI_1, ckb_n (show i < 4000 by omega) (show 4000 < 2 ^ 31 by decide), nI_clamp (show i < 2 ^ 31 by omega)]
    rw [t1, if_neg (nI_ge (by omega) (by omega)), h1]
    by_cases hs : b.2.2.2 = 1
    · rw [if_pos (show nI b.2.2.2 = 1 by rw [hs]; rfl), hX.2.1, hX.2.2.2, h5 i hi, he]
      obtain ⟨g1, e1⟩ := (p_mayBe (by omega : 5 ≤ D) hW (by omega) hsl (show gi < 8 by omega) (by have := u3 gi hgi; rw [show pl 1 + gi = 40 + gi from rfl] at this; exact this) v1 (by omega) (fun k hk2 => by have := v3 k hk2; rw [show pl 3 + k = 64 + k from rfl] at this; exact this) y s).self
      rw [e1]
      have hmv : b_mvs (nxG M gi y) 4000 (wsR M (some wi)) i s (n + 1) m b = b_mvs (nxG M gi y) 4000 (wsR M (some wi)) i s n (m + 1) (b_try (nxG M gi y) 4000 (wsR M (some wi)) i s m b) := rfl
      rw [hmv]
      have same : ∀ (g : Nat → Int32) (o : Option Value), b_try (nxG M gi y) 4000 (wsR M (some wi)) i s m b = b → ∃ M', rn jm_Ref_goesThrough (cal D) 17 [some (.ref 90), some (.int (nI i)), some (.int (nI (m + 1))), o] [] (setF M 104 g) = some (none, M') ∧ Fr Pgo M M' ∧
          RG M' (b_fin (b_mvs (nxG M gi y) 4000 (wsR M (some wi)) i s n (m + 1) (b_try (nxG M gi y) 4000 (wsR M (some wi)) i s m b))) ∧ RT M' (b_fin (b_mvs (nxG M gi y) 4000 (wsR M (some wi)) i s n (m + 1) (b_try (nxG M gi y) 4000 (wsR M (some wi)) i s m b))).1 ∧ MK M' mk := by
        intro g o hb
        rw [hb]
        have fg : Fr Pgo M (setF M 104 g) := (fr104 M g).mono P104_go
        obtain ⟨M2, e2, f2, r2, t2', k2⟩ := ih (setF M 104 g) b o (by rw [rN_ag (AgA.go fg)]; omega) (hX.fr fg) (H.f104 g) (hT.f104 g) (hK.f104 g) hk hi he
        rw [nxG_fr fg, wsR_go fg] at r2 t2'
        exact ⟨M2, e2, fg.trans f2, r2, t2', k2⟩
      cases hmy : rMay (aI M) (mI M 90 9) (rN (aI M) 3) gi y m s
      · simp only [RW.all hW, MR, ckk_T, deR_s, deQ_s, deQ_n, bkV_s, bkI_s, bkJ_s, bkQ_s, bkQ_n, ckb0, ckb1, ckb2, ckb3, eq_self, Nat.reduceEqDiff, Nat.reduceLeDiff, Nat.reduceLT, reduceIte, true_or, or_true, not_false_eq_true, not_true_eq_false, and_self, and_true, true_and, LIT, Int32.reduceLT, Int32.reduceLE, Int32.reduceToNatClampNeg, b2i_f]
        refine same g1 o3 ?_
        unfold b_try
        rw [if_pos hs]
        have : nxG M gi y m s = none := by
          unfold nxG
          rw [if_neg (fun q => by rw [hmy] at q; cases q.2)]
        rw [this]
      · simp only [RW.all hW, MR, ckk_T, deR_s, deQ_s, deQ_n, bkV_s, bkI_s, bkJ_s, bkQ_s, bkQ_n, ckb0, ckb1, ckb2, ckb3, eq_self, Nat.reduceEqDiff, Nat.reduceLeDiff, Nat.reduceLT, reduceIte, true_or, or_true, not_false_eq_true, not_true_eq_false, and_self, and_true, true_and, LIT, Int32.reduceLT, Int32.reduceLE, Int32.reduceToNatClampNeg, b2i_t, ckb_n (show i < 4000 by omega) (show 4000 < 2 ^ 31 by decide), nI_clamp (show i < 2 ^ 31 by omega)]
        rw [h5 i hi, he, p_behind (by omega) hW (by omega) hsl s g1]
        simp only [RW.all hW, MR, ckk_T, deR_s, deQ_s, deQ_n, bkV_s, bkI_s, bkJ_s, bkQ_s, bkQ_n, ckb0, ckb1, ckb2, ckb3, eq_self, Nat.reduceEqDiff, Nat.reduceLeDiff, Nat.reduceLT, reduceIte, true_or, or_true, not_false_eq_true, not_true_eq_false, and_self, and_true, true_and, LIT, Int32.reduceLT, Int32.reduceLE, Int32.reduceToNatClampNeg]
        have W1 : RW (setF M 104 g1) := hW
        rw [p_isMet (by omega) W1 (hT.f104 g1)]
        have hn : nxG M gi y m s = some (rBeh (aI M) m s) := by
          unfold nxG
          rw [if_pos ⟨by omega, hmy⟩]
        by_cases hin : rBeh (aI M) m s ∈ b.1
        · rw [decide_eq_true hin]
          simp only [RW.all hW, MR, ckk_T, deR_s, deQ_s, deQ_n, bkV_s, bkI_s, bkJ_s, bkQ_s, bkQ_n, ckb0, ckb1, ckb2, ckb3, eq_self, Nat.reduceEqDiff, Nat.reduceLeDiff, Nat.reduceLT, reduceIte, true_or, or_true, not_false_eq_true, not_true_eq_false, and_self, and_true, true_and, LIT, Int32.reduceLT, Int32.reduceLE, Int32.reduceToNatClampNeg, b2i_t]
          refine same g1 _ ?_
          unfold b_try
          rw [if_pos hs, hn]
          show (if rBeh (aI M) m s ∈ b.1 then b else _) = b
          rw [if_pos hin]
        · rw [decide_eq_false hin]
          simp only [RW.all hW, MR, ckk_T, deR_s, deQ_s, deQ_n, bkV_s, bkI_s, bkJ_s, bkQ_s, bkQ_n, ckb0, ckb1, ckb2, ckb3, eq_self, Nat.reduceEqDiff, Nat.reduceLeDiff, Nat.reduceLT, reduceIte, true_or, or_true, not_false_eq_true, not_true_eq_false, and_self, and_true, true_and, LIT, Int32.reduceLT, Int32.reduceLE, Int32.reduceToNatClampNeg, b2i_f]
          have fg : Fr Pgo M (setF M 104 g1) := (fr104 M g1).mono P104_go
          obtain ⟨M2, e2, f2, r2, t2', k2⟩ := p_meets hD (hX.fr fg) (H.f104 g1) (hT.f104 g1) (hK.f104 g1) hk hi (by omega : m < 40) hin
          rw [e2]
          have hb : b_try (nxG M gi y) 4000 (wsR M (some wi)) i s m b = b_meet 4000 (wsR M (some wi)) (rBeh (aI M) m s) (i, m) b := by
            unfold b_try
            rw [if_pos hs, hn]
            show (if rBeh (aI M) m s ∈ b.1 then b else _) = _
            rw [if_neg hin]
          rw [wsR_go fg, ← hb] at r2 t2'
          obtain ⟨a1, a2, a3⟩ := b_try_ok (nx := nxG M gi y) (w := wsR M (some wi)) (s := s) (m := m) hk hi (by omega)
          have f3 := fg.trans f2
          obtain ⟨M3, e3, f4, r3, t3', k3⟩ := ih M2 _ (some (.int (rBeh (aI M) m s))) (by rw [rN_ag (AgA.go f3)]; omega) (hX.fr f3) r2 t2' k2 a1 (by omega) (by rw [b_try_get hi]; exact he)
          rw [nxG_fr f3, wsR_go f3] at r3 t3'
          exact ⟨M3, e3, f3.trans f4, r3, t3', k3⟩
    · have hn : ¬ nI b.2.2.2 = 1 := fun q => hs ((st_eq hk.2.2.2.2.2.2.2 (by decide)).mp q)
      rw [if_neg hn, b_mvs_stop (n + 1) m b hs]
      have E := goes_end H hT hK hk
      rw [h1] at E
      exact E
theorem p_goesThrough {D : Nat} (hD : 6 ≤ D) {gi wi : Nat} {y : Int32} {mk : Nat} {M : ej_Mem} {b : BS} (hX : GX M gi wi y) (H : RG M b) (hT : RT M b.1) (hK : MK M mk) (hB : BOK 4000 b) (hs : b.2.2.2 = 1) :
    ∃ M', cal D jm_Ref_goesThrough [.ref 90] M = some (none, M') ∧ Fr Pgo M M' ∧ RG M' (b_pass (rN (aI M) 0) (nxG M gi y) 4000 (wsR M (some wi)) b) ∧ RT M' (b_pass (rN (aI M) 0) (nxG M gi y) 4000 (wsR M (some wi)) b).1 ∧ MK M' mk := by
  obtain ⟨d, rfl⟩ : ∃ d, D = d + 1 := ⟨D - 1, by omega⟩
  obtain ⟨k0, k1, k2, k3, k4, k5, k6, k7, k8⟩ := hB
  have hg := k6 hs
  rw [ca_Ref_goesThrough, eq_Ref_goesThrough_0]
  simp only [RW.all hX.1.1, MR, ckk_T, deR_s, deQ_s, deQ_n, bkV_s, bkI_s, bkJ_s, bkQ_s, bkQ_n, ckb0, ckb1, ckb2, ckb3, eq_self, Nat.reduceEqDiff, Nat.reduceLeDiff, Nat.reduceLT, reduceIte, true_or, or_true, not_false_eq_true, not_true_eq_false, and_self, and_true, true_and, LIT, Int32.reduceLT, Int32.reduceLE, Int32.reduceToNatClampNeg]
  rw [H.1.2.2.1, nI_1]
  have f1 : Fr (fun o k => o = 90 ∧ k = 33) M (setI M 90 33 (nI (b.2.2.1 + 1))) := Fr.setI M _ (by omega)
  have g1 : Fr Pgo M (setI M 90 33 (nI (b.2.2.1 + 1))) := f1.mono (fun o k => by unfold Pgo; omega)
  have hp : BOKp 4000 (b.1, b.2.1, b.2.2.1 + 1, b.2.2.2) := ⟨k0, k1, k2, hg, k4, k5, k7, k8⟩
  obtain ⟨M2, e2, f2, r2, t2, mk2⟩ := goes_loop (by omega : 5 ≤ d) (i := b.2.2.1) (s := b.1.getD b.2.2.1 0) (rN (aI M) 0) 0 _ (b.1, b.2.1, b.2.2.1 + 1, b.2.2.2) none (by rw [rN_ag (AgA.go g1)]; omega) (hX.fr g1) (RG_gn H (b.2.2.1 + 1)) (hT.fr f1 (fun k => ⟨by omega, by omega, by omega⟩) (by omega)) (hK.fr f1 (fun k => by omega) (by omega)) hp hg rfl
  rw [nxG_fr g1, wsR_go g1] at r2 t2
  exact ⟨M2, e2, g1.trans f2, r2, t2, mk2⟩
