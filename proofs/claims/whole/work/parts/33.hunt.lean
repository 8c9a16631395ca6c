/-! the class's search: its rows, its table -/
def HA (M : ej_Mem) (h cap N sh : Nat) : Prop := (mC M h = 1 ∧ mI M h 0 = nI cap ∧ mI M h 1 = nI sh ∧ mR M h 2 = some (h + 1) ∧ mR M h 3 = some (h + 2) ∧ mR M h 4 = some (h + 3)) ∧
  (mC M (h + 1) = 100 ∧ mC M (h + 2) = 100 ∧ mC M (h + 3) = 100) ∧ (mN M (h + 1) = cap ∧ mN M (h + 2) = cap ∧ mN M (h + 3) = N)
def HZ (cap N sh : Nat) : Prop := (cap = 500 ∧ N = 1024 ∧ sh = 22) ∨ (cap = 4000 ∧ N = 8192 ∧ sh = 19)
def hC (sh : Nat) (s : Int32) : Nat := (s * -1640531527).toBitVec.toNat / 2 ^ sh
def hsl (M : ej_Mem) (h q : Nat) : Nat := (aI M (h + 3) q).toNatClampNeg
def HR (M : ej_Mem) (h cap N sh : Nat) (b : BS) : Prop := HA M h cap N sh ∧ (mI M h 5 = nI b.1.length ∧ mI M h 6 = nI b.2.2.1 ∧ mI M h 7 = nI b.2.2.2) ∧ b.1.length ≤ cap ∧ b.1.Nodup ∧
  (∀ k, k < b.1.length → aI M (h + 1) k = b.1.getD k 0) ∧ b.2.1.length = b.1.length ∧ (∀ k, k < b.1.length → aI M (h + 2) k = nI (64 * (b.2.1.getD k (0, 0)).1 + (b.2.1.getD k (0, 0)).2)) ∧
  (∀ q, q < N → aI M (h + 3) q = nI (hsl M h q)) ∧ Tab N (hC sh) (hsl M h) (fun k => b.1.getD k 0) b.1.length
def HT (M : ej_Mem) (h cap N sh : Nat) (xs : List Int32) : Prop := HA M h cap N sh ∧ xs.length ≤ cap ∧ xs.Nodup ∧ (∀ k, k < xs.length → aI M (h + 1) k = xs.getD k 0) ∧ (∀ q, q < N → aI M (h + 3) q = nI (hsl M h q)) ∧ Tab N (hC sh) (hsl M h) (fun k => xs.getD k 0) xs.length
theorem HR.ht {M : ej_Mem} {h cap N sh : Nat} {b : BS} (H : HR M h cap N sh b) : HT M h cap N sh b.1 := ⟨H.1, H.2.2.1, H.2.2.2.1, H.2.2.2.2.1, H.2.2.2.2.2.2.2.1, H.2.2.2.2.2.2.2.2⟩
def Ph (h o k : Nat) : Prop := h ≤ o ∧ o ≤ h + 3
theorem HZ.caps {cap N sh : Nat} (z : HZ cap N sh) : 0 < cap ∧ cap < N ∧ N ≤ 8192 := by
  rcases z with ⟨rfl, rfl, rfl⟩ | ⟨rfl, rfl, rfl⟩ <;> decide
theorem hC_lt {cap N sh : Nat} (z : HZ cap N sh) (s : Int32) : hC sh s < N := by
  unfold hC
  have := (s * -1640531527).toBitVec.isLt
  generalize (s * -1640531527).toBitVec.toNat = x at *
  rcases z with ⟨rfl, rfl, rfl⟩ | ⟨rfl, rfl, rfl⟩ <;> omega
theorem hash_eq {cap N sh : Nat} (z : HZ cap N sh) (s : Int32) : ej_bin 8 (s * -1640531527) (nI sh) = nI (hC sh s) := by
  unfold hC
  have h := (s * -1640531527).toBitVec.isLt
  have e := nI_self (s * -1640531527)
  generalize hx : (s * -1640531527) = y at *
  rw [← e, pk_tn h]
  rcases z with ⟨rfl, rfl, rfl⟩ | ⟨rfl, rfl, rfl⟩
  · exact ushr_N h (nI 22) 22 (by decide)
  · exact ushr_N h (nI 19) 19 (by decide)
theorem nodup_getD {l : List Int32} (h : l.Nodup) {a b : Nat} (ha : a < l.length) (hb : b < l.length) (e : l.getD a 0 = l.getD b 0) : a = b := by
  simp [List.getD, ha, hb] at e
  have hp := List.pairwise_iff_getElem.mp h
  rcases Nat.lt_trichotomy a b with g | g | g
  · exact absurd e (hp a b ha hb g)
  · exact g
  · exact absurd e.symm (hp b a hb ha g)
theorem slot_loop {cl : Nat → List Value → ej_Mem → Option ej_R} {M : ej_Mem} {h cap N sh : Nat} {xs : List Int32} (z : HZ cap N sh) (H : HT M h cap N sh xs) {s : Int32} {i : Nat} (hi : i < N)
    (h1 : hsl M h (prb N (hC sh) s i) = 0 ∨ (hsl M h (prb N (hC sh) s i) ≠ 0 ∧ xs.getD (hsl M h (prb N (hC sh) s i) - 1) 0 = s)) (h2 : ∀ j, j < i → hsl M h (prb N (hC sh) s j) ≠ 0 ∧ xs.getD (hsl M h (prb N (hC sh) s j) - 1) 0 ≠ s) :
    ∀ (n t : Nat) (o4 : Option Value), t + n = i → rn jm_Hunt_slotOf cl 12 [some (.ref h), some (.int s), some (.int (nI (prb N (hC sh) s t))), some (.int (nI t)), o4] [] M = some (some (.int (nI (prb N (hC sh) s i))), M)
  | 0, t, o4, ht => by
    obtain ⟨hA, hc, _, hx, hq, hT⟩ := H
    obtain ⟨z1, z2, z3⟩ := z.caps
    have hp := prb_lt (by omega : 0 < N) (hC sh) s t
    have e : t = i := by omega
    subst e
    rw [eq_Hunt_slotOf_12]
    simp only [hA.1, hA.2.1, hA.2.2, MR, ckk_T, deR_s, deQ_s, deQ_n, bkV_s, bkI_s, bkJ_s, bkQ_s, bkQ_n, ckb0, ckb1, ckb2, ckb3, eq_self, Nat.reduceEqDiff, Nat.reduceLeDiff, Nat.reduceLT, reduceIte, true_or, or_true, not_false_eq_true, not_true_eq_false, and_self, and_true, true_and, LIT, Int32.reduceLT, Int32.reduceLE, Int32.reduceToNatClampNeg, ofNat_nI, ckb_n hp (show N < 2 ^ 31 by omega), nI_clamp (show prb N (hC sh) s t < 2 ^ 31 by omega), hq _ hp]
    rw [if_neg (nI_ge hi (by omega))]
    rcases h1 with g | ⟨g0, g⟩
    · rw [g, if_pos (by decide)]
    · have hv := hT.1 _ hp
      rw [nI_m1 (by omega), if_neg (nI_pos (by omega)), ckb_n (by omega) (by omega), nI_clamp (by omega), hx _ (by omega), if_pos g]
  | n + 1, t, o4, ht => by
    have ih := slot_loop (cl := cl) z H hi h1 h2 n (t + 1)
    obtain ⟨hA, hc, _, hx, hq, hT⟩ := H
    obtain ⟨z1, z2, z3⟩ := z.caps
    have hp := prb_lt (by omega : 0 < N) (hC sh) s t
    obtain ⟨g0, g⟩ := h2 t (by omega)
    have hv := hT.1 _ hp
    rw [eq_Hunt_slotOf_12]
    simp only [hA.1, hA.2.1, hA.2.2, MR, ckk_T, deR_s, deQ_s, deQ_n, bkV_s, bkI_s, bkJ_s, bkQ_s, bkQ_n, ckb0, ckb1, ckb2, ckb3, eq_self, Nat.reduceEqDiff, Nat.reduceLeDiff, Nat.reduceLT, reduceIte, true_or, or_true, not_false_eq_true, not_true_eq_false, and_self, and_true, true_and, LIT, Int32.reduceLT, Int32.reduceLE, Int32.reduceToNatClampNeg, ofNat_nI, ckb_n hp (show N < 2 ^ 31 by omega), nI_clamp (show prb N (hC sh) s t < 2 ^ 31 by omega), hq _ hp]
    rw [if_neg (nI_ge (by omega : t < N) (by omega)), nI_m1 (by omega), if_neg (nI_pos (by omega)), ckb_n (by omega) (by omega), nI_clamp (by omega), hx _ (by omega), if_neg g, nI_1, nI_1]
    have hn := prb_next (by omega : 0 < N) (hC sh) s t
    by_cases hw : prb N (hC sh) s t + 1 < N
    · rw [if_pos hw] at hn
      rw [if_neg (nI_ge hw (by omega)), ← hn]
      exact ih _ (by omega)
    · rw [if_neg hw] at hn
      rw [if_pos (nI_le (by omega) (by omega))]
      have ih2 := ih (some (.int (nI (hsl M h (prb N (hC sh) s t) - 1)))) (by omega)
      rw [hn] at ih2
      exact ih2
theorem p_slotOfC {D : Nat} (hD : 1 ≤ D) {M : ej_Mem} {h cap N sh : Nat} {xs : List Int32} (z : HZ cap N sh) (H : HT M h cap N sh xs) (s : Int32) :
    ∃ i, i < N ∧ (∀ j, j < i → hsl M h (prb N (hC sh) s j) ≠ 0) ∧ (∀ k, k < xs.length → xs.getD k 0 = s → hsl M h (prb N (hC sh) s i) = k + 1) ∧ (s ∉ xs → hsl M h (prb N (hC sh) s i) = 0) ∧
      cal D jm_Hunt_slotOf [.ref h, .int s] M = some (some (.int (nI (prb N (hC sh) s i))), M) := by
  obtain ⟨d, rfl⟩ : ∃ d, D = d + 1 := ⟨D - 1, by omega⟩
  obtain ⟨z1, z2, z3⟩ := z.caps
  obtain ⟨i, hi, h1, h2, h3, h4⟩ := H.2.2.2.2.2.find (by have := H.2.1; omega) s (hC_lt z s) (fun a c ha hc e => nodup_getD H.2.2.1 ha hc e)
  refine ⟨i, hi, fun j hj => (h2 j hj).1, h3, fun hn => h4 (fun k hk e => hn (by rw [← e]; exact getD_mem hk)), ?_⟩
  have L := slot_loop (cl := cal d) z H hi h1 h2 i 0 none (by omega)
  rw [ca_Hunt_slotOf, eq_Hunt_slotOf_0]
  simp only [H.1.1, MR, ckk_T, deR_s, deQ_s, deQ_n, bkV_s, bkI_s, bkJ_s, bkQ_s, bkQ_n, ckb0, ckb1, ckb2, ckb3, eq_self, Nat.reduceEqDiff, Nat.reduceLeDiff, Nat.reduceLT, reduceIte, true_or, or_true, not_false_eq_true, not_true_eq_false, and_self, and_true, true_and, LIT, Int32.reduceLT, Int32.reduceLE, Int32.reduceToNatClampNeg]
  rw [hash_eq z]
  rw [prb_0 (hC_lt z s)] at L
  exact L
theorem p_placeOfC {D : Nat} (hD : 2 ≤ D) {M : ej_Mem} {h cap N sh : Nat} {b : BS} (z : HZ cap N sh) (H : HR M h cap N sh b) (s : Int32) :
    ∃ v, cal D jm_Hunt_placeOf [.ref h, .int s] M = some (some (.int v), M) ∧ (∀ k, k < b.1.length → b.1.getD k 0 = s → v = nI k) ∧ (s ∉ b.1 → v = -1) := by
  obtain ⟨d, rfl⟩ : ∃ d, D = d + 1 := ⟨D - 1, by omega⟩
  obtain ⟨z1, z2, z3⟩ := z.caps
  obtain ⟨i, hi, _, h3, h4, e⟩ := p_slotOfC (by omega : 1 ≤ d) z H.ht s
  have hp := prb_lt (by omega : 0 < N) (hC sh) s i
  rw [ca_Hunt_placeOf, eq_Hunt_placeOf_0]
  simp only [H.1.1, MR, ckk_T, deR_s, deQ_s, deQ_n, bkV_s, bkI_s, bkJ_s, bkQ_s, bkQ_n, ckb0, ckb1, ckb2, ckb3, eq_self, Nat.reduceEqDiff, Nat.reduceLeDiff, Nat.reduceLT, reduceIte, true_or, or_true, not_false_eq_true, not_true_eq_false, and_self, and_true, true_and, LIT, Int32.reduceLT, Int32.reduceLE, Int32.reduceToNatClampNeg]
  rw [e]
  simp only [H.1.2.1, H.1.2.2, MR, ckk_T, deR_s, deQ_s, deQ_n, bkV_s, bkI_s, bkJ_s, bkQ_s, bkQ_n, ckb0, ckb1, ckb2, ckb3, eq_self, Nat.reduceEqDiff, Nat.reduceLeDiff, Nat.reduceLT, reduceIte, true_or, or_true, not_false_eq_true, not_true_eq_false, and_self, and_true, true_and, LIT, Int32.reduceLT, Int32.reduceLE, Int32.reduceToNatClampNeg, ckb_n hp (show N < 2 ^ 31 by omega), nI_clamp (show prb N (hC sh) s i < 2 ^ 31 by omega), H.2.2.2.2.2.2.2.1 _ hp]
  refine ⟨_, rfl, ?_, ?_⟩
  · intro k hk ek
    rw [h3 k hk ek, nI_pred]
  · intro hn
    rw [h4 hn]; decide
/-- the memory after a state was met -/
def mtM (M : ej_Mem) (h p n : Nat) (s lk : Int32) : ej_Mem := setI (setA (setA (setA M (h + 3) p (nI (n + 1))) (h + 1) n s) (h + 2) n lk) h 5 (nI (n + 1))
theorem mtM_fr (M : ej_Mem) (h p n : Nat) (s lk : Int32) : Fr (Ph h) M (mtM M h p n s lk) :=
  (((Fr.setA M _ (show Ph h (h + 3) p from ⟨by omega, by omega⟩)).trans (Fr.setA _ _ (show Ph h (h + 1) n from ⟨by omega, by omega⟩))).trans (Fr.setA _ _ (show Ph h (h + 2) n from ⟨by omega, by omega⟩))).trans (Fr.setI _ _ (show Ph h h 5 from ⟨by omega, by omega⟩))
theorem HR_push {M : ej_Mem} {h cap N sh : Nat} {b : BS} (z : HZ cap N sh) (H : HR M h cap N sh b) {s : Int32} (hs : s ∉ b.1) (hc : b.1.length < cap) {i : Nat} (hi : i < N) (h0 : hsl M h (prb N (hC sh) s i) = 0) (hj : ∀ j, j < i → hsl M h (prb N (hC sh) s j) ≠ 0) (f m : Nat) :
    HR (mtM M h (prb N (hC sh) s i) b.1.length s (nI (64 * f + m))) h cap N sh (b.1 ++ [s], b.2.1 ++ [(f, m)], b.2.2.1, b.2.2.2) := by
  obtain ⟨z1, z2, z3⟩ := z.caps
  obtain ⟨hA, ⟨h5, h6, h7⟩, hcap, hnd, hx, hlen, hl, hq, hT⟩ := H
  have hp := prb_lt (by omega : 0 < N) (hC sh) s i
  have fr := mtM_fr M h (prb N (hC sh) s i) b.1.length s (nI (64 * f + m))
  have eI : ∀ k, k ≠ 5 → mI (mtM M h (prb N (hC sh) s i) b.1.length s (nI (64 * f + m))) h k = mI M h k := by
    intro k hk
    unfold mtM
    rw [gI_n (fun q => hk q.2)]
    rfl
  have e1 : aI (mtM M h (prb N (hC sh) s i) b.1.length s (nI (64 * f + m))) (h + 1) = va_up (aI M (h + 1)) b.1.length s := by
    show aI (setA (setA (setA M (h + 3) _ _) (h + 1) _ _) (h + 2) _ _) (h + 1) = _
    rw [gA_o (by omega), gA_u, gA_o (by omega)]
  have e2 : aI (mtM M h (prb N (hC sh) s i) b.1.length s (nI (64 * f + m))) (h + 2) = va_up (aI M (h + 2)) b.1.length (nI (64 * f + m)) := by
    show aI (setA (setA (setA M (h + 3) _ _) (h + 1) _ _) (h + 2) _ _) (h + 2) = _
    rw [gA_u, gA_o (by omega), gA_o (by omega)]
  have e3 : aI (mtM M h (prb N (hC sh) s i) b.1.length s (nI (64 * f + m))) (h + 3) = va_up (aI M (h + 3)) (prb N (hC sh) s i) (nI (b.1.length + 1)) := by
    show aI (setA (setA (setA M (h + 3) _ _) (h + 1) _ _) (h + 2) _ _) (h + 3) = _
    rw [gA_o (by omega), gA_o (by omega), gA_u]
  have eS : ∀ q, hsl (mtM M h (prb N (hC sh) s i) b.1.length s (nI (64 * f + m))) h q = va_up (hsl M h) (prb N (hC sh) s i) (b.1.length + 1) q := by
    intro q
    unfold hsl
    rw [e3, va_upe, va_upe]
    split
    · exact nI_clamp (by omega)
    · rfl
  refine ⟨?_, ⟨?_, ?_, ?_⟩, ?_, ?_, ?_, ?_, ?_, ?_, ?_⟩
  · unfold HA
    rw [fr.c, fr.r, fr.n, eI 0 (by decide), eI 1 (by decide)]
    exact hA
  · show _ = nI (b.1 ++ [s]).length
    rw [List.length_append]
    unfold mtM
    rw [gI_s]; rfl
  · rw [eI 6 (by decide)]; exact h6
  · rw [eI 7 (by decide)]; exact h7
  · show (b.1 ++ [s]).length ≤ cap
    simp; omega
  · exact List.nodup_append.mpr ⟨hnd, by simp, by
      intro x hx2 y hy e
      simp at hy
      subst hy; subst e
      exact hs hx2⟩
  · intro k hk
    show _ = (b.1 ++ [s]).getD k 0
    have hk2 : k < b.1.length + 1 := by simpa using hk
    rw [e1, getD_app, va_upe]
    by_cases g : k < b.1.length
    · rw [if_neg (by omega), if_pos g]; exact hx k g
    · rw [if_pos (by omega), if_neg g, if_pos (by omega)]
  · show (b.2.1 ++ [(f, m)]).length = (b.1 ++ [s]).length
    simp [hlen]
  · intro k hk
    show _ = nI (64 * ((b.2.1 ++ [(f, m)]).getD k (0, 0)).1 + ((b.2.1 ++ [(f, m)]).getD k (0, 0)).2)
    have hk2 : k < b.1.length + 1 := by simpa using hk
    rw [e2, getD_app, va_upe, hlen]
    by_cases g : k < b.1.length
    · rw [if_neg (by omega), if_pos g]; exact hl k g
    · rw [if_pos (by omega), if_neg g, if_pos (by omega)]
  · intro q hq2
    rw [eS, e3, va_upe, va_upe]
    split
    · rfl
    · exact hq q hq2
  · have T2 := hT.ins s hi h0 hj
    refine Tab.congr (by omega) ?_ (fun q _ => eS q) (xs := va_up (fun k => b.1.getD k 0) b.1.length s) ?_
    · show Tab N (hC sh) _ _ (b.1 ++ [s]).length
      rw [List.length_append]
      exact T2
    · intro k hk
      show (b.1 ++ [s]).getD k 0 = _
      have hk2 : k < b.1.length + 1 := by simpa using hk
      rw [getD_app, va_upe]
      by_cases g : k < b.1.length
      · rw [if_pos g, if_neg (by omega)]
      · rw [if_neg g, if_pos (by omega), if_pos (by omega)]
theorem HR_st {M : ej_Mem} {h cap N sh : Nat} {b : BS} (H : HR M h cap N sh b) (st : Nat) : HR (setI M h 7 (nI st)) h cap N sh (b.1, b.2.1, b.2.2.1, st) := by
  obtain ⟨hA, ⟨h5, h6, h7⟩, hcap, hnd, hx, hlen, hl, hq, hT⟩ := H
  refine ⟨?_, ⟨?_, ?_, ?_⟩, hcap, hnd, hx, hlen, hl, hq, hT⟩
  · unfold HA
    rw [gI_n (by omega), gI_n (by omega)]
    exact hA
  · rw [gI_n (by omega)]; exact h5
  · rw [gI_n (by omega)]; exact h6
  · exact gI_s _ _ _ _
theorem HR_gn {M : ej_Mem} {h cap N sh : Nat} {b : BS} (H : HR M h cap N sh b) (gn : Nat) : HR (setI M h 6 (nI gn)) h cap N sh (b.1, b.2.1, gn, b.2.2.2) := by
  obtain ⟨hA, ⟨h5, h6, h7⟩, hcap, hnd, hx, hlen, hl, hq, hT⟩ := H
  refine ⟨?_, ⟨?_, ?_, ?_⟩, hcap, hnd, hx, hlen, hl, hq, hT⟩
  · unfold HA
    rw [gI_n (by omega), gI_n (by omega)]
    exact hA
  · rw [gI_n (by omega)]; exact h5
  · exact gI_s _ _ _ _
  · rw [gI_n (by omega)]; exact h7
/-- a state that was not yet met is met -/
theorem p_meetC {D : Nat} (hD : 3 ≤ D) {M : ej_Mem} {h cap N sh w : Nat} {b : BS} (z : HZ cap N sh) (H : HR M h cap N sh b) (hst : b.2.2.2 = 1) (hw : WA M w) (qw : WQ (Ph h) M w) {s : Int32} (hs : s ∉ b.1) (f m : Nat) :
    ∃ M', cal D jm_Hunt_meet [.ref h, .int s, .int (nI (64 * f + m)), .ref w] M = some (none, M') ∧ Fr (Ph h) M M' ∧ HR M' h cap N sh (b_meet cap (wsC M w) s (f, m) b) := by
  obtain ⟨d, rfl⟩ : ∃ d, D = d + 1 := ⟨D - 1, by omega⟩
  obtain ⟨z1, z2, z3⟩ := z.caps
  have hcap := H.2.2.1
  rw [ca_Hunt_meet, eq_Hunt_meet_0]
  simp only [H.1.1, H.2.1, MR, ckk_T, deR_s, deQ_s, deQ_n, bkV_s, bkI_s, bkJ_s, bkQ_s, bkQ_n, ckb0, ckb1, ckb2, ckb3, eq_self, Nat.reduceEqDiff, Nat.reduceLeDiff, Nat.reduceLT, reduceIte, true_or, or_true, not_false_eq_true, not_true_eq_false, and_self, and_true, true_and, LIT, Int32.reduceLT, Int32.reduceLE, Int32.reduceToNatClampNeg]
  by_cases hc : b.1.length < cap
  · rw [if_pos (nI_lt hc (by omega))]
    obtain ⟨i, hi, hj, _, h4, e⟩ := p_slotOfC (by omega : 1 ≤ d) z H.ht s
    have hp := prb_lt (by omega : 0 < N) (hC sh) s i
    rw [e]
    have P := HR_push z H hs hc hi (h4 hs) hj f m
    have fr := mtM_fr M h (prb N (hC sh) s i) b.1.length s (nI (64 * f + m))
    simp only [H.1.1, H.1.2.1, H.1.2.2, H.2.1, MR, ckk_T, deR_s, deQ_s, deQ_n, bkV_s, bkI_s, bkJ_s, bkQ_s, bkQ_n, ckb0, ckb1, ckb2, ckb3, eq_self, Nat.reduceEqDiff, Nat.reduceLeDiff, Nat.reduceLT, reduceIte, true_or, or_true, not_false_eq_true, not_true_eq_false, and_self, and_true, true_and, LIT, Int32.reduceLT, Int32.reduceLE, Int32.reduceToNatClampNeg, nI_1, ckb_n hp (show N < 2 ^ 31 by omega), nI_clamp (show prb N (hC sh) s i < 2 ^ 31 by omega), ckb_n hc (show cap < 2 ^ 31 by omega), nI_clamp (show b.1.length < 2 ^ 31 by omega)]
    have hw2 := hw.fr fr qw
    have E := p_isTrueC (by omega : 2 ≤ d) hw2 hw2.ent s
    have hm : setI (setA (setA (setA M (h + 3) (prb N (hC sh) s i) (nI (b.1.length + 1))) (h + 1) b.1.length s) (h + 2) b.1.length (nI (64 * f + m))) h 5 (nI (b.1.length + 1)) = mtM M h (prb N (hC sh) s i) b.1.length s (nI (64 * f + m)) := rfl
    rw [hm]
    have hwh : ¬ w = h := fun e => qw.1 0 ⟨by omega, by omega⟩
    rw [fr.i (qw.1 5)] at E
    simp only [hw.1, if_neg hwh, MR, ckk_T, deR_s, deQ_s, deQ_n, bkV_s, bkI_s, bkJ_s, bkQ_s, bkQ_n, ckb0, ckb1, ckb2, ckb3, eq_self, Nat.reduceEqDiff, Nat.reduceLeDiff, Nat.reduceLT, reduceIte, true_or, or_true, not_false_eq_true, not_true_eq_false, and_self, and_true, true_and, LIT, Int32.reduceLT, Int32.reduceLE, Int32.reduceToNatClampNeg]
    rw [E]
    have hcc : mC (mtM M h (prb N (hC sh) s i) b.1.length s (nI (64 * f + m))) h = 1 := by rw [fr.c]; exact H.1.1.1
    have hws : cTst (mtM M h (prb N (hC sh) s i) b.1.length s (nI (64 * f + m))) w (mI M w 5) s = wsC M w s := cTst_fr fr qw _ _
    simp only [MR, ckk_T, deR_s, deQ_s, deQ_n, bkV_s, bkI_s, bkJ_s, bkQ_s, bkQ_n, ckb0, ckb1, ckb2, ckb3, eq_self, Nat.reduceEqDiff, Nat.reduceLeDiff, Nat.reduceLT, reduceIte, true_or, or_true, not_false_eq_true, not_true_eq_false, and_self, and_true, true_and, LIT, Int32.reduceLT, Int32.reduceLE, Int32.reduceToNatClampNeg, hcc, hws]
    have hbm : b_meet cap (wsC M w) s (f, m) b = (b.1 ++ [s], b.2.1 ++ [(f, m)], b.2.2.1, if wsC M w s then 2 else 1) := by
      unfold b_meet
      rw [if_neg (show ¬ b.1.length = cap by omega)]
    rw [hbm]
    cases hb : wsC M w s
    · refine ⟨mtM M h (prb N (hC sh) s i) b.1.length s (nI (64 * f + m)), if_pos b2i_f, fr, ?_⟩
      have P2 := P
      rw [hst] at P2
      exact P2
    · refine ⟨setI (mtM M h (prb N (hC sh) s i) b.1.length s (nI (64 * f + m))) h 7 2, ?_, fr.trans (Fr.setI _ _ ⟨Nat.le_refl h, by omega⟩), HR_st P 2⟩
      rw [if_neg (by decide)]
  · rw [if_neg (nI_nlt (by omega) (by omega))]
    refine ⟨_, rfl, Fr.setI M _ ⟨by omega, by omega⟩, ?_⟩
    unfold b_meet
    rw [if_pos (by omega)]
    exact HR_st H 4
