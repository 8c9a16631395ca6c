/-! the reference's readings rest on some rows alone -/
def AgA (A B : Arr) : Prop := B 92 = A 92 ∧ B 93 = A 93 ∧ B 94 = A 94 ∧ B 95 = A 95 ∧ B 96 = A 96 ∧ B 97 = A 97 ∧ B 98 = A 98 ∧ B 99 = A 99 ∧ B 101 = A 101 ∧ B 102 = A 102
theorem rTs_ag {A B : Arr} (h : AgA A B) : rTs B = rTs A := by
  obtain ⟨_, h3, h4, h5, h6, h7, h8, h9, _, _⟩ := h
  funext q s; unfold rTs; rw [h3, h4, h8, h9]
theorem rC_ag {A B : Arr} (h : AgA A B) : rC B = rC A := by
  obtain ⟨_, h3, h4, h5, h6, h7, h8, h9, _, _⟩ := h
  funext q; unfold rC; rw [h5]
theorem rUn_ag {A B : Arr} (h : AgA A B) (sl : Nat) (k : Int32) : ∀ n q acc, rUn B sl k n q acc = rUn A sl k n q acc
  | 0, _, _ => rfl
  | n + 1, q, acc => by
    have h0 := h
    obtain ⟨_, h3, h4, h5, h6, h7, h8, h9, _, _⟩ := h
    unfold rUn; rw [rUn_ag h0 sl k n, h6, h7]
theorem rU_ag {A B : Arr} (h : AgA A B) : rU B = rU A := by
  funext sl k; unfold rU; rw [rUn_ag h, rC_ag h]
theorem rNd_ag {A B : Arr} (h : AgA A B) (s : Int32) : ∀ n q b, rNd B s n q b = rNd A s n q b
  | 0, _, _ => rfl
  | n + 1, q, b => by
    unfold rNd; rw [rNd_ag h s n, rTs_ag h, h.2.2.2.2.1]
theorem rBr_ag {A B : Arr} (h : AgA A B) (s : Int32) : ∀ n q b, rBr B s n q b = rBr A s n q b
  | 0, _, _ => rfl
  | n + 1, q, b => by
    unfold rBr; rw [rBr_ag h s n, rTs_ag h, h.2.2.2.2.1]
theorem rTn_ag {A B : Arr} (h : AgA A B) (s : Int32) : ∀ n q acc, rTn B s n q acc = rTn A s n q acc
  | 0, _, _ => rfl
  | n + 1, q, acc => by
    have h0 := h
    obtain ⟨_, h3, h4, h5, h6, h7, h8, h9, _, _⟩ := h
    unfold rTn; rw [rTn_ag h0 s n, rTs_ag h0, h6, h7, h8, h9]
theorem rSt_ag {A B : Arr} (h : AgA A B) (fc s : Int32) : ∀ n q b, rSt B fc s n q b = rSt A fc s n q b
  | 0, _, _ => rfl
  | n + 1, q, b => by
    unfold rSt; rw [rSt_ag h fc s n, rTs_ag h]
theorem rNeed_ag {A B : Arr} (h : AgA A B) : rNeed B = rNeed A := by
  funext m s; unfold rNeed; rw [rNd_ag h, rC_ag h]
theorem rTurn_ag {A B : Arr} (h : AgA A B) : rTurn B = rTurn A := by
  funext m s; unfold rTurn; rw [rTn_ag h, rC_ag h]
theorem rBar_ag {A B : Arr} (h : AgA A B) : rBar B = rBar A := by
  funext m s; unfold rBar; rw [rBr_ag h, rC_ag h]
theorem rStop_ag {A B : Arr} (h : AgA A B) : rStop B = rStop A := by
  funext fc nS gi s; unfold rStop; rw [rSt_ag h, rBar_ag h]
theorem rBeh_ag {A B : Arr} (h : AgA A B) : rBeh B = rBeh A := by
  funext m s; unfold rBeh; rw [rU_ag h]
theorem rMay_ag {A B : Arr} (h : AgA A B) : rMay B = rMay A := by
  funext fc nS gi y m s; unfold rMay; rw [rNeed_ag h, rBeh_ag h, rStop_ag h, h.2.2.2.2.2.2.2.2.1, h.2.2.2.2.2.2.2.2.2]
def rN (A : Arr) (k : Nat) : Nat := (A 92 k).toNatClampNeg
def TXA (A : Arr) : Prop := ∀ k, k < 4 → A 92 k = nI (rN A k) ∧ rN A k ≤ mst k ∧ ∀ i, i < rN A k → slOK A (pl k + i)
theorem slOK_ag {A B : Arr} (h : AgA A B) (sl : Nat) (hs : slOK A sl) : slOK B sl := by
  obtain ⟨_, h3, h4, h5, h6, h7, h8, h9, _, _⟩ := h
  unfold slOK clOK
  rw [h5, h6, h8, h9, h3]
  exact hs
theorem rN_ag {A B : Arr} (h : AgA A B) : rN B = rN A := by
  funext k; unfold rN; rw [h.1]
theorem TXA_ag {A B : Arr} (h : AgA A B) (t : TXA A) : TXA B := by
  intro k hk
  obtain ⟨a, b, c⟩ := t k hk
  rw [rN_ag h, h.1]
  exact ⟨a, b, fun i hi => slOK_ag h _ (c i hi)⟩
theorem AgA.of {P : Nat → Nat → Prop} {M M' : ej_Mem} (f : Fr P M M') (h : ∀ o, (92 ≤ o ∧ o ≤ 99) ∨ o = 101 ∨ o = 102 → ∀ k, ¬ P o k) : AgA (aI M) (aI M') :=
  ⟨f.af (h 92 (by omega)), f.af (h 93 (by omega)), f.af (h 94 (by omega)), f.af (h 95 (by omega)), f.af (h 96 (by omega)), f.af (h 97 (by omega)), f.af (h 98 (by omega)), f.af (h 99 (by omega)), f.af (h 101 (by omega)), f.af (h 102 (by omega))⟩
theorem Rd.self {M : ej_Mem} {r : ej_Mem → Option ej_R} {v : Int32} (h : Rd M r v) : ∃ g', r M = some (some (.int v), setF M 104 g') := by
  have := h (aI M 104)
  rw [setF_self] at this
  exact this
/-! who is told: not that one, lent by these, turned by none but these -/
def tol (M : ej_Mem) (m : Nat) (s : Int32) : Bool := decide (nI m ≠ mI M 90 41) && ((decide (mI M 90 40 = -1) || decide (rU (aI M) m 5 &&& (mI M 90 40 ^^^ -1) = 0)) && (decide (mI M 90 42 = -1) || decide (rTurn (aI M) m s &&& (mI M 90 42 ^^^ -1) = 0)))
theorem p_isTold {D : Nat} (hD : 5 ≤ D) {M : ej_Mem} (h : RW M) {m : Nat} (hm : m < 40) (ho : slOK (aI M) m) (s : Int32) : Rd M (cal D jm_Ref_isTold [.ref 90, .int (nI m), .int s]) (b2i (tol M m s)) := by
  intro g
  obtain ⟨d, rfl⟩ : ∃ d, D = d + 1 := ⟨D - 1, by omega⟩
  rw [ca_Ref_isTold, eq_Ref_isTold_0]
  simp only [RW.all h, MR, ckk_T, deR_s, deQ_s, deQ_n, bkV_s, bkI_s, bkJ_s, bkQ_s, bkQ_n, ckb0, ckb1, ckb2, ckb3, eq_self, Nat.reduceEqDiff, Nat.reduceLeDiff, Nat.reduceLT, reduceIte, true_or, or_true, not_false_eq_true, not_true_eq_false, and_self, and_true, true_and, LIT, Int32.reduceLT, Int32.reduceLE, Int32.reduceToNatClampNeg]
  unfold tol
  by_cases h1 : nI m = mI M 90 41
  · rw [if_pos h1, decide_eq_false (fun q => q h1)]; exact ⟨g, rfl⟩
  · rw [if_neg h1, decide_eq_true h1, Bool.true_and]
    have T : ∀ g, ∃ g', (if mI M 90 42 = -1 then (some (some (Value.int 1), setF M 104 g) : Option ej_R) else bkI (cal d jm_Ref_turns [.ref 90, .int (nI m), .int s] (setF M 104 g)) fun x2 M1 => ckk (mC M1 90 = 9) (if x2 &&& (mI M1 90 42 ^^^ -1) = 0 then some (some (Value.int 1), M1) else some (some (Value.int 0), M1))) = some (some (.int (b2i (decide (mI M 90 42 = -1) || decide (rTurn (aI M) m s &&& (mI M 90 42 ^^^ -1) = 0)))), setF M 104 g') := by
      intro g
      by_cases h3 : mI M 90 42 = -1
      · rw [if_pos h3, decide_eq_true h3]; exact ⟨g, rfl⟩
      · rw [if_neg h3, decide_eq_false h3, Bool.false_or]
        obtain ⟨g', e⟩ := p_turns (by omega : 4 ≤ d) h hm ho s g
        rw [e]
        simp only [RW.all h, MR, ckk_T, deR_s, deQ_s, deQ_n, bkV_s, bkI_s, bkJ_s, bkQ_s, bkQ_n, ckb0, ckb1, ckb2, ckb3, eq_self, Nat.reduceEqDiff, Nat.reduceLeDiff, Nat.reduceLT, reduceIte, true_or, or_true, not_false_eq_true, not_true_eq_false, and_self, and_true, true_and, LIT, Int32.reduceLT, Int32.reduceLE, Int32.reduceToNatClampNeg]
        by_cases h4 : rTurn (aI M) m s &&& (mI M 90 42 ^^^ -1) = 0
        · rw [if_pos h4, decide_eq_true h4]; exact ⟨g', rfl⟩
        · rw [if_neg h4, decide_eq_false h4]; exact ⟨g', rfl⟩
    by_cases h2 : mI M 90 40 = -1
    · rw [if_pos h2, decide_eq_true h2, Bool.true_or, Bool.true_and]
      exact T g
    · rw [if_neg h2, decide_eq_false h2, Bool.false_or, p_union (by omega) h (by omega) ho]
      simp only [RW.all h, MR, ckk_T, deR_s, deQ_s, deQ_n, bkV_s, bkI_s, bkJ_s, bkQ_s, bkQ_n, ckb0, ckb1, ckb2, ckb3, eq_self, Nat.reduceEqDiff, Nat.reduceLeDiff, Nat.reduceLT, reduceIte, true_or, or_true, not_false_eq_true, not_true_eq_false, and_self, and_true, true_and, LIT, Int32.reduceLT, Int32.reduceLE, Int32.reduceToNatClampNeg]
      by_cases h5 : rU (aI M) m 5 &&& (mI M 90 40 ^^^ -1) = 0
      · rw [if_pos h5, decide_eq_true h5, Bool.true_and]
        exact T g
      · rw [if_neg h5, decide_eq_false h5]; exact ⟨g, rfl⟩
/-! the reference's table of places -/
def hR (s : Int32) : Nat := ((s * (40503 : Int32)) ^^^ (s >>> ((9 : Int32) &&& 31))).toBitVec.toNat % 2 ^ 14
theorem hR_lt (s : Int32) : hR s < 16384 := Nat.mod_lt _ (by decide)
theorem hR_eq (s : Int32) : ((s * (40503 : Int32)) ^^^ (s >>> ((9 : Int32) &&& 31))) &&& (16383 : Int32) = nI (hR s) := pk_and _ 14 (by decide)
def rsl (M : ej_Mem) (q : Nat) : Nat := if aI M 106 q = mI M 90 27 then (aI M 107 q).toNatClampNeg + 1 else 0
def RT (M : ej_Mem) (xs : List Int32) : Prop := xs.length ≤ 4000 ∧ xs.Nodup ∧ Tab 16384 hR (rsl M) (fun k => xs.getD k 0) xs.length ∧ ∀ q, q < 16384 → aI M 106 q = mI M 90 27 → ∃ k, k < xs.length ∧ aI M 107 q = nI k ∧ aI M 105 q = xs.getD k 0
theorem place_loop (cl : Nat → List Value → ej_Mem → Option ej_R) {M : ej_Mem} (h : RW M) {xs : List Int32} (H : RT M xs) {s : Int32} {i : Nat} (hi : i < 16384)
    (h1 : rsl M (prb 16384 hR s i) = 0 ∨ (rsl M (prb 16384 hR s i) ≠ 0 ∧ xs.getD (rsl M (prb 16384 hR s i) - 1) 0 = s)) (h2 : ∀ j, j < i → rsl M (prb 16384 hR s j) ≠ 0 ∧ xs.getD (rsl M (prb 16384 hR s j) - 1) 0 ≠ s) :
    ∀ (n t : Nat), t + n = i → rn jm_Ref_placeOf cl 15 [some (.ref 90), some (.int s), some (.int (nI (prb 16384 hR s t)))] [] M = some (some (.int (nI (prb 16384 hR s i))), M)
  | 0, t, ht => by
    obtain ⟨hc, hn, hT, hq⟩ := H
    have hp := prb_lt (by decide : 0 < 16384) hR s t
    have e : t = i := by omega
    subst e
    rw [eq_Ref_placeOf_15]
    simp only [RW.all h, MR, ckk_T, deR_s, deQ_s, deQ_n, bkV_s, bkI_s, bkJ_s, bkQ_s, bkQ_n, ckb0, ckb1, ckb2, ckb3, eq_self, Nat.reduceEqDiff, Nat.reduceLeDiff, Nat.reduceLT, reduceIte, true_or, or_true, not_false_eq_true, not_true_eq_false, and_self, and_true, true_and, LIT, Int32.reduceLT, Int32.reduceLE, Int32.reduceToNatClampNeg, ckb_n hp (show 16384 < 2 ^ 31 by decide), nI_clamp (show prb 16384 hR s t < 2 ^ 31 by omega)]
    rcases h1 with g | ⟨g0, g⟩
    · have : ¬ aI M 106 (prb 16384 hR s t) = mI M 90 27 := by
        intro q
        unfold rsl at g
        rw [if_pos q] at g
        omega
      rw [if_neg this]
    · have q : aI M 106 (prb 16384 hR s t) = mI M 90 27 := by
        by_cases q : aI M 106 (prb 16384 hR s t) = mI M 90 27
        · exact q
        · unfold rsl at g0
          rw [if_neg q] at g0
          exact absurd rfl g0
      obtain ⟨k, hk, e1, e2⟩ := hq _ hp q
      have : rsl M (prb 16384 hR s t) = k + 1 := by
        unfold rsl
        rw [if_pos q, e1, nI_clamp (by omega)]
      rw [this, Nat.add_sub_cancel] at g
      rw [if_pos q, if_pos (by rw [e2]; exact g)]
  | n + 1, t, ht => by
    have ih := place_loop cl h H hi h1 h2 n (t + 1) (by omega)
    obtain ⟨hc, hn, hT, hq⟩ := H
    have hp := prb_lt (by decide : 0 < 16384) hR s t
    obtain ⟨g0, g⟩ := h2 t (by omega)
    rw [eq_Ref_placeOf_15]
    simp only [RW.all h, MR, ckk_T, deR_s, deQ_s, deQ_n, bkV_s, bkI_s, bkJ_s, bkQ_s, bkQ_n, ckb0, ckb1, ckb2, ckb3, eq_self, Nat.reduceEqDiff, Nat.reduceLeDiff, Nat.reduceLT, reduceIte, true_or, or_true, not_false_eq_true, not_true_eq_false, and_self, and_true, true_and, LIT, Int32.reduceLT, Int32.reduceLE, Int32.reduceToNatClampNeg, ckb_n hp (show 16384 < 2 ^ 31 by decide), nI_clamp (show prb 16384 hR s t < 2 ^ 31 by omega)]
    have q : aI M 106 (prb 16384 hR s t) = mI M 90 27 := by
      by_cases q : aI M 106 (prb 16384 hR s t) = mI M 90 27
      · exact q
      · unfold rsl at g0
        rw [if_neg q] at g0
        exact absurd rfl g0
    obtain ⟨k, hk, e1, e2⟩ := hq _ hp q
    have er : rsl M (prb 16384 hR s t) = k + 1 := by
      unfold rsl
      rw [if_pos q, e1, nI_clamp (by omega)]
    rw [er, Nat.add_sub_cancel] at g
    rw [if_pos q, if_neg (by rw [e2]; exact g), nI_1, pk_andN (by omega) 14 (by decide)]
    have : (prb 16384 hR s t + 1) % 2 ^ 14 = prb 16384 hR s (t + 1) := by
      unfold prb
      have : (hR s + t) % 16384 + 1 = (hR s + t) % 16384 + 1 := rfl
      omega
    rw [this]
    exact ih
theorem p_placeOf {D : Nat} (hD : 1 ≤ D) {M : ej_Mem} (h : RW M) {xs : List Int32} (H : RT M xs) (s : Int32) :
    ∃ i, i < 16384 ∧ (∀ j, j < i → rsl M (prb 16384 hR s j) ≠ 0) ∧ (∀ k, k < xs.length → xs.getD k 0 = s → rsl M (prb 16384 hR s i) = k + 1) ∧ (s ∉ xs → rsl M (prb 16384 hR s i) = 0) ∧
      cal D jm_Ref_placeOf [.ref 90, .int s] M = some (some (.int (nI (prb 16384 hR s i))), M) := by
  obtain ⟨d, rfl⟩ : ∃ d, D = d + 1 := ⟨D - 1, by omega⟩
  obtain ⟨i, hi, h1, h2, h3, h4⟩ := H.2.2.1.find (by have := H.1; omega) s (hR_lt s) (fun a c ha hc e => nodup_getD H.2.1 ha hc e)
  refine ⟨i, hi, fun j hj => (h2 j hj).1, h3, fun hn => h4 (fun k hk e => hn (by rw [← e]; exact getD_mem hk)), ?_⟩
  have L := place_loop (cal d) h H hi h1 h2 i 0 (by omega)
  rw [ca_Ref_placeOf, eq_Ref_placeOf_0, hR_eq]
  rw [prb_0 (hR_lt s)] at L
  exact L
theorem p_isMet {D : Nat} (hD : 2 ≤ D) {M : ej_Mem} (h : RW M) {xs : List Int32} (H : RT M xs) (s : Int32) :
    cal D jm_Ref_isMet [.ref 90, .int s] M = some (some (.int (b2i (decide (s ∈ xs)))), M) := by
  obtain ⟨d, rfl⟩ : ∃ d, D = d + 1 := ⟨D - 1, by omega⟩
  obtain ⟨i, hi, _, h3, h4, e⟩ := p_placeOf (by omega : 1 ≤ d) h H s
  have hp := prb_lt (by decide : 0 < 16384) hR s i
  rw [ca_Ref_isMet, eq_Ref_isMet_0]
  simp only [RW.all h, MR, ckk_T, deR_s, deQ_s, deQ_n, bkV_s, bkI_s, bkJ_s, bkQ_s, bkQ_n, ckb0, ckb1, ckb2, ckb3, eq_self, Nat.reduceEqDiff, Nat.reduceLeDiff, Nat.reduceLT, reduceIte, true_or, or_true, not_false_eq_true, not_true_eq_false, and_self, and_true, true_and, LIT, Int32.reduceLT, Int32.reduceLE, Int32.reduceToNatClampNeg]
  rw [e]
  simp only [RW.all h, MR, ckk_T, deR_s, deQ_s, deQ_n, bkV_s, bkI_s, bkJ_s, bkQ_s, bkQ_n, ckb0, ckb1, ckb2, ckb3, eq_self, Nat.reduceEqDiff, Nat.reduceLeDiff, Nat.reduceLT, reduceIte, true_or, or_true, not_false_eq_true, not_true_eq_false, and_self, and_true, true_and, LIT, Int32.reduceLT, Int32.reduceLE, Int32.reduceToNatClampNeg, ckb_n hp (show 16384 < 2 ^ 31 by decide), nI_clamp (show prb 16384 hR s i < 2 ^ 31 by omega)]
  by_cases hin : s ∈ xs
  · obtain ⟨k, hk, ek⟩ := mem_getD hin
    have := h3 k hk ek
    have q : aI M 106 (prb 16384 hR s i) = mI M 90 27 := by
      by_cases q : aI M 106 (prb 16384 hR s i) = mI M 90 27
      · exact q
      · unfold rsl at this
        rw [if_neg q] at this
        omega
    rw [if_pos q, decide_eq_true hin]; rfl
  · have := h4 hin
    have q : ¬ aI M 106 (prb 16384 hR s i) = mI M 90 27 := by
      intro q
      unfold rsl at this
      rw [if_pos q] at this
      omega
    rw [if_neg q, decide_eq_false hin]; rfl
def Pm (o k : Nat) : Prop := o = 105 ∨ o = 106 ∨ o = 107
def mkM (M : ej_Mem) (p : Nat) (s : Int32) (v : Int32) : ej_Mem := setA (setA (setA M 106 p (mI M 90 27)) 105 p s) 107 p v
theorem mkM_fr (M : ej_Mem) (p : Nat) (s v : Int32) : Fr Pm M (mkM M p s v) :=
  ((Fr.setA M _ (show Pm 106 p from Or.inr (Or.inl rfl))).trans (Fr.setA _ _ (show Pm 105 p from Or.inl rfl))).trans (Fr.setA _ _ (show Pm 107 p from Or.inr (Or.inr rfl)))
/-- a marker that stands nowhere in the table yet -/
def MK (M : ej_Mem) (mk : Nat) : Prop := mI M 90 27 = nI mk ∧ ∀ q, q < 16384 → ∃ j, j ≤ mk ∧ aI M 106 q = nI j
theorem RT_new {M : ej_Mem} {mk : Nat} (h : MK M mk) (hb : mk < 2 ^ 30) : RT (setI M 90 27 (nI (mk + 1))) [] ∧ MK (setI M 90 27 (nI (mk + 1))) (mk + 1) := by
  have e : mI (setI M 90 27 (nI (mk + 1))) 90 27 = nI (mk + 1) := gI_s _ _ _ _
  have no : ∀ q, q < 16384 → ¬ aI M 106 q = nI (mk + 1) := by
    intro q hq e2
    obtain ⟨j, hj, ej⟩ := h.2 q hq
    rw [ej] at e2
    have := (nI_eq (by omega) (by omega)).mp e2
    omega
  refine ⟨⟨Nat.zero_le _, List.nodup_nil, Tab.emp _ ?_, ?_⟩, e, ?_⟩
  · intro q hq
    unfold rsl
    rw [e]
    exact if_neg (no q hq)
  · intro q hq e2
    rw [e] at e2
    exact absurd e2 (no q hq)
  · intro q hq
    obtain ⟨j, hj, ej⟩ := h.2 q hq
    exact ⟨j, by omega, ej⟩
theorem p_marks {D : Nat} (hD : 2 ≤ D) {M : ej_Mem} (h : RW M) {xs : List Int32} (H : RT M xs) {mk : Nat} (hk : MK M mk) {s : Int32} (hs : s ∉ xs) (hl : xs.length < 4000) :
    ∃ M', cal D jm_Ref_marks [.ref 90, .int s, .int (nI xs.length)] M = some (none, M') ∧ Fr Pm M M' ∧ RT M' (xs ++ [s]) ∧ MK M' mk := by
  obtain ⟨d, rfl⟩ : ∃ d, D = d + 1 := ⟨D - 1, by omega⟩
  obtain ⟨i, hi, hj, h3, h4, e⟩ := p_placeOf (by omega : 1 ≤ d) h H s
  have hp := prb_lt (by decide : 0 < 16384) hR s i
  have h0 := h4 hs
  rw [ca_Ref_marks, eq_Ref_marks_0]
  simp only [RW.all h, MR, ckk_T, deR_s, deQ_s, deQ_n, bkV_s, bkI_s, bkJ_s, bkQ_s, bkQ_n, ckb0, ckb1, ckb2, ckb3, eq_self, Nat.reduceEqDiff, Nat.reduceLeDiff, Nat.reduceLT, reduceIte, true_or, or_true, not_false_eq_true, not_true_eq_false, and_self, and_true, true_and, LIT, Int32.reduceLT, Int32.reduceLE, Int32.reduceToNatClampNeg]
  rw [e]
  simp only [RW.all h, MR, ckk_T, deR_s, deQ_s, deQ_n, bkV_s, bkI_s, bkJ_s, bkQ_s, bkQ_n, ckb0, ckb1, ckb2, ckb3, eq_self, Nat.reduceEqDiff, Nat.reduceLeDiff, Nat.reduceLT, reduceIte, true_or, or_true, not_false_eq_true, not_true_eq_false, and_self, and_true, true_and, LIT, Int32.reduceLT, Int32.reduceLE, Int32.reduceToNatClampNeg, ckb_n hp (show 16384 < 2 ^ 31 by decide), nI_clamp (show prb 16384 hR s i < 2 ^ 31 by omega)]
  refine ⟨mkM M (prb 16384 hR s i) s (nI xs.length), rfl, mkM_fr M _ s _, ?_, ?_⟩
  · have e6 : aI (mkM M (prb 16384 hR s i) s (nI xs.length)) 106 = va_up (aI M 106) (prb 16384 hR s i) (mI M 90 27) := by
      unfold mkM
      rw [gA_o (by decide), gA_o (by decide), gA_u]
    have e5 : aI (mkM M (prb 16384 hR s i) s (nI xs.length)) 105 = va_up (aI M 105) (prb 16384 hR s i) s := by
      unfold mkM
      rw [gA_o (by decide), gA_u, gA_o (by decide)]
    have e7 : aI (mkM M (prb 16384 hR s i) s (nI xs.length)) 107 = va_up (aI M 107) (prb 16384 hR s i) (nI xs.length) := by
      unfold mkM
      rw [gA_u, gA_o (by decide), gA_o (by decide)]
    have em : mI (mkM M (prb 16384 hR s i) s (nI xs.length)) 90 27 = mI M 90 27 := rfl
    have eS : ∀ q, rsl (mkM M (prb 16384 hR s i) s (nI xs.length)) q = va_up (rsl M) (prb 16384 hR s i) (xs.length + 1) q := by
      intro q
      unfold rsl
      rw [e6, e7, em, va_upe, va_upe, va_upe]
      by_cases g : q = prb 16384 hR s i
      · rw [if_pos g, if_pos g, if_pos g, if_pos rfl, nI_clamp (by omega)]
      · rw [if_neg g, if_neg g, if_neg g]
    obtain ⟨hc, hn, hT, hq⟩ := H
    refine ⟨by simp; omega, ?_, ?_, ?_⟩
    · exact List.nodup_append.mpr ⟨hn, by simp, by
        intro x hx2 y hy e9
        simp at hy
        rw [e9, hy] at hx2
        exact hs hx2⟩
    · have T2 := hT.ins s hi h0 hj
      refine Tab.congr (by decide) ?_ (fun q _ => eS q) (xs := va_up (fun k => xs.getD k 0) xs.length s) ?_
      · rw [List.length_append]
        exact T2
      · intro k hk
        show (xs ++ [s]).getD k 0 = _
        have hk2 : k < xs.length + 1 := by simpa using hk
        rw [getD_app, va_upe]
        by_cases g : k < xs.length
        · rw [if_pos g, if_neg (by omega)]
        · rw [if_neg g, if_pos (by omega), if_pos (by omega)]
    · intro q hq2 e2
      rw [e6, em, va_upe] at e2
      rw [e5, e7, va_upe, va_upe]
      by_cases g : q = prb 16384 hR s i
      · rw [if_pos g, if_pos g]
        refine ⟨xs.length, by simp, rfl, ?_⟩
        rw [getD_app, if_neg (by omega), if_pos rfl]
      · rw [if_neg g] at e2
        rw [if_neg g, if_neg g]
        obtain ⟨k, hk, e3, e4⟩ := hq q hq2 e2
        refine ⟨k, by simp; omega, e3, ?_⟩
        rw [getD_app, if_pos hk]; exact e4
  · refine ⟨hk.1, fun q hq => ?_⟩
    have e6 : aI (mkM M (prb 16384 hR s i) s (nI xs.length)) 106 = va_up (aI M 106) (prb 16384 hR s i) (mI M 90 27) := by
      unfold mkM
      rw [gA_o (by decide), gA_o (by decide), gA_u]
    rw [e6, va_upe]
    split
    · exact ⟨mk, Nat.le_refl _, hk.1⟩
    · exact hk.2 q hq
