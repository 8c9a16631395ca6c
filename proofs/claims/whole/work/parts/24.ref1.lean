/-! the reference's small methods that only read -/
theorem p_in {D : Nat} (hD : 1 ≤ D) (v lo hi : Int64) (M : ej_Mem) : cal D jm_Ref_in [.long v, .long lo, .long hi] M = some (some (.int (b2i (decide (lo ≤ v ∧ v ≤ hi)))), M) := by
  obtain ⟨d, rfl⟩ : ∃ d, D = d + 1 := ⟨D - 1, by omega⟩
  rw [ca_Ref_in, eq_Ref_in_0]
  simp only [MR, ckk_T, deR_s, deQ_s, deQ_n, bkV_s, bkI_s, bkJ_s, bkQ_s, bkQ_n, ckb0, ckb1, ckb2, ckb3, eq_self, Nat.reduceEqDiff, Nat.reduceLeDiff, Nat.reduceLT, reduceIte, true_or, or_true, not_false_eq_true, not_true_eq_false, and_self, and_true, true_and, LIT, Int32.reduceLT, Int32.reduceLE, Int32.reduceToNatClampNeg]
  by_cases h1 : v < lo
  · rw [if_pos ((lg_cmp_lt v lo).mpr h1)]
    have h2 : ¬ (lo ≤ v ∧ v ≤ hi) := fun q => absurd h1 (Int64.not_lt.mpr q.1)
    simp [b2i, h2]
  · rw [if_neg (fun q => h1 ((lg_cmp_lt v lo).mp q))]
    by_cases h2 : hi < v
    · rw [if_pos ((lg_cmp_gt v hi).mpr h2)]
      have h3 : ¬ (lo ≤ v ∧ v ≤ hi) := fun q => absurd h2 (Int64.not_lt.mpr q.2)
      simp [b2i, h3]
    · rw [if_neg (fun q => h2 ((lg_cmp_gt v hi).mp q))]
      have h3 : lo ≤ v ∧ v ≤ hi := ⟨Int64.not_lt.mp h1, Int64.not_lt.mp h2⟩
      simp [b2i, h3]
def inB (v lo hi : Int32) : Bool := decide (lo ≤ v ∧ v ≤ hi)
theorem p_inI {D : Nat} (hD : 1 ≤ D) (v lo hi : Int32) (M : ej_Mem) : cal D jm_Ref_in [.long v.toInt64, .long lo.toInt64, .long hi.toInt64] M = some (some (.int (b2i (inB v lo hi))), M) := by
  rw [p_in hD]
  have h : (lo.toInt64 ≤ v.toInt64 ∧ v.toInt64 ≤ hi.toInt64) ↔ (lo ≤ v ∧ v ≤ hi) := by
    rw [Int64.le_iff_toInt_le, Int64.le_iff_toInt_le, Int32.le_iff_toInt_le, Int32.le_iff_toInt_le, Int32.toInt_toInt64, Int32.toInt_toInt64, Int32.toInt_toInt64]
  unfold inB
  simp only [h]
theorem p_in0 {D : Nat} (hD : 1 ≤ D) (v hi : Int32) (M : ej_Mem) : cal D jm_Ref_in [.long v.toInt64, .long (0 : Int64), .long hi.toInt64] M = some (some (.int (b2i (inB v 0 hi))), M) := p_inI hD v 0 hi M
/-- a number that is in a row of so many -/
def hasB (c : Nat) (n : Int32) : Bool := decide (0 ≤ n ∧ n < nI c)
theorem hasB_iff {c : Nat} {n : Int32} (hc : c < 2 ^ 31) : hasB c n = true ↔ ∃ j, j < c ∧ n = nI j := by
  unfold hasB
  rw [decide_eq_true_iff]
  constructor
  · rintro ⟨h1, h2⟩
    rcases pk_ix n hc with h | h | ⟨j, h, e⟩
    · exact absurd h1 (Int32.not_le.mpr h)
    · exact absurd h2 (Int32.not_lt.mpr h)
    · exact ⟨j, h, e⟩
  · rintro ⟨j, h, rfl⟩
    exact ⟨nI_pos' (by omega), nI_lt h hc⟩
theorem inB_has {c : Nat} (hc : c < 2 ^ 31) (n : Int32) : inB n 0 (nI c - 1) = hasB c n := by
  unfold inB hasB
  apply decide_eq_decide.mpr
  by_cases h0 : c = 0
  · subst h0
    have e : nI 0 - 1 = -1 := by decide
    rw [e]
    constructor
    · rintro ⟨h1, h2⟩
      have := Int32.le_trans h1 h2
      exact absurd this (by decide)
    · rintro ⟨h1, h2⟩
      exact absurd h2 (Int32.not_lt.mpr h1)
  · have e := nI_pred (c - 1)
    rw [show c - 1 + 1 = c by omega] at e
    rw [e]
    constructor
    · rintro ⟨h1, h2⟩
      refine ⟨h1, ?_⟩
      rw [Int32.lt_iff_toInt_lt, nI_toInt hc]
      rw [Int32.le_iff_toInt_le, nI_toInt (by omega : c - 1 < 2 ^ 31)] at h2
      omega
    · rintro ⟨h1, h2⟩
      refine ⟨h1, ?_⟩
      rw [Int32.le_iff_toInt_le, nI_toInt (by omega : c - 1 < 2 ^ 31)]
      rw [Int32.lt_iff_toInt_lt, nI_toInt hc] at h2
      omega
theorem p_has {D : Nat} (hD : 2 ≤ D) {M : ej_Mem} (h : RW M) (k : Int32) (n : Int32) {c : Nat} (hk : ¬ k < 0 ∧ k.toNatClampNeg < 4) (hc : aI M 92 k.toNatClampNeg = nI c) (hc2 : c < 2 ^ 31) :
    cal D jm_Ref_has [.ref 90, .int k, .int n] M = some (some (.int (b2i (hasB c n))), M) := by
  obtain ⟨d, rfl⟩ : ∃ d, D = d + 1 := ⟨D - 1, by omega⟩
  rw [ca_Ref_has, eq_Ref_has_0]
  simp only [RW.all h, MR, ckk_T, deR_s, deQ_s, deQ_n, bkV_s, bkI_s, bkJ_s, bkQ_s, bkQ_n, ckb0, ckb1, ckb2, ckb3, eq_self, Nat.reduceEqDiff, Nat.reduceLeDiff, Nat.reduceLT, reduceIte, true_or, or_true, not_false_eq_true, not_true_eq_false, and_self, and_true, true_and, LIT, Int32.reduceLT, Int32.reduceLE, Int32.reduceToNatClampNeg]
  rw [ckb_t hk, hc, p_in0 (by omega)]
  simp only [MR, ckk_T, deR_s, deQ_s, deQ_n, bkV_s, bkI_s, bkJ_s, bkQ_s, bkQ_n, ckb0, ckb1, ckb2, ckb3, eq_self, Nat.reduceEqDiff, Nat.reduceLeDiff, Nat.reduceLT, reduceIte, true_or, or_true, not_false_eq_true, not_true_eq_false, and_self, and_true, true_and, LIT, Int32.reduceLT, Int32.reduceLE, Int32.reduceToNatClampNeg]
  rw [inB_has hc2, ck_b2i]
theorem p_isYear {D : Nat} (hD : 2 ≤ D) (y : Int32) (M : ej_Mem) : cal D jm_Ref_isYear [.int y] M = some (some (.int (b2i (inB y 0 2999))), M) := by
  obtain ⟨d, rfl⟩ : ∃ d, D = d + 1 := ⟨D - 1, by omega⟩
  rw [ca_Ref_isYear, eq_Ref_isYear_0]
  have := p_inI (by omega : 1 ≤ d) y 0 2999 M
  rw [show Int32.toInt64 0 = 0 from by decide, show Int32.toInt64 2999 = 2999 from by decide] at this
  rw [this]
  simp only [MR, ckk_T, deR_s, deQ_s, deQ_n, bkV_s, bkI_s, bkJ_s, bkQ_s, bkQ_n, ckb0, ckb1, ckb2, ckb3, eq_self, Nat.reduceEqDiff, Nat.reduceLeDiff, Nat.reduceLT, reduceIte, true_or, or_true, not_false_eq_true, not_true_eq_false, and_self, and_true, true_and, LIT, Int32.reduceLT, Int32.reduceLE, Int32.reduceToNatClampNeg]
  rw [ck_b2i]
theorem p_isState {D : Nat} (hD : 2 ≤ D) (y : Int32) (M : ej_Mem) : cal D jm_Ref_isState [.int y] M = some (some (.int (b2i (inB y 0 16777215))), M) := by
  obtain ⟨d, rfl⟩ : ∃ d, D = d + 1 := ⟨D - 1, by omega⟩
  rw [ca_Ref_isState, eq_Ref_isState_0]
  have := p_inI (by omega : 1 ≤ d) y 0 16777215 M
  rw [show Int32.toInt64 0 = 0 from by decide, show Int32.toInt64 16777215 = 16777215 from by decide] at this
  rw [this]
  simp only [MR, ckk_T, deR_s, deQ_s, deQ_n, bkV_s, bkI_s, bkJ_s, bkQ_s, bkQ_n, ckb0, ckb1, ckb2, ckb3, eq_self, Nat.reduceEqDiff, Nat.reduceLeDiff, Nat.reduceLT, reduceIte, true_or, or_true, not_false_eq_true, not_true_eq_false, and_self, and_true, true_and, LIT, Int32.reduceLT, Int32.reduceLE, Int32.reduceToNatClampNeg]
  rw [ck_b2i]
/-- one fact of the reference -/
def cntB (k v s : Int32) : Bool :=
  if k = 0 then decide (nI (pc (v &&& 16777215 &&& s)) = 1)
  else if k = 4 then decide (nI (pc (v &&& 16777215 &&& s)) < v >>> (24 &&& 31))
  else if k = 5 then decide (nI (pc (v &&& 16777215 &&& s)) ≤ v >>> (24 &&& 31))
  else if k = 6 then decide (nI (pc (v &&& 16777215 &&& s)) = v >>> (24 &&& 31))
  else if k = 7 then decide (v >>> (24 &&& 31) ≤ nI (pc (v &&& 16777215 &&& s)))
  else decide (v >>> (24 &&& 31) < nI (pc (v &&& 16777215 &&& s)))
theorem p_counts {D : Nat} (hD : 2 ≤ D) (k v s : Int32) (M : ej_Mem) : cal D jm_Ref_counts [.int k, .int v, .int s] M = some (some (.int (b2i (cntB k v s))), M) := by
  obtain ⟨d, rfl⟩ : ∃ d, D = d + 1 := ⟨D - 1, by omega⟩
  rw [ca_Ref_counts, eq_Ref_counts_0, p_Ref_bits (by omega)]
  simp only [MR, ckk_T, deR_s, deQ_s, deQ_n, bkV_s, bkI_s, bkJ_s, bkQ_s, bkQ_n, ckb0, ckb1, ckb2, ckb3, eq_self, Nat.reduceEqDiff, Nat.reduceLeDiff, Nat.reduceLT, reduceIte, true_or, or_true, not_false_eq_true, not_true_eq_false, and_self, and_true, true_and, LIT, Int32.reduceLT, Int32.reduceLE, Int32.reduceToNatClampNeg]
  unfold cntB
  generalize nI (pc (v &&& 16777215 &&& s)) = x
  generalize v >>> (24 &&& 31) = y
  have e1 : (if x ≤ y then (some (some (Value.int 0), M) : Option ej_R) else some (some (Value.int 1), M)) = some (some (.int (b2i (decide (y < x)))), M) := by
    by_cases g : x ≤ y
    · rw [if_pos g, decide_eq_false (Int32.not_lt.mpr g)]; rfl
    · rw [if_neg g, decide_eq_true (Int32.not_le.mp g)]; rfl
  have e2 : (if x = 1 then (some (some (Value.int 1), M) : Option ej_R) else some (some (Value.int 0), M)) = some (some (.int (b2i (decide (x = 1)))), M) := by
    by_cases g : x = 1
    · rw [if_pos g, decide_eq_true g]; rfl
    · rw [if_neg g, decide_eq_false g]; rfl
  have e3 : (if y ≤ x then (some (some (Value.int 0), M) : Option ej_R) else some (some (Value.int 1), M)) = some (some (.int (b2i (decide (x < y)))), M) := by
    by_cases g : y ≤ x
    · rw [if_pos g, decide_eq_false (Int32.not_lt.mpr g)]; rfl
    · rw [if_neg g, decide_eq_true (Int32.not_le.mp g)]; rfl
  have e4 : (if y < x then (some (some (Value.int 0), M) : Option ej_R) else some (some (Value.int 1), M)) = some (some (.int (b2i (decide (x ≤ y)))), M) := by
    by_cases g : y < x
    · rw [if_pos g, decide_eq_false (Int32.not_le.mpr g)]; rfl
    · rw [if_neg g, decide_eq_true (Int32.not_lt.mp g)]; rfl
  have e5 : (if x = y then (some (some (Value.int 1), M) : Option ej_R) else some (some (Value.int 0), M)) = some (some (.int (b2i (decide (x = y)))), M) := by
    by_cases g : x = y
    · rw [if_pos g, decide_eq_true g]; rfl
    · rw [if_neg g, decide_eq_false g]; rfl
  have e6 : (if x < y then (some (some (Value.int 0), M) : Option ej_R) else some (some (Value.int 1), M)) = some (some (.int (b2i (decide (y ≤ x)))), M) := by
    by_cases g : x < y
    · rw [if_pos g, decide_eq_false (Int32.not_le.mpr g)]; rfl
    · rw [if_neg g, decide_eq_true (Int32.not_lt.mp g)]; rfl
  rw [e1, e2, e3, e4, e5, e6]
  by_cases k0 : k = 0
  · rw [if_pos k0, if_pos k0]
  · rw [if_neg k0, if_neg k0]
    by_cases k1 : k = 1
    · subst k1; rfl
    · rw [if_neg k1]
      by_cases k2 : k = 2
      · subst k2; rfl
      · rw [if_neg k2]
        by_cases k3 : k = 3
        · subst k3; rfl
        · rw [if_neg k3]
          by_cases k4 : k = 4
          · subst k4; rfl
          · rw [if_neg k4, if_neg k4]
            by_cases k5 : k = 5
            · subst k5; rfl
            · rw [if_neg k5, if_neg k5]
              by_cases k6 : k = 6
              · subst k6; rfl
              · rw [if_neg k6, if_neg k6]
                by_cases k7 : k = 7
                · subst k7; rfl
                · rw [if_neg k7, if_neg k7]
/-! the reference's stack of truth values: how many, and which -/
abbrev rS : Type := Nat × (Nat → Bool)
def rStep (k v s : Int32) (st : rS) : rS :=
  if k = 9 then (st.1, va_up st.2 (st.1 - 1) (!(st.2 (st.1 - 1))))
  else if k = 10 then (st.1 - 1, va_up st.2 (st.1 - 2) (st.2 (st.1 - 2) && st.2 (st.1 - 1)))
  else if k = 11 then (st.1 - 1, va_up st.2 (st.1 - 2) (st.2 (st.1 - 2) || st.2 (st.1 - 1)))
  else (st.1 + 1, va_up st.2 st.1 (cntB k v s))
def rE (so nu : Nat → Int32) (s : Int32) : Nat → Nat → rS → rS
  | 0, _, st => st
  | n + 1, e, st => rE so nu s n (e + 1) (rStep (so e) (nu e) s st)
/-- a row of entries that can be gone through with so many truth values, and leaves one -/
def pOK (so : Nat → Int32) : Nat → Nat → Nat → Prop
  | 0, _, d => d = 1
  | n + 1, e, d => if so e = 9 then 1 ≤ d ∧ pOK so n (e + 1) d else if so e = 10 ∨ so e = 11 then 2 ≤ d ∧ pOK so n (e + 1) (d - 1) else pOK so n (e + 1) (d + 1)
def rT (so nu : Nat → Int32) (a b : Nat) (s : Int32) : Bool := (rE so nu s (b - a) a (0, fun _ => false)).2 0
theorem nar_1 : vp_nar .boolean 1 = 1 := by decide
theorem nar_0 : vp_nar .boolean 0 = 0 := by decide
theorem nar_b (b : Bool) : vp_nar .boolean (b2i b) = b2i b := by cases b <;> decide
theorem ckb_m1 {d n : Nat} (h : 1 ≤ d) (hn : d ≤ n) (h2 : n < 2 ^ 31) (k : Option ej_R) : ckb (nI d - 1) n k = k := by
  have e := nI_pred (d - 1)
  rw [show d - 1 + 1 = d by omega] at e
  rw [e]; exact ckb_n (by omega) h2 k
theorem cl_m1 {d : Nat} (h : 1 ≤ d) (h2 : d < 2 ^ 31) : (nI d - 1).toNatClampNeg = d - 1 := by
  have e := nI_pred (d - 1)
  rw [show d - 1 + 1 = d by omega] at e
  rw [e]; exact nI_clamp (by omega)
theorem nI_m1 {d : Nat} (h : 1 ≤ d) : nI d - 1 = nI (d - 1) := by
  have e := nI_pred (d - 1)
  rw [show d - 1 + 1 = d by omega] at e
  exact e
theorem nI_p1m {d : Nat} (h : 1 ≤ d) : nI d + -1 = nI (d - 1) := by
  have e := pk_m1 (d - 1)
  rw [show d - 1 + 1 = d by omega] at e
  exact e
theorem setA_setF (M : ej_Mem) (o k : Nat) (v : Int32) (g : Nat → Int32) : setA (setF M o g) o k v = setF M o (va_up g k v) := by
  unfold setA setF up2
  simp only [bx_uu, up_s]
theorem setF_self (M : ej_Mem) (o : Nat) : setF M o (aI M o) = M := by
  unfold setF aI
  rw [up_self]
theorem setF_setF (M : ej_Mem) (o : Nat) (f g : Nat → Int32) : setF (setF M o f) o g = setF M o g := by
  unfold setF
  simp only [bx_uu]
theorem aI_setF_s (M : ej_Mem) (o : Nat) (f : Nat → Int32) : aI (setF M o f) o = f := by simp [MR]
theorem isTrue_loop {cl : Nat → List Value → ej_Mem → Option ej_R} (hcl : ∀ k v s M, cl jm_Ref_counts [.int k, .int v, .int s] M = some (some (.int (b2i (cntB k v s))), M))
    {M : ej_Mem} (h : RW M) {at' : Nat} {s l3 : Int32} {base : Nat} {ea : Nat} (hat : at' < 864) (hl3 : l3 = nI base) (hea : aI M 99 at' = nI ea) (hbe : base + ea ≤ 14400) :
    ∀ (n e : Nat) (st : rS) (g : Nat → Int32) (o6 : Option Value), e + n = base + ea → st.1 + n ≤ 200 → pOK (aI M 93) n e st.1 → (∀ i, i < st.1 → g i = b2i (st.2 i)) →
    ∃ g', rn jm_Ref_isTrue cl 22 [some (.ref 90), some (.int (nI at')), some (.int s), some (.int l3), some (.int (nI st.1)), some (.int (nI e)), o6] [] (setF M 104 g) = some (some (.int (b2i ((rE (aI M 93) (aI M 94) s n e st).2 0))), setF M 104 g')
  | 0, e, st, g, o6, hn, hd, hp, hg => by
    have h1 : st.1 = 1 := hp
    refine ⟨g, ?_⟩
    rw [eq_Ref_isTrue_22]
    simp only [RW.all h, MR, ckk_T, deR_s, deQ_s, deQ_n, bkV_s, bkI_s, bkJ_s, bkQ_s, bkQ_n, ckb0, ckb1, ckb2, ckb3, eq_self, Nat.reduceEqDiff, Nat.reduceLeDiff, Nat.reduceLT, reduceIte, true_or, or_true, not_false_eq_true, not_true_eq_false, and_self, and_true, true_and, LIT, Int32.reduceLT, Int32.reduceLE, Int32.reduceToNatClampNeg]
    have e0 : g 0 = b2i (st.2 0) := hg 0 (by omega)
    rw [ckb_n hat (by decide), hl3, nI_clamp (by omega : at' < 2 ^ 31), hea, nI_add, if_pos (nI_le (by omega) (by omega)), e0, ck_b2i]
    rfl
  | n + 1, e, st, g, o6, hn, hd, hp, hg => by
    have ih := isTrue_loop hcl h (s := s) hat hl3 hea hbe n (e + 1)
    rw [eq_Ref_isTrue_22]
    simp only [RW.all h, MR, ckk_T, deR_s, deQ_s, deQ_n, bkV_s, bkI_s, bkJ_s, bkQ_s, bkQ_n, ckb0, ckb1, ckb2, ckb3, eq_self, Nat.reduceEqDiff, Nat.reduceLeDiff, Nat.reduceLT, reduceIte, true_or, or_true, not_false_eq_true, not_true_eq_false, and_self, and_true, true_and, LIT, Int32.reduceLT, Int32.reduceLE, Int32.reduceToNatClampNeg]
    rw [ckb_n hat (by decide), hl3, nI_clamp (by omega : at' < 2 ^ 31), hea, nI_add, if_neg (nI_ge (by omega) (by omega)), ckb_n (by omega : e < 14400) (by decide), nI_clamp (by omega : e < 2 ^ 31)]
    simp only [setA_setF]
    have hE : rE (aI M 93) (aI M 94) s (n + 1) e st = rE (aI M 93) (aI M 94) s n (e + 1) (rStep (aI M 93 e) (aI M 94 e) s st) := rfl
    rw [hE]
    rw [hl3] at ih
    unfold pOK at hp
    by_cases k9 : aI M 93 e = 9
    · rw [if_pos k9] at hp ⊢
      have hst : rStep (aI M 93 e) (aI M 94 e) s st = (st.1, va_up st.2 (st.1 - 1) (!(st.2 (st.1 - 1)))) := by unfold rStep; rw [if_pos k9]
      rw [hst, ckb_m1 hp.1 (by omega) (by decide), cl_m1 hp.1 (by omega), hg (st.1 - 1) (by omega)]
      have hg2 : ∀ i, i < st.1 → va_up g (st.1 - 1) (b2i (!(st.2 (st.1 - 1)))) i = b2i (va_up st.2 (st.1 - 1) (!(st.2 (st.1 - 1))) i) := by
        intro i hi
        by_cases q : i = st.1 - 1
        · subst q; rw [up_s, up_s]
        · rw [up_n q, up_n q]; exact hg i hi
      obtain ⟨g', e'⟩ := ih (st.1, va_up st.2 (st.1 - 1) (!(st.2 (st.1 - 1)))) (va_up g (st.1 - 1) (b2i (!(st.2 (st.1 - 1))))) (some (.int (aI M 93 e))) (by omega) (by show st.1 + n ≤ 200; omega) hp.2 hg2
      refine ⟨g', ?_⟩
      rw [← e', nI_1]
      cases st.2 (st.1 - 1)
      · rw [if_pos (by decide)]
        rw [ckb_m1 hp.1 (by omega) (by decide)]
        rfl
      · rw [if_neg (by decide)]
        rw [ckb_m1 hp.1 (by omega) (by decide)]
        rfl
    · rw [if_neg k9] at hp ⊢
      by_cases k10 : aI M 93 e = 10
      · rw [if_pos k10, if_pos k10]
        rw [if_pos (Or.inl k10)] at hp
        have hst : rStep (aI M 93 e) (aI M 94 e) s st = (st.1 - 1, va_up st.2 (st.1 - 2) (st.2 (st.1 - 2) && st.2 (st.1 - 1))) := by unfold rStep; rw [if_neg k9, if_pos k10]
        rw [hst]
        have hg2 : ∀ i, i < st.1 - 1 → va_up g (st.1 - 2) (b2i (st.2 (st.1 - 2) && st.2 (st.1 - 1))) i = b2i (va_up st.2 (st.1 - 2) (st.2 (st.1 - 2) && st.2 (st.1 - 1)) i) := by
          intro i hi
          by_cases q : i = st.1 - 2
          · subst q; rw [up_s, up_s]
          · rw [up_n q, up_n q]; exact hg i (by omega)
        obtain ⟨g', e'⟩ := ih (st.1 - 1, va_up st.2 (st.1 - 2) (st.2 (st.1 - 2) && st.2 (st.1 - 1))) (va_up g (st.1 - 2) (b2i (st.2 (st.1 - 2) && st.2 (st.1 - 1)))) (some (.int (aI M 93 e))) (by omega) (by show st.1 - 1 + n ≤ 200; omega) hp.2 hg2
        refine ⟨g', ?_⟩
        rw [← e', nI_1]
        have a1 : nI st.1 + -1 - 1 = nI (st.1 - 2) := by rw [nI_p1m (by omega), nI_m1 (by omega)]; rfl
        have a2 : nI st.1 + -1 = nI (st.1 - 1) := nI_p1m (by omega)
        rw [a1, a2, ckb_n (by omega : st.1 - 2 < 200) (by decide), ckb_n (by omega : st.1 - 2 < 200) (by decide), ckb_n (by omega : st.1 - 2 < 200) (by decide), ckb_n (by omega : st.1 - 1 < 200) (by decide), nI_clamp (by omega : st.1 - 2 < 2 ^ 31), nI_clamp (by omega : st.1 - 1 < 2 ^ 31), hg (st.1 - 2) (by omega), hg (st.1 - 1) (by omega)]
        cases st.2 (st.1 - 2) <;> cases st.2 (st.1 - 1) <;> rfl
      · rw [if_neg k10]
        by_cases k11 : aI M 93 e = 11
        · rw [if_pos k11, if_neg k10]
          rw [if_pos (Or.inr k11)] at hp
          have hst : rStep (aI M 93 e) (aI M 94 e) s st = (st.1 - 1, va_up st.2 (st.1 - 2) (st.2 (st.1 - 2) || st.2 (st.1 - 1))) := by unfold rStep; rw [if_neg k9, if_neg k10, if_pos k11]
          rw [hst]
          have hg2 : ∀ i, i < st.1 - 1 → va_up g (st.1 - 2) (b2i (st.2 (st.1 - 2) || st.2 (st.1 - 1))) i = b2i (va_up st.2 (st.1 - 2) (st.2 (st.1 - 2) || st.2 (st.1 - 1)) i) := by
            intro i hi
            by_cases q : i = st.1 - 2
            · subst q; rw [up_s, up_s]
            · rw [up_n q, up_n q]; exact hg i (by omega)
          obtain ⟨g', e'⟩ := ih (st.1 - 1, va_up st.2 (st.1 - 2) (st.2 (st.1 - 2) || st.2 (st.1 - 1))) (va_up g (st.1 - 2) (b2i (st.2 (st.1 - 2) || st.2 (st.1 - 1)))) (some (.int (aI M 93 e))) (by omega) (by show st.1 - 1 + n ≤ 200; omega) hp.2 hg2
          refine ⟨g', ?_⟩
          rw [← e', nI_1]
          have a1 : nI st.1 + -1 - 1 = nI (st.1 - 2) := by rw [nI_p1m (by omega), nI_m1 (by omega)]; rfl
          have a2 : nI st.1 + -1 = nI (st.1 - 1) := nI_p1m (by omega)
          rw [a1, a2, ckb_n (by omega : st.1 - 2 < 200) (by decide), ckb_n (by omega : st.1 - 1 < 200) (by decide), ckb_n (by omega : st.1 - 2 < 200) (by decide), ckb_n (by omega : st.1 - 2 < 200) (by decide), nI_clamp (by omega : st.1 - 2 < 2 ^ 31), nI_clamp (by omega : st.1 - 1 < 2 ^ 31), hg (st.1 - 2) (by omega), hg (st.1 - 1) (by omega)]
          cases st.2 (st.1 - 2) <;> cases st.2 (st.1 - 1) <;> rfl
        · rw [if_neg k11]
          rw [if_neg (by rintro (q | q); exact k10 q; exact k11 q)] at hp
          have hst : rStep (aI M 93 e) (aI M 94 e) s st = (st.1 + 1, va_up st.2 st.1 (cntB (aI M 93 e) (aI M 94 e) s)) := by unfold rStep; rw [if_neg k9, if_neg k10, if_neg k11]
          rw [hst, ckb_n (by omega : e < 14400) (by decide), hcl]
          simp only [MR, ckk_T, deR_s, deQ_s, deQ_n, bkV_s, bkI_s, bkJ_s, bkQ_s, bkQ_n, ckb0, ckb1, ckb2, ckb3, eq_self, Nat.reduceEqDiff, Nat.reduceLeDiff, Nat.reduceLT, reduceIte, true_or, or_true, not_false_eq_true, not_true_eq_false, and_self, and_true, true_and, LIT, Int32.reduceLT, Int32.reduceLE, Int32.reduceToNatClampNeg, RW.all h]
          rw [ckb_n (by omega : st.1 < 200) (by decide), nI_clamp (by omega : st.1 < 2 ^ 31), nar_b, setA_setF, nI_1, nI_1]
          have hg2 : ∀ i, i < st.1 + 1 → va_up g st.1 (b2i (cntB (aI M 93 e) (aI M 94 e) s)) i = b2i (va_up st.2 st.1 (cntB (aI M 93 e) (aI M 94 e) s) i) := by
            intro i hi
            by_cases q : i = st.1
            · subst q; rw [up_s, up_s]
            · rw [up_n q, up_n q]; exact hg i (by omega)
          exact ih (st.1 + 1, va_up st.2 st.1 (cntB (aI M 93 e) (aI M 94 e) s)) (va_up g st.1 (b2i (cntB (aI M 93 e) (aI M 94 e) s))) (some (.int (aI M 93 e))) (by omega) (by show st.1 + 1 + n ≤ 200; omega) hp hg2
