/-! the reference: the loop of a test -/
theorem pcF_L (o a : Option Prd) (k : Nat) : pcF (o, a, k) = oL a ++ oL o := by cases a <;> cases o <;> rfl
def tlO (fs : List Frm) : List Nat := match fs with
  | [] => []
  | g :: gs => 0 :: ops g gs
def tlP (fs : List Frm) : List Prd := match fs with
  | [] => []
  | g :: gs => pcs g gs
theorem ops_tl (f : Frm) (fs : List Frm) : ops f fs = opF f ++ tlO fs := by
  cases fs
  · show opF f = opF f ++ []; rw [List.append_nil]
  · rfl
theorem pcs_tl (f : Frm) (fs : List Frm) : pcs f fs = pcF f ++ tlP fs := by
  cases fs
  · show pcF f = pcF f ++ []; rw [List.append_nil]
  · rfl
theorem ops_k (f : Frm) (fs : List Frm) : ops f fs = List.replicate f.2.2 3 ++ ops (f.1, f.2.1, 0) fs := by
  rw [ops_tl, ops_tl (f.1, f.2.1, 0)]
  unfold opF
  rw [List.append_assoc]; rfl
theorem pcs_k (f : Frm) (fs : List Frm) (k : Nat) : pcs (f.1, f.2.1, k) fs = pcs f fs := by
  rw [pcs_tl, pcs_tl f]; rfl
theorem dpt_k (f : Frm) (fs : List Frm) (k : Nat) : dpt (f.1, f.2.1, k) fs + f.2.2 = dpt f fs + k := by
  cases fs
  · show k + f.2.2 = f.2.2 + k; omega
  · show k + 1 + _ + f.2.2 = f.2.2 + 1 + _ + k; omega
theorem nab_k (f : Frm) (fs : List Frm) : nab f fs = f.2.2 + nab (f.1, f.2.1, 0) fs := by
  have e : (opF f).length = f.2.2 + (opF (f.1, f.2.1, 0)).length := by
    unfold opF; rw [List.length_append, List.length_replicate]; rfl
  cases fs
  · exact e
  · show (opF f).length + _ = f.2.2 + ((opF (f.1, f.2.1, 0)).length + _); omega
theorem nab_tl (f : Frm) (fs : List Frm) : ∃ n, nab f fs = (opF f).length + n ∧ ∀ g : Frm, nab g fs = (opF g).length + n := by
  cases fs
  · exact ⟨0, rfl, fun _ => rfl⟩
  · exact ⟨_, rfl, fun _ => rfl⟩
theorem topI_tl (fs : List Frm) (k : Int32) (h1 : k ≠ -1) (h2 : k ≠ 12) : topI (tlO fs) ≠ k := by
  cases fs
  · exact fun e => h1 e.symm
  · exact fun e => h2 e.symm
theorem topI_o (o : Option Prd) (fs : List Frm) (k : Int32) (h1 : k ≠ -1) (h2 : k ≠ 12) (h3 : k ≠ 11) : topI ((if o.isSome = true then [1] else []) ++ tlO fs) ≠ k := by
  cases o
  · exact topI_tl fs k h1 h2
  · exact fun e => h3 e.symm
theorem topI_a (a o : Option Prd) (fs : List Frm) (k : Int32) (h1 : k ≠ -1) (h2 : k ≠ 12) (h3 : k ≠ 11) (h4 : k ≠ 10) : topI ((if a.isSome = true then [2] else []) ++ ((if o.isSome = true then [1] else []) ++ tlO fs)) ≠ k := by
  cases a
  · exact topI_o o fs k h1 h2 h3
  · exact fun e => h4 e.symm
theorem len_tl (f : Frm) (fs : List Frm) : (tlO fs).length ≤ (ops f fs).length := by rw [ops_tl, List.length_append]; omega
/-- what a fact comes to -/
def FctG (M M' : ej_Mem) (t : Nat) (tp : Nat → Nat) (sl e0 e dp c q : Nat) (xs : List Nat) (ps : List Prd) (x : Int32) : Prop := Fr (Pt sl e0) M M' ∧
  (if stw tp t q (wd 9) = true then (x = 0 ∧ if dp = 10 then RDd M' t tp (flt 2 q) else RX2 M' t tp (q + 3) sl e0 e (dp + 1) c (3 :: xs) ps)
    else if sg tp t q = 91 then (x = 0 ∧ if dp = 10 then RDd M' t tp (flt 2 q) else RX2 M' t tp (q + 1) sl e0 e (dp + 1) c (0 :: xs) ps)
    else (x = 1 ∧ CmpG M M' t tp sl e0 e dp c xs ps (cmp tp t q c)))
theorem pu_dead {M : ej_Mem} {t : Nat} {tp : Nat → Nat} {p sl : Nat} (h : RL M t tp p 0) (hp : p ≤ t) (n d q : Nat) (hq : q ≤ t + 1) (k : Int32) : RDd (pf 90 (puM (pf 90 M p (flt 2 p)) n d k) q (flt 2 p)) t tp (flt 2 p) := by
  have t4 := h.2.2.1.1.1
  exact ⟨flt_pos 2 p, by unfold flt; omega, q, hq, (puM_rl (h.pf p (flt 2 p)) n d k).pf q (flt 2 p)⟩
theorem r_fact {D : Nat} (hD : 8 ≤ D) {M : ej_Mem} {t : Nat} {tp : Nat → Nat} {p sl e0 e dp c : Nat} {xs : List Nat} {ps : List Prd} (h : RX2 M t tp p sl e0 e dp c xs ps) (hc : c ≤ 60) (hp : p ≤ t) (he : e < 200) (hd : dp ≤ 10) (hl : xs.length < 402) : ∃ M' x, cal D jm_Ref_fact [.ref 90] M = some (some (.int x), M') ∧ FctG M M' t tp sl e0 e dp c (blk tp t p) xs ps x := by
  obtain ⟨d, rfl⟩ : ∃ d, D = d + 1 := ⟨D - 1, by omega⟩
  have H := h.1
  have TP := H.2.2.1.1
  have t4 := TP.1
  have b2 : blk tp t p ≤ t := bl_le tp t 401 p hp
  rw [ca_Ref_fact, eq_Ref_fact_0]
  simp only [RW.all H.1, MR, ckk_T, deR_s, deQ_s, deQ_n, bkV_s, bkI_s, bkJ_s, bkQ_s, bkQ_n, ckb0, ckb1, ckb2, ckb3, eq_self, Nat.reduceEqDiff, Nat.reduceLeDiff, Nat.reduceLT, reduceIte, true_or, or_true, not_false_eq_true, not_true_eq_false, and_self, and_true, true_and, LIT, Int32.reduceLT, Int32.reduceLE, Int32.reduceToNatClampNeg]
  rw [r_blanks (by omega) H (by omega), bkV_s]
  have X1 := h.pf (blk tp t p)
  have F1 := pf_Pt sl e0 M (blk tp t p) 0
  generalize blk tp t p = q at *
  generalize pf 90 M q 0 = M1 at *
  have H1 := X1.1
  unfold FctG
  simp only [RW.all H1.1, MR, ckk_T, deR_s, deQ_s, deQ_n, bkV_s, bkI_s, bkJ_s, bkQ_s, bkQ_n, ckb0, ckb1, ckb2, ckb3, eq_self, Nat.reduceEqDiff, Nat.reduceLeDiff, Nat.reduceLT, reduceIte, true_or, or_true, not_false_eq_true, not_true_eq_false, and_self, and_true, true_and, LIT, Int32.reduceLT, Int32.reduceLE, Int32.reduceToNatClampNeg]
  rw [r_stands (by omega) H1 (k := 23) (by decide) b2 rfl, bkI_s, show wd 23 = wd 9 from rfl]
  cases hw : stw tp t q (wd 9) with
  | true =>
    have w3 : q + 3 ≤ t := stw_le b2 hw
    rw [if_neg (by decide)]
    simp only [RW.all H1.1, MR, ckk_T, deR_s, deQ_s, deQ_n, bkV_s, bkI_s, bkJ_s, bkQ_s, bkQ_n, ckb0, ckb1, ckb2, ckb3, eq_self, Nat.reduceEqDiff, Nat.reduceLeDiff, Nat.reduceLT, reduceIte, true_or, or_true, not_false_eq_true, not_true_eq_false, and_self, and_true, true_and, LIT, Int32.reduceLT, Int32.reduceLE, Int32.reduceToNatClampNeg]
    have O := r_opens_d (by omega : 2 ≤ d) X1 hl hd (x := 3) (k := 9) (Or.inl rfl) rfl
    rw [O, bkV_s]
    by_cases z : dp = 10
    · rw [if_pos z] at O ⊢
      have R := puM_rl (H1.pf q (flt 2 q)) xs.length (dp + 1) (rcI 3)
      have F2 := (pf_Pt sl e0 M1 q (flt 2 q)).trans (puM_fr sl e0 (pf 90 M1 q (flt 2 q)) xs.length (dp + 1) (rcI 3))
      have E := fun g => (pf_q (o := 90) (q := g) R.2.2.2.2)
      have W2 := R.1
      simp only [RW.all W2, R.2.2.2.1, nI_add3, E, MR, ckk_T, deR_s, deQ_s, deQ_n, bkV_s, bkI_s, bkJ_s, bkQ_s, bkQ_n, ckb0, ckb1, ckb2, ckb3, eq_self, Nat.reduceEqDiff, Nat.reduceLeDiff, Nat.reduceLT, reduceIte, true_or, or_true, not_false_eq_true, not_true_eq_false, and_self, and_true, true_and, LIT, Int32.reduceLT, Int32.reduceLE, Int32.reduceToNatClampNeg]
      exact ⟨_, 0, rfl, (F1.trans F2).trans (pf_Pt sl e0 _ _ _), rfl, by rw [if_pos z]; exact pu_dead (sl := sl) H1 b2 _ _ (q + 3) (by omega) _⟩
    · rw [if_neg z, pf_self H1.2.2.2.1 H1.2.2.2.2]
      have X2 := X1.pu (dp + 1) 3
      have E := fun g => (pf_q (o := 90) (q := g) X2.1.2.2.2.2)
      have W2 := X2.1.1
      simp only [RW.all W2, X2.1.2.2.2.1, nI_add3, E, MR, ckk_T, deR_s, deQ_s, deQ_n, bkV_s, bkI_s, bkJ_s, bkQ_s, bkQ_n, ckb0, ckb1, ckb2, ckb3, eq_self, Nat.reduceEqDiff, Nat.reduceLeDiff, Nat.reduceLT, reduceIte, true_or, or_true, not_false_eq_true, not_true_eq_false, and_self, and_true, true_and, LIT, Int32.reduceLT, Int32.reduceLE, Int32.reduceToNatClampNeg]
      simp only [z, reduceIte]
      exact ⟨_, 0, rfl, (F1.trans (puM_fr sl e0 M1 _ _ _)).trans (pf_Pt sl e0 _ _ _), rfl, X2.pf (q + 3)⟩
  | false =>
    rw [if_pos (by rfl)]
    simp only [RW.all H1.1, MR, ckk_T, deR_s, deQ_s, deQ_n, bkV_s, bkI_s, bkJ_s, bkQ_s, bkQ_n, ckb0, ckb1, ckb2, ckb3, eq_self, Nat.reduceEqDiff, Nat.reduceLeDiff, Nat.reduceLT, reduceIte, true_or, or_true, not_false_eq_true, not_true_eq_false, and_self, and_true, true_and, LIT, Int32.reduceLT, Int32.reduceLE, Int32.reduceToNatClampNeg]
    rw [r_sign (by omega) H1 (by omega), bkI_s]
    by_cases hs : sg tp t q = 91
    · have qt := sg_lt hs (by decide)
      rw [if_pos (by rw [hs]; rfl)]
      simp only [RW.all H1.1, MR, ckk_T, deR_s, deQ_s, deQ_n, bkV_s, bkI_s, bkJ_s, bkQ_s, bkQ_n, ckb0, ckb1, ckb2, ckb3, eq_self, Nat.reduceEqDiff, Nat.reduceLeDiff, Nat.reduceLT, reduceIte, true_or, or_true, not_false_eq_true, not_true_eq_false, and_self, and_true, true_and, LIT, Int32.reduceLT, Int32.reduceLE, Int32.reduceToNatClampNeg]
      have O := r_opens_d (by omega : 2 ≤ d) X1 hl hd (x := 0) (k := 12) (Or.inr rfl) rfl
      rw [O, bkV_s]
      by_cases z : dp = 10
      · rw [if_pos z]
        have R := puM_rl (H1.pf q (flt 2 q)) xs.length (dp + 1) (rcI 0)
        have F2 := (pf_Pt sl e0 M1 q (flt 2 q)).trans (puM_fr sl e0 (pf 90 M1 q (flt 2 q)) xs.length (dp + 1) (rcI 0))
        have E := fun g => (pf_q (o := 90) (q := g) R.2.2.2.2)
        have W2 := R.1
        simp only [RW.all W2, R.2.2.2.1, nI_1, E, hs, Bool.false_eq_true, MR, ckk_T, deR_s, deQ_s, deQ_n, bkV_s, bkI_s, bkJ_s, bkQ_s, bkQ_n, ckb0, ckb1, ckb2, ckb3, eq_self, Nat.reduceEqDiff, Nat.reduceLeDiff, Nat.reduceLT, reduceIte, true_or, or_true, not_false_eq_true, not_true_eq_false, and_self, and_true, true_and, LIT, Int32.reduceLT, Int32.reduceLE, Int32.reduceToNatClampNeg]
        exact ⟨_, 0, rfl, (F1.trans F2).trans (pf_Pt sl e0 _ _ _), rfl, by rw [if_pos z]; exact pu_dead (sl := sl) H1 b2 _ _ (q + 1) (by omega) _⟩
      · rw [if_neg z, pf_self H1.2.2.2.1 H1.2.2.2.2]
        have X2 := X1.pu (dp + 1) 0
        have E := fun g => (pf_q (o := 90) (q := g) X2.1.2.2.2.2)
        have W2 := X2.1.1
        simp only [RW.all W2, X2.1.2.2.2.1, nI_1, E, hs, Bool.false_eq_true, MR, ckk_T, deR_s, deQ_s, deQ_n, bkV_s, bkI_s, bkJ_s, bkQ_s, bkQ_n, ckb0, ckb1, ckb2, ckb3, eq_self, Nat.reduceEqDiff, Nat.reduceLeDiff, Nat.reduceLT, reduceIte, true_or, or_true, not_false_eq_true, not_true_eq_false, and_self, and_true, true_and, LIT, Int32.reduceLT, Int32.reduceLE, Int32.reduceToNatClampNeg]
        exact ⟨_, 0, rfl, (F1.trans (puM_fr sl e0 M1 _ _ _)).trans (pf_Pt sl e0 _ _ _), rfl, by rw [if_neg z]; exact X2.pf (q + 1)⟩
    · rw [if_neg (show ¬ sI (sg tp t q) = 91 from fun z => hs ((sI_eq (sg_le TP q) (by decide : 91 < 256)).mp z))]
      simp only [RW.all H1.1, MR, ckk_T, deR_s, deQ_s, deQ_n, bkV_s, bkI_s, bkJ_s, bkQ_s, bkQ_n, ckb0, ckb1, ckb2, ckb3, eq_self, Nat.reduceEqDiff, Nat.reduceLeDiff, Nat.reduceLT, reduceIte, true_or, or_true, not_false_eq_true, not_true_eq_false, and_self, and_true, true_and, LIT, Int32.reduceLT, Int32.reduceLE, Int32.reduceToNatClampNeg]
      obtain ⟨M', e', G⟩ := r_compared (by omega : 7 ≤ d) X1 hc b2 he
      rw [e', bkV_s]
      simp only [hs, Bool.false_eq_true, MR, ckk_T, deR_s, deQ_s, deQ_n, bkV_s, bkI_s, bkJ_s, bkQ_s, bkQ_n, ckb0, ckb1, ckb2, ckb3, eq_self, Nat.reduceEqDiff, Nat.reduceLeDiff, Nat.reduceLT, reduceIte, true_or, or_true, not_false_eq_true, not_true_eq_false, and_self, and_true, true_and, LIT, Int32.reduceLT, Int32.reduceLE, Int32.reduceToNatClampNeg]
      exact ⟨M', 1, rfl, F1.trans G.1, rfl, F1.trans G.1, G.2⟩
/-- what holds at the head of the loop -/
def TI (M : ej_Mem) (t : Nat) (tp : Nat → Nat) (sl e0 : Nat) (st : TSt) : Prop := ∃ e j w0, RX2 M t tp st.1 sl e0 e (dpt st.2.2.1 st.2.2.2.1 + j) st.2.2.2.2 (List.replicate j 3 ++ ops st.2.2.1 st.2.2.2.1) (match st.2.1 with | none => pcs st.2.2.1 st.2.2.2.1 | some _ => w0 :: pcs st.2.2.1 st.2.2.2.1) ∧
  (st.2.1 = none → j = 0) ∧ (∀ w, st.2.1 = some w → w = negs j w0 ∧ st.2.2.1.2.2 = 0) ∧ 3 * (e + j + nab st.2.2.1 st.2.2.2.1) + (match st.2.1 with | none => 0 | some _ => 1) ≤ st.1 + 3 * st.2.2.2.2 ∧ st.2.2.2.2 ≤ 60 ∧ st.1 ≤ t ∧ dpt st.2.2.1 st.2.2.2.1 + j ≤ 10
def TstG (M M' : ej_Mem) (t : Nat) (tp : Nat → Nat) (sl e0 : Nat) (r : Nat ⊕ (Nat × Prd × Nat)) : Prop := Fr (Pt sl e0) M M' ∧ match r with
  | .inl g => RDd M' t tp g
  | .inr (p', w, c') => ∃ e', RX2 M' t tp p' sl e0 e' 0 c' [] [w] ∧ 3 * e' + 1 ≤ p' + 3 * c' ∧ c' ≤ 60 ∧ p' ≤ t ∧ e0 < e'
theorem TstG.after {M M1 M' : ej_Mem} {t : Nat} {tp : Nat → Nat} {sl e0 : Nat} {r : Nat ⊕ (Nat × Prd × Nat)} (f : Fr (Pt sl e0) M M1) (h : TstG M1 M' t tp sl e0 r) : TstG M M' t tp sl e0 r := ⟨f.trans h.1, h.2⟩
theorem r_tdead {D : Nat} {M : ej_Mem} {t : Nat} {tp : Nat → Nat} {g : Nat} (h : RDd M t tp g) (l1 l2 : Int32) (o3 o4 : Option Value) : rn jm_Ref_test (cal D) 9 [some (.ref 90), some (.int l1), some (.int l2), o3, o4] [] M = some (none, M) := by
  obtain ⟨g0, gb, p, hp, H⟩ := h
  rw [eq_Ref_test_9]
  by_cases z : l2 = 0
  · rw [if_pos z]
  · rw [if_neg z]
    simp only [RW.all H.1, H.2.2.2.2, MR, ckk_T, deR_s, deQ_s, deQ_n, bkV_s, bkI_s, bkJ_s, bkQ_s, bkQ_n, ckb0, ckb1, ckb2, ckb3, eq_self, Nat.reduceEqDiff, Nat.reduceLeDiff, Nat.reduceLT, reduceIte, true_or, or_true, not_false_eq_true, not_true_eq_false, and_self, and_true, true_and, LIT, Int32.reduceLT, Int32.reduceLE, Int32.reduceToNatClampNeg]
    rw [if_neg (nI_ne0 (by omega) (by omega))]
theorem stw_ex {tp : Nat → Nat} {t p : Nat} {v w : List Nat} (h : stw tp t p v = true) (hl : v.length ≠ w.length) : stw tp t p w = false := by
  cases q : stw tp t p w with
  | false => rfl
  | true => have a := stw_len h; have b := stw_len q; omega
theorem r_tloop {D : Nat} (hD : 8 ≤ D) {t : Nat} {tp : Nat → Nat} {sl e0 : Nat} : ∀ (n : Nat) (st : TSt) (M : ej_Mem) (o3 o4 : Option Value), t - st.1 < n → TI M t tp sl e0 st → ∃ M', rn jm_Ref_test (cal D) 9 [some (.ref 90), some (.int (b2i st.2.1.isNone)), some (.int 1), o3, o4] [] M = some (none, M') ∧ TstG M M' t tp sl e0 (trun tp t n st)
  | 0, st, M, o3, o4, hn, h => absurd hn (Nat.not_lt_zero _)
  | n + 1, (p, none, f, fs, c), M, o3, o4, hn, h => by
    obtain ⟨e, j, w0, X, hj, _, hB, hc, hp, hd⟩ := h
    have hj : j = 0 := hj rfl
    subst hj
    have X : RX2 M t tp p sl e0 e (dpt f fs) c (ops f fs) (pcs f fs) := X
    have hB : 3 * (e + 0 + nab f fs) + 0 ≤ p + 3 * c := hB
    have hc : c ≤ 60 := hc
    have hp : p ≤ t := hp
    have hd : dpt f fs ≤ 10 := hd
    have hn : t - p < n + 1 := hn
    have H := X.1
    have t4 := H.2.2.1.1.1
    have ol := ops_len fs f
    have pl := pcs_len fs f
    have fl := fs_dpt fs f
    have ef : mI M 90 3 = 0 := H.2.2.2.2
    have b1 : p ≤ blk tp t p := bl_ge tp t 401 p
    have b2 : blk tp t p ≤ t := bl_le tp t 401 p hp
    obtain ⟨M1, x, e1, F1, G1⟩ := r_fact hD X hc hp (by omega) hd (by omega)
    have go : rn jm_Ref_test (cal D) 9 [some (.ref 90), some (.int (b2i (none : Option Prd).isNone)), some (.int 1), o3, o4] [] M = (if x = 0 then rn jm_Ref_test (cal D) 9 [some (.ref 90), some (.int 1), some (.int 1), o3, o4] [] M1 else rn jm_Ref_test (cal D) 9 [some (.ref 90), some (.int 0), some (.int 1), o3, o4] [] M1) := by
      show rn jm_Ref_test (cal D) 9 [some (.ref 90), some (.int 1), some (.int 1), o3, o4] [] M = _
      rw [eq_Ref_test_9, if_neg (by decide)]
      simp only [RW.all H.1, ef, MR, ckk_T, deR_s, deQ_s, deQ_n, bkV_s, bkI_s, bkJ_s, bkQ_s, bkQ_n, ckb0, ckb1, ckb2, ckb3, eq_self, Nat.reduceEqDiff, Nat.reduceLeDiff, Nat.reduceLT, reduceIte, true_or, or_true, not_false_eq_true, not_true_eq_false, and_self, and_true, true_and, LIT, Int32.reduceLT, Int32.reduceLE, Int32.reduceToNatClampNeg]
      rw [e1, bkI_s]
    show ∃ M', rn jm_Ref_test (cal D) 9 [some (.ref 90), some (.int (b2i (none : Option Prd).isNone)), some (.int 1), o3, o4] [] M = some (none, M') ∧ _
    rw [go]
    unfold trun tstep
    simp only
    split at G1
    · rename_i hw
      have w3 : blk tp t p + 3 ≤ t := stw_le b2 hw
      rw [if_pos hw]
      obtain ⟨rfl, G2⟩ := G1
      rw [if_pos rfl]
      split at G2
      · rename_i hz
        rw [if_pos hz]
        exact ⟨M1, r_tdead G2 _ _ _ _, F1, G2⟩
      · rename_i hz
        rw [if_neg hz]
        obtain ⟨M', e', T'⟩ := r_tloop hD n (blk tp t p + 3, none, (f.1, f.2.1, f.2.2 + 1), fs, c) M1 o3 o4 (by show t - (blk tp t p + 3) < n; omega) ⟨e, 0, w0, by
            show RX2 M1 t tp (blk tp t p + 3) sl e0 e (dpt (f.1, f.2.1, f.2.2 + 1) fs) c (ops (f.1, f.2.1, f.2.2 + 1) fs) (pcs (f.1, f.2.1, f.2.2 + 1) fs)
            have d1 := dpt_k f fs (f.2.2 + 1)
            rw [pcs_k, ops_k (f.1, f.2.1, f.2.2 + 1), show dpt (f.1, f.2.1, f.2.2 + 1) fs = dpt f fs + 1 by omega]
            rw [ops_k f] at G2
            exact G2, fun _ => rfl, fun w z => (by cases z), by
            have n1 := nab_k (f.1, f.2.1, f.2.2 + 1) fs
            have n2 := nab_k f fs
            show 3 * (e + 0 + nab (f.1, f.2.1, f.2.2 + 1) fs) + 0 ≤ blk tp t p + 3 + 3 * c
            have n1 : nab (f.1, f.2.1, f.2.2 + 1) fs = f.2.2 + 1 + nab (f.1, f.2.1, 0) fs := n1
            omega, hc, w3, by
            have d1 := dpt_k f fs (f.2.2 + 1)
            show dpt (f.1, f.2.1, f.2.2 + 1) fs + 0 ≤ 10
            omega⟩
        exact ⟨M', e', T'.after F1⟩
    · rename_i hw
      rw [if_neg hw]
      split at G1
      · rename_i hs
        have qt := sg_lt hs (by decide)
        rw [if_pos hs]
        obtain ⟨rfl, G2⟩ := G1
        rw [if_pos rfl]
        split at G2
        · rename_i hz
          rw [if_pos hz]
          exact ⟨M1, r_tdead G2 _ _ _ _, F1, G2⟩
        · rename_i hz
          rw [if_neg hz]
          obtain ⟨M', e', T'⟩ := r_tloop hD n (blk tp t p + 1, none, (none, none, 0), f :: fs, c) M1 o3 o4 (by show t - (blk tp t p + 1) < n; omega) ⟨e, 0, w0, by
              show RX2 M1 t tp (blk tp t p + 1) sl e0 e (0 + 1 + dpt f fs) c (0 :: ops f fs) (pcs f fs)
              rw [show 0 + 1 + dpt f fs = dpt f fs + 1 by omega]
              exact G2, fun _ => rfl, fun w z => (by cases z), by
              show 3 * (e + 0 + (0 + nab f fs)) + 0 ≤ blk tp t p + 1 + 3 * c
              omega, hc, by show blk tp t p + 1 ≤ t; omega, by
              show 0 + 1 + dpt f fs + 0 ≤ 10
              omega⟩
          exact ⟨M', e', T'.after F1⟩
      · rename_i hs
        rw [if_neg hs]
        obtain ⟨rfl, F2, G2⟩ := G1
        rw [if_neg (by decide)]
        cases hcm : cmp tp t (blk tp t p) c with
        | inl g =>
          rw [hcm] at G2
          exact ⟨M1, r_tdead G2 _ _ _ _, F1, G2⟩
        | inr y =>
          obtain ⟨p', set, lo, hi⟩ := y
          obtain ⟨c1, c2, c3⟩ := cmp_ok b2 hcm
          rw [hcm] at G2
          obtain ⟨M', e', T'⟩ := r_tloop hD n (p', some (negs f.2.2 (fP set lo hi)), (f.1, f.2.1, 0), fs, c + 1) M1 o3 o4 (by show t - p' < n; omega) ⟨e + 1, f.2.2, fP set lo hi, by
              show RX2 M1 t tp p' sl e0 (e + 1) (dpt (f.1, f.2.1, 0) fs + f.2.2) (c + 1) (List.replicate f.2.2 3 ++ ops (f.1, f.2.1, 0) fs) (fP set lo hi :: pcs (f.1, f.2.1, 0) fs)
              have d1 := dpt_k f fs 0
              rw [pcs_k, ← ops_k f, d1]
              exact G2, fun z => (by cases z), fun w z => (by cases z; exact ⟨rfl, rfl⟩), by
              have n2 := nab_k f fs
              show 3 * (e + 1 + f.2.2 + nab (f.1, f.2.1, 0) fs) + 1 ≤ p' + 3 * (c + 1)
              omega, by show c + 1 ≤ 60; omega, c2, by
              have d1 := dpt_k f fs 0
              show dpt (f.1, f.2.1, 0) fs + f.2.2 ≤ 10
              omega⟩
          exact ⟨M', e', T'.after F1⟩
  | n + 1, (p, some w, f, fs, c), M, o3, o4, hn, h => by
    obtain ⟨e, j, w0, X, _, hw0, hB, hc, hp, hd⟩ := h
    obtain ⟨hw, hk⟩ := hw0 w rfl
    have hk : f.2.2 = 0 := hk
    obtain ⟨o, a, k⟩ := f
    have hk : k = 0 := hk
    subst hk
    have X : RX2 M t tp p sl e0 e (dpt (o, a, 0) fs + j) c (List.replicate j 3 ++ ops (o, a, 0) fs) (w0 :: pcs (o, a, 0) fs) := X
    have hB : 3 * (e + j + nab (o, a, 0) fs) + 1 ≤ p + 3 * c := hB
    have hc : c ≤ 60 := hc
    have hp : p ≤ t := hp
    have hd : dpt (o, a, 0) fs + j ≤ 10 := hd
    have hn : t - p < n + 1 := hn
    have H := X.1
    have TP := H.2.2.1.1
    have t4 := TP.1
    have ol := ops_len fs (o, a, 0)
    have pl := pcs_len fs (o, a, 0)
    have fl := fs_dpt fs (o, a, 0)
    have tl := len_tl (o, a, 0) fs
    have ef : mI M 90 3 = 0 := H.2.2.2.2
    have b1 : p ≤ blk tp t p := bl_ge tp t 401 p
    have b2 : blk tp t p ≤ t := bl_le tp t 401 p hp
    have eo : ops (o, a, 0) fs = (if a.isSome = true then [2] else []) ++ ((if o.isSome = true then [1] else []) ++ tlO fs) := by rw [ops_tl, ← List.append_assoc]; rfl
    have ep : pcs (o, a, 0) fs = oL a ++ (oL o ++ tlP fs) := by rw [pcs_tl, ← List.append_assoc, pcF_L]
    obtain ⟨nb, nb1, nb2⟩ := nab_tl (o, a, 0) fs
    have oF : (opF (o, a, 0)).length = (if a.isSome = true then [2] else []).length + (if o.isSome = true then [1] else []).length := by
      show (List.replicate 0 3 ++ ((if a.isSome = true then [2] else []) ++ (if o.isSome = true then [1] else []))).length = _
      rw [List.length_append, List.length_append]; simp
    obtain ⟨M1, e1, F1, X1⟩ := r_ansN (by omega : 1 ≤ D - 1) (by rw [eo]; exact topI_a a o fs 9 (by decide) (by decide) (by decide) (by decide)) j e (dpt (o, a, 0) fs) w0 M X (by omega) (by omega)
    have hw : negs j w0 = w := hw.symm
    rw [hw] at X1
    have e1' : cal D jm_Ref_answers [.ref 90, .int 9] M = some (none, M1) := by
      obtain ⟨d, rfl⟩ : ∃ d, D = d + 1 := ⟨D - 1, by omega⟩
      rw [ca_Ref_answers]; exact e1
    have X2 := X1.pf (blk tp t p)
    have F2 := pf_Pt sl e0 M1 (blk tp t p) 0
    have e2 := r_blanks (by omega : 2 ≤ D) X1.1 (by omega)
    generalize hM2 : pf 90 M1 (blk tp t p) 0 = M2 at *
    have s1 := r_stands (by omega : 6 ≤ D) X2.1 (k := 25) (by decide) b2 (r := 28) rfl
    have s2 := r_stands (by omega : 6 ≤ D) X2.1 (k := 26) (by decide) b2 (r := 29) rfl
    rw [show wd 25 = wd 11 from rfl] at s1
    rw [show wd 26 = wd 12 from rfl] at s2
    rw [eo, ep] at X2
    have lo : ((if o.isSome = true then [1] else []) ++ tlO fs).length < 402 := by
      rw [eo, List.length_append] at ol
      omega
    obtain ⟨M3, e3, a3, F3, ee3, X3⟩ := r_ansA (by omega : 2 ≤ D) a X2 (topI_o o fs 10 (by decide) (by decide) (by decide)) (by omega) lo
    show ∃ M', rn jm_Ref_test (cal D) 9 [some (.ref 90), some (.int (b2i (some w).isNone)), some (.int 1), o3, o4] [] M = some (none, M') ∧ _
    show ∃ M', rn jm_Ref_test (cal D) 9 [some (.ref 90), some (.int 0), some (.int 1), o3, o4] [] M = some (none, M') ∧ _
    rw [eq_Ref_test_9, if_neg (by decide)]
    simp only [RW.all H.1, ef, MR, ckk_T, deR_s, deQ_s, deQ_n, bkV_s, bkI_s, bkJ_s, bkQ_s, bkQ_n, ckb0, ckb1, ckb2, ckb3, eq_self, Nat.reduceEqDiff, Nat.reduceLeDiff, Nat.reduceLT, reduceIte, true_or, or_true, not_false_eq_true, not_true_eq_false, and_self, and_true, true_and, LIT, Int32.reduceLT, Int32.reduceLE, Int32.reduceToNatClampNeg]
    rw [e1', bkV_s, ckk_t X1.1.1.1, e2, bkV_s, ckk_t X2.1.1.1, s1, bkI_s, ckk_t X2.1.1.1, s2, bkI_s, ckk_t X2.1.1.1, a3, bkV_s]
    unfold trun tstep
    simp only
    have F3' := (F1.trans F2).trans F3
    cases ha : stw tp t (blk tp t p) (wd 11) with
    | true =>
      have w3 : blk tp t p + 3 ≤ t := stw_le b2 ha
      have ho : stw tp t (blk tp t p) (wd 12) = false := stw_ex ha (by decide)
      rw [ho]
      have O := r_opens_j (by omega : 2 ≤ D) X3 lo (x := 2) (k := 10) (Or.inl rfl) rfl
      have X4 := X3.pu (dpt (o, a, 0) fs) 2
      have F4 := puM_fr sl e0 M3 ((if o.isSome = true then [1] else []) ++ tlO fs).length (dpt (o, a, 0) fs) (rcI 2)
      rw [if_neg (by decide), if_pos (by rfl), if_neg (by decide), ckk_t X3.1.1.1, O, bkV_s]
      generalize puM M3 ((if o.isSome = true then [1] else []) ++ tlO fs).length (dpt (o, a, 0) fs) (rcI 2) = M4 at *
      rw [if_pos rfl]
      simp only [RW.all X4.1.1, X4.1.2.2.2.1, nI_add3, b2i_t, b2i_f, MR, ckk_T, deR_s, deQ_s, deQ_n, bkV_s, bkI_s, bkJ_s, bkQ_s, bkQ_n, ckb0, ckb1, ckb2, ckb3, eq_self, Nat.reduceEqDiff, Nat.reduceLeDiff, Nat.reduceLT, reduceIte, true_or, or_true, not_false_eq_true, not_true_eq_false, and_self, and_true, true_and, LIT, Int32.reduceLT, Int32.reduceLE, Int32.reduceToNatClampNeg]
      rw [pf_q X4.1.2.2.2.2]
      have X5 := X4.pf (blk tp t p + 3)
      obtain ⟨M', e', T'⟩ := r_tloop hD n (blk tp t p + 3, none, (o, some (andv a w), 0), fs, c) (pf 90 M4 (blk tp t p + 3) 0) (some (.int 1)) (some (.int 0)) (by show t - (blk tp t p + 3) < n; omega) ⟨e3, 0, w0, by
          show RX2 _ t tp (blk tp t p + 3) sl e0 e3 (dpt (o, some (andv a w), 0) fs) c (ops (o, some (andv a w), 0) fs) (pcs (o, some (andv a w), 0) fs)
          have d1 := dpt_k (o, a, 0) fs 0
          rw [ops_tl, pcs_tl]
          show RX2 _ t tp (blk tp t p + 3) sl e0 e3 (dpt (o, some (andv a w), 0) fs) c (2 :: ((if o.isSome = true then [1] else []) ++ tlO fs)) (andv a w :: (pcF (o, none, 0) ++ tlP fs))
          rw [pcF_L]
          have d2 : dpt (o, some (andv a w), 0) fs = dpt (o, a, 0) fs := by cases fs <;> rfl
          rw [d2]
          exact X5, fun _ => rfl, fun w z => (by cases z), by
          show 3 * (e3 + 0 + nab (o, some (andv a w), 0) fs) + 0 ≤ blk tp t p + 3 + 3 * c
          have n3 := nb2 (o, some (andv a w), 0)
          have o3 : (opF (o, some (andv a w), 0)).length = 1 + (if o.isSome = true then [1] else []).length := by
            show (List.replicate 0 3 ++ ([2] ++ (if o.isSome = true then [1] else []))).length = _
            rw [List.length_append, List.length_append]; simp
          omega, hc, w3, by
          show dpt (o, some (andv a w), 0) fs + 0 ≤ 10
          have d2 : dpt (o, some (andv a w), 0) fs = dpt (o, a, 0) fs := by cases fs <;> rfl
          omega⟩
      exact ⟨M', e', T'.after ((F3'.trans F4).trans (pf_Pt sl e0 _ _ _))⟩
    | false =>
      rw [if_neg (show ¬ (false = true) by decide)]
      obtain ⟨M4, e4, a4, F4, ee4, X4⟩ := r_ansO (by omega : 2 ≤ D) o X3 (topI_tl fs 11 (by decide) (by decide)) (by omega) (by omega)
      have F4' := F3'.trans F4
      cases ho : stw tp t (blk tp t p) (wd 12) with
      | true =>
        have w3 : blk tp t p + 2 ≤ t := stw_le b2 ho
        rw [if_pos rfl]
        have O := r_opens_j (by omega : 2 ≤ D) X4 (by omega) (x := 1) (k := 11) (Or.inr rfl) rfl
        have X5 := X4.pu (dpt (o, a, 0) fs) 1
        have F5 := puM_fr sl e0 M4 (tlO fs).length (dpt (o, a, 0) fs) (rcI 1)
        rw [if_pos (by rfl), if_neg (by decide), if_neg (by decide), ckk_t X3.1.1.1, a4, bkV_s, if_pos (by rfl), ckk_t X4.1.1.1, O, bkV_s]
        generalize puM M4 (tlO fs).length (dpt (o, a, 0) fs) (rcI 1) = M5 at *
        simp only [RW.all X5.1.1, X5.1.2.2.2.1, nI_add2, b2i_t, b2i_f, MR, ckk_T, deR_s, deQ_s, deQ_n, bkV_s, bkI_s, bkJ_s, bkQ_s, bkQ_n, ckb0, ckb1, ckb2, ckb3, eq_self, Nat.reduceEqDiff, Nat.reduceLeDiff, Nat.reduceLT, reduceIte, true_or, or_true, not_false_eq_true, not_true_eq_false, and_self, and_true, true_and, LIT, Int32.reduceLT, Int32.reduceLE, Int32.reduceToNatClampNeg]
        rw [pf_q X5.1.2.2.2.2]
        have X6 := X5.pf (blk tp t p + 2)
        obtain ⟨M', e', T'⟩ := r_tloop hD n (blk tp t p + 2, none, (some (orv o (andv a w)), none, 0), fs, c) (pf 90 M5 (blk tp t p + 2) 0) (some (.int 0)) (some (.int 1)) (by show t - (blk tp t p + 2) < n; omega) ⟨e4, 0, w0, by
            show RX2 _ t tp (blk tp t p + 2) sl e0 e4 (dpt (some (orv o (andv a w)), none, 0) fs) c (ops (some (orv o (andv a w)), none, 0) fs) (pcs (some (orv o (andv a w)), none, 0) fs)
            rw [ops_tl, pcs_tl]
            show RX2 _ t tp (blk tp t p + 2) sl e0 e4 (dpt (some (orv o (andv a w)), none, 0) fs) c (1 :: tlO fs) (orv o (andv a w) :: tlP fs)
            have d2 : dpt (some (orv o (andv a w)), none, 0) fs = dpt (o, a, 0) fs := by cases fs <;> rfl
            rw [d2]
            exact X6, fun _ => rfl, fun w z => (by cases z), by
            show 3 * (e4 + 0 + nab (some (orv o (andv a w)), none, 0) fs) + 0 ≤ blk tp t p + 2 + 3 * c
            have n3 := nb2 (some (orv o (andv a w)), none, 0)
            have o3 : (opF (some (orv o (andv a w)), none, 0)).length = 1 := rfl
            omega, hc, w3, by
            show dpt (some (orv o (andv a w)), none, 0) fs + 0 ≤ 10
            have d2 : dpt (some (orv o (andv a w)), none, 0) fs = dpt (o, a, 0) fs := by cases fs <;> rfl
            omega⟩
        exact ⟨M', e', T'.after ((F4'.trans F5).trans (pf_Pt sl e0 _ _ _))⟩
      | false =>
        rw [if_neg (show ¬ (false = true) by decide)]
        rw [if_pos (by rfl), if_pos (by rfl), ckk_t X3.1.1.1, a4, bkV_s, ckk_t X4.1.1.1, r_top (by omega) X4.1.1 X4.2.1.2.2.2.2 X4.2.2.1 (by omega), bkI_s]
        cases fs with
        | nil =>
          rw [if_neg (show ¬ topI (tlO []) = 12 by decide), eq_Ref_test_9, if_pos rfl]
          refine ⟨M4, rfl, F4', e4, X4, ?_, hc, b2, ?_⟩
          · have : nb = 0 := by have := nb2 (none, none, 0); simpa [nab, opF] using this.symm
            omega
          · have q := X4.2.2.2.1.1
            have ge := X4.2.2.2.2.1
            by_cases y : e0 < e4
            · exact y
            · have : e4 - e0 = 0 := by omega
              rw [this] at q
              cases q
        | cons g gs =>
          rw [if_pos (show topI (tlO (g :: gs)) = 12 from rfl), ckk_t X4.1.1.1, r_sign (by omega) X4.1 (by omega), bkI_s]
          have X4' : RX2 M4 t tp (blk tp t p) sl e0 e4 (dpt (o, a, 0) (g :: gs)) c (0 :: ops g gs) (orv o (andv a w) :: pcs g gs) := X4
          have d0 : dpt (o, a, 0) (g :: gs) = dpt g gs + 1 := by show 0 + 1 + dpt g gs = _; omega
          rw [d0] at X4' hd
          obtain ⟨h1, ⟨a4, a5, a6, a7, a8⟩, h3, h4, h5, h6⟩ := X4'
          have a8 : mI M4 90 8 = nI ((ops g gs).length + 1) := a8
          by_cases hs : sg tp t (blk tp t p) = 93
          · have qt := sg_lt hs (by decide)
            rw [if_pos (by rw [hs]; rfl)]
            simp only [hs, if_pos]
            simp only [RW.all h1.1, h1.2.2.2.1, a6, a8, nI_1, nI_pred, va_upe, b2i_f, MR, ckk_T, deR_s, deQ_s, deQ_n, bkV_s, bkI_s, bkJ_s, bkQ_s, bkQ_n, ckb0, ckb1, ckb2, ckb3, eq_self, Nat.reduceEqDiff, Nat.reduceLeDiff, Nat.reduceLT, reduceIte, true_or, or_true, not_false_eq_true, not_true_eq_false, and_self, and_true, true_and, LIT, Int32.reduceLT, Int32.reduceLE, Int32.reduceToNatClampNeg]
            have F5 : Fr (Pt sl e0) M4 (setI (setI (setI M4 90 2 (nI (blk tp t p + 1))) 90 8 (nI (ops g gs).length)) 90 6 (nI (dpt g gs))) := ((Fr.setI (P := Pt sl e0) M4 _ (by unfold Pt; omega)).trans (Fr.setI (P := Pt sl e0) _ _ (by unfold Pt; omega))).trans (Fr.setI (P := Pt sl e0) _ _ (by unfold Pt; omega))
            have X5 : RX2 (setI (setI (setI M4 90 2 (nI (blk tp t p + 1))) 90 8 (nI (ops g gs).length)) 90 6 (nI (dpt g gs))) t tp (blk tp t p + 1) sl e0 e4 (dpt g gs) c (ops g gs) (orv o (andv a w) :: pcs g gs) := by
              have K : RL (setI M4 90 2 (nI (blk tp t p + 1))) t tp (blk tp t p + 1) 0 := by rw [pf_q h1.2.2.2.2]; exact h1.pf _ _
              exact ⟨K.keep ((Fr.setI (P := fun o j => 92 ≤ o ∨ (o = 90 ∧ 4 ≤ j)) _ _ (by omega)).trans (Fr.setI (P := fun o j => 92 ≤ o ∨ (o = 90 ∧ 4 ≤ j)) _ _ (by omega))) (fun o k q => q), ⟨a4, a5, rfl, a7, rfl⟩, h3.2, h4, h5, h6⟩
            generalize setI (setI (setI M4 90 2 (nI (blk tp t p + 1))) 90 8 (nI (ops g gs).length)) 90 6 (nI (dpt g gs)) = M5 at *
            obtain ⟨M', e', T'⟩ := r_tloop hD n (blk tp t p + 1, some (negs g.2.2 (orv o (andv a w))), (g.1, g.2.1, 0), gs, c) M5 (some (.int 0)) (some (.int 0)) (by show t - (blk tp t p + 1) < n; omega) ⟨e4, g.2.2, orv o (andv a w), by
                show RX2 M5 t tp (blk tp t p + 1) sl e0 e4 (dpt (g.1, g.2.1, 0) gs + g.2.2) c (List.replicate g.2.2 3 ++ ops (g.1, g.2.1, 0) gs) (orv o (andv a w) :: pcs (g.1, g.2.1, 0) gs)
                have d1 := dpt_k g gs 0
                rw [pcs_k, ← ops_k g, d1]
                exact X5, fun z => (by cases z), fun w' z => (by cases z; exact ⟨rfl, rfl⟩), by
                have n2 := nab_k g gs
                have n3 : nab (o, a, 0) (g :: gs) = (opF (o, a, 0)).length + nab g gs := rfl
                show 3 * (e4 + g.2.2 + nab (g.1, g.2.1, 0) gs) + 1 ≤ blk tp t p + 1 + 3 * c
                omega, hc, by show blk tp t p + 1 ≤ t; omega, by
                have d1 := dpt_k g gs 0
                show dpt (g.1, g.2.1, 0) gs + g.2.2 ≤ 10
                omega⟩
            exact ⟨M', e', T'.after (F4'.trans F5)⟩
          · rw [if_neg (show ¬ sI (sg tp t (blk tp t p)) = 93 from fun z => hs ((sI_eq (sg_le TP _) (by decide : 93 < 256)).mp z))]
            rw [ckk_t h1.1.1, ckk_t h1.1.1, h1.2.2.2.1, r_fails (by omega) h1 (by decide) (x := 0) (c := 0) rfl, bkV_s]
            simp only [hs, if_neg, not_false_eq_true]
            have H5 := h1.pf (blk tp t p) (orF 0 (flt 0 (blk tp t p)))
            have F5 := pf_Pt sl e0 M4 (blk tp t p) (orF 0 (flt 0 (blk tp t p)))
            generalize pf 90 M4 (blk tp t p) (orF 0 (flt 0 (blk tp t p))) = M5 at *
            simp only [RW.all H5.1, H5.2.2.2.1, nI_1, MR, ckk_T, deR_s, deQ_s, deQ_n, bkV_s, bkI_s, bkJ_s, bkQ_s, bkQ_n, ckb0, ckb1, ckb2, ckb3, eq_self, Nat.reduceEqDiff, Nat.reduceLeDiff, Nat.reduceLT, reduceIte, true_or, or_true, not_false_eq_true, not_true_eq_false, and_self, and_true, true_and, LIT, Int32.reduceLT, Int32.reduceLE, Int32.reduceToNatClampNeg]
            rw [pf_q H5.2.2.2.2]
            have H6 := H5.pf (blk tp t p + 1) (orF 0 (flt 0 (blk tp t p)))
            have F6 := pf_Pt sl e0 M5 (blk tp t p + 1) (orF 0 (flt 0 (blk tp t p)))
            generalize pf 90 M5 (blk tp t p + 1) (orF 0 (flt 0 (blk tp t p))) = M6 at *
            have gen : ∀ u v : Int32, Fr (Pt sl e0) M6 (setI (setI M6 90 8 u) 90 6 v) ∧ RDd (setI (setI M6 90 8 u) 90 6 v) t tp (flt 0 (blk tp t p)) := fun u v => ⟨(Fr.setI (P := Pt sl e0) _ _ (by unfold Pt; omega)).trans (Fr.setI (P := Pt sl e0) _ _ (by unfold Pt; omega)), flt_pos _ _, by unfold flt; omega, blk tp t p + 1, by omega, H6.keep ((Fr.setI (P := fun o j => 92 ≤ o ∨ (o = 90 ∧ 4 ≤ j)) _ _ (by omega)).trans (Fr.setI (P := fun o j => 92 ≤ o ∨ (o = 90 ∧ 4 ≤ j)) _ _ (by omega))) (fun o k q => q)⟩
            rw [r_tdead (gen _ _).2]
            exact ⟨_, rfl, ((F4'.trans F5).trans F6).trans (gen _ _).1, (gen _ _).2⟩
