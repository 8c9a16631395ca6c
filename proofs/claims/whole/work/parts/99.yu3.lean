/-! the class reads facts: what comes of them -/
def CmpC (M M' : ej_Mem) (t : Nat) (tp : Nat → Nat) (dp br c lo0 j : Nat) (xs : List Nat) (ps : List Prd) (r : Nat ⊕ (Nat × Int32 × Int32 × Int32)) : Prop := Fr (Pk lo0) M M' ∧ match r with
  | .inl g => CDd M' t tp g
  | .inr (p', set, lo, hi) => CXk M' t tp p' dp br (c + 1) xs (negs j (fP set lo hi) :: ps) lo0
theorem c_readCounted {D : Nat} (hD : 4 ≤ D) {M : ej_Mem} {t : Nat} {tp : Nat → Nat} {q dp br c lo0 j : Nat} {xs : List Nat} {ps : List Prd} (h : CXk M t tp (q + 2) (dp + j) br c (List.replicate j 3 ++ xs) ps lo0) (hq : q + 2 ≤ t) (hx : xs.head? ≠ some 3) (hxl : ∀ x, x ∈ xs → x ≤ 3) (hl : j + xs.length ≤ 40) (hc : c < 60) (hp : ps.length < 40) : ∃ M', cal D jm_Clerk_readCounted [.ref 61] M = some (none, M') ∧ CmpC M M' t tp dp br c lo0 j xs ps (if inr 65 88 (sg tp t (blk tp t (q + 2))) = true then cmC tp t (cmR tp t q).1 (cmR tp t q).2 else .inl (flt 0 (blk tp t (q + 2)))) := by
  obtain ⟨d, rfl⟩ : ∃ d, D = d + 1 := ⟨D - 1, by omega⟩
  have H := h.1
  have TP := H.2.2.1.1
  have t4 := TP.1
  have r1 := cmR_le (tp := tp) hq
  have b2 := bl_le tp t 401 (q + 2) hq
  rw [ca_Clerk_readCounted, eq_Clerk_readCounted_0]
  simp only [SW.all H.1, MR, ckk_T, deR_s, deQ_s, deQ_n, bkV_s, bkI_s, bkJ_s, bkQ_s, bkQ_n, ckb0, ckb1, ckb2, ckb3, eq_self, Nat.reduceEqDiff, Nat.reduceLeDiff, Nat.reduceLT, reduceIte, true_or, or_true, not_false_eq_true, not_true_eq_false, and_self, and_true, true_and, LIT, Int32.reduceLT, Int32.reduceLE, Int32.reduceToNatClampNeg]
  rw [c_readRights (by omega) H (by decide) hq, bkI_s, show rts tp t 401 (blk tp t (q + 2)) 0 = cmR tp t q from rfl]
  have f1b : (if inr 65 88 (sg tp t (blk tp t (q + 2))) = true then 0 else orF 0 (flt 0 (blk tp t (q + 2)))) < 2 ^ 30 := by
    split
    · decide
    · exact orF_b (by decide) (by unfold blk; omega) (by decide)
  have nb : sg tp t (cmR tp t q).1 ≠ 32 := rts_no tp t t4 401 _ _ (bl_no tp t 401 (q + 2) (by omega))
  generalize hf1 : (if inr 65 88 (sg tp t (blk tp t (q + 2))) = true then 0 else orF 0 (flt 0 (blk tp t (q + 2)))) = f1 at *
  have f10 : f1 = 0 ↔ inr 65 88 (sg tp t (blk tp t (q + 2))) = true := by
    rw [← hf1]
    constructor
    · intro z
      by_cases y : inr 65 88 (sg tp t (blk tp t (q + 2))) = true
      · exact y
      · rw [if_neg y] at z; exact absurd z (flt_pos 0 _)
    · intro y; rw [if_pos y]
  have H1 := H.pf (cmR tp t q).1 f1
  rw [ckk_t (SW.all H1.1).2.2.1, c_look (by omega) H1 (by omega), bkI_s, blk_fix nb, pf_pf]
  generalize hset : (cmR tp t q).2 = set at *
  generalize (cmR tp t q).1 = r at *
  by_cases hs : sg tp t r = 60 ∨ sg tp t r = 61 ∨ sg tp t r = 62
  · obtain ⟨rt, n1, n2⟩ := cmN_le hs
    obtain ⟨p', v, lo, hi, e1, c1, c2, c3, c4⟩ := c_cnt34 (by omega : 2 ≤ d) H1 f1b hs set
    rw [pf_pf] at e1
    have sel : (if sI (sg tp t r) = 60 then rn jm_Clerk_readCounted (cal d) 34 [some (.ref 61), some (.int set), some (.int (sI (sg tp t r))), none, none, none] [] (pf 61 M r f1) else
        if sI (sg tp t r) = 61 then rn jm_Clerk_readCounted (cal d) 34 [some (.ref 61), some (.int set), some (.int (sI (sg tp t r))), none, none, none] [] (pf 61 M r f1) else
        if sI (sg tp t r) = 62 then rn jm_Clerk_readCounted (cal d) 34 [some (.ref 61), some (.int set), some (.int (sI (sg tp t r))), none, none, none] [] (pf 61 M r f1) else
        ckk (mC (pf 61 M r f1) 61 = 0) (bkV (cal d jm_Clerk_fail [.ref 61, .int 0] (pf 61 M r f1)) fun M5 => some (none, M5))) = rn jm_Clerk_readCounted (cal d) 34 [some (.ref 61), some (.int set), some (.int (sI (sg tp t r))), none, none, none] [] (pf 61 M r f1) := by
      rcases hs with hs | hs | hs
      · rw [if_pos (by rw [hs]; rfl)]
      · rw [if_neg (by rw [hs]; decide), if_pos (by rw [hs]; rfl)]
      · rw [if_neg (by rw [hs]; decide), if_neg (by rw [hs]; decide), if_pos (by rw [hs]; rfl)]
    rw [sel, e1]
    have nb := nmF_b (tp := tp) (most := 24) f1b n2 t4
    by_cases z1 : f1 = 0
    · rw [if_pos (f10.mp z1)]
      subst z1
      unfold cmC
      rw [if_pos hs]
      by_cases z6 : nmF tp t 24 (cmN tp t r) 0 = 0
      · obtain ⟨y1, y2⟩ := c4 z6
        rw [z6] at nb ⊢
        rw [if_pos rfl, ← y1, ← y2, ← c2, ← c3]
        obtain ⟨M', e2, f2, X2⟩ := c_addFact (by omega : 2 ≤ d) (h.pf p') hx hxl hl hc hp set lo hi
        exact ⟨M', by rw [e2, bkV_s], (pf_Pk lo0 M p' 0).trans f2, X2⟩
      · rw [if_neg z6, c_addFact_no (by omega) (H.pf p' _) z6 nb, bkV_s]
        exact ⟨_, rfl, pf_Pk lo0 _ _ _, z6, nb, p', c1, H.pf _ _⟩
    · have ni : inr 65 88 (sg tp t (blk tp t (q + 2))) = false := by
        cases y : inr 65 88 (sg tp t (blk tp t (q + 2))) with
        | false => rfl
        | true => exact absurd (f10.mpr y) z1
      rw [nmF_f z1] at nb ⊢
      rw [c_addFact_no (by omega) (H.pf p' _) z1 nb, bkV_s, ni, if_neg Bool.false_ne_true]
      have e1 : f1 = flt 0 (blk tp t (q + 2)) := by rw [← hf1, ni, if_neg Bool.false_ne_true]; rfl
      rw [← e1]
      exact ⟨_, rfl, pf_Pk lo0 _ _ _, z1, f1b, p', c1, H.pf _ _⟩
  · rw [if_neg (show ¬ sI (sg tp t r) = 60 from fun z => hs (Or.inl ((sI_eq (sg_le TP r) (by decide : 60 < 256)).mp z))), if_neg (show ¬ sI (sg tp t r) = 61 from fun z => hs (Or.inr (Or.inl ((sI_eq (sg_le TP r) (by decide : 61 < 256)).mp z)))), if_neg (show ¬ sI (sg tp t r) = 62 from fun z => hs (Or.inr (Or.inr ((sI_eq (sg_le TP r) (by decide : 62 < 256)).mp z))))]
    rw [ckk_t (SW.all H1.1).2.2.1, c_fail (by omega) H1 f1b (x := 0) (c := 0) rfl, bkV_s, pf_pf]
    by_cases z1 : f1 = 0
    · rw [if_pos (f10.mp z1)]
      subst z1
      unfold cmC
      rw [if_neg hs]
      exact ⟨_, rfl, pf_Pk lo0 _ _ _, flt_pos 0 r, by show flt 0 r < _; unfold flt; omega, r, r1.2, H.pf _ _⟩
    · have ni : inr 65 88 (sg tp t (blk tp t (q + 2))) = false := by
        cases y : inr 65 88 (sg tp t (blk tp t (q + 2))) with
        | false => rfl
        | true => exact absurd (f10.mpr y) z1
      rw [ni, if_neg Bool.false_ne_true, show orF f1 (flt 0 r) = f1 by unfold orF; rw [if_neg z1]]
      have e1 : f1 = flt 0 (blk tp t (q + 2)) := by rw [← hf1, ni, if_neg Bool.false_ne_true]; rfl
      rw [← e1]
      exact ⟨_, rfl, pf_Pk lo0 _ _ _, z1, f1b, r, r1.2, H.pf _ _⟩
theorem stw_0 {tp : Nat → Nat} {t q k : Nat} (hk : k < 28) (h : stw tp t q (wd k) = true) : sg tp t q = (wd k).getD 0 0 := by
  unfold stw at h
  rw [Bool.and_eq_true] at h
  have w1 := (wd_ok k hk).1
  have := mtc_at _ 0 h.2 0 (Nat.le_refl _) (by omega)
  rwa [Nat.add_zero] at this
/-- depth, brackets, place -/
theorem CXk_dbp {M : ej_Mem} {t : Nat} {tp : Nat → Nat} {p dp br c lo0 : Nat} {xs : List Nat} {ps : List Prd} (h : CXk M t tp p dp br c xs ps lo0) (dp' br' p' : Nat) : Fr (Pk lo0) M (setI (setI (pf 61 M p' 0) 61 11 (nI dp')) 61 12 (nI br')) ∧ CXk (setI (setI (pf 61 M p' 0) 61 11 (nI dp')) 61 12 (nI br')) t tp p' dp' br' c xs ps lo0 := by
  obtain ⟨h1, ⟨a6, a10, a11, a12, a16⟩, h3, h4⟩ := h.pf p'
  exact ⟨((pf_Pk lo0 M p' 0).trans (Fr.setI (P := Pk lo0) _ _ (by unfold Pk; omega))).trans (Fr.setI (P := Pk lo0) _ _ (by unfold Pk; omega)), h1.keep ((Fr.setI (P := fun o k => 62 ≤ o ∨ (o = 61 ∧ 4 ≤ k)) _ _ (by omega)).trans (Fr.setI (P := fun o k => 62 ≤ o ∨ (o = 61 ∧ 4 ≤ k)) _ _ (by omega))) (fun o k q => q), ⟨a6, a10, rfl, rfl, a16⟩, h3, h4⟩
theorem c_open0 {D : Nat} (hD : 2 ≤ D) {M : ej_Mem} {t : Nat} {tp : Nat → Nat} {q dp br c lo0 : Nat} {xs : List Nat} {ps : List Prd} (h : CXk M t tp q dp br c xs ps lo0) (hd : dp < 10) (hl : xs.length < 40) : ∃ M', cal D jm_Clerk_readOpening [.ref 61, .int 0] M = some (none, M') ∧ Fr (Pk lo0) M M' ∧ CXk M' t tp (q + 1) (dp + 1) (br + 1) c (0 :: xs) ps lo0 := by
  obtain ⟨d, rfl⟩ : ∃ d, D = d + 1 := ⟨D - 1, by omega⟩
  obtain ⟨F1, X1⟩ := CXk_dbp h (dp + 1) (br + 1) (q + 1)
  obtain ⟨h1, ⟨a6, a10, a11, a12, a16⟩, h3, h4⟩ := h
  have e : setI (setI (setI M 61 11 (nI (dp + 1))) 61 12 (nI (br + 1))) 61 2 (nI (q + 1)) = setI (setI (pf 61 M (q + 1) 0) 61 11 (nI (dp + 1))) 61 12 (nI (br + 1)) := by
    rw [setI_x _ 61 (by decide : (12 : Nat) ≠ 2), setI_x _ 61 (by decide : (11 : Nat) ≠ 2), pf_q h1.2.2.2.2]
  rw [ca_Clerk_readOpening, eq_Clerk_readOpening_0]
  simp only [SW.all h1.1, a11, a12, h1.2.2.2.1, nI_1, va_upe, MR, ckk_T, deR_s, deQ_s, deQ_n, bkV_s, bkI_s, bkJ_s, bkQ_s, bkQ_n, ckb0, ckb1, ckb2, ckb3, eq_self, Nat.reduceEqDiff, Nat.reduceLeDiff, Nat.reduceLT, reduceIte, true_or, or_true, not_false_eq_true, not_true_eq_false, and_self, and_true, true_and, LIT, Int32.reduceLT, Int32.reduceLE, Int32.reduceToNatClampNeg]
  rw [if_pos (show nI dp < 10 from nI_lt (b := 10) hd (by decide)), e, c_addWaiting (by omega) X1.1.1 X1.2.1.2.1 hl, bkV_s]
  exact ⟨_, rfl, F1.trans (awM_fr lo0 _ _ _), X1.aw 0⟩
theorem c_open3 {D : Nat} (hD : 3 ≤ D) {M : ej_Mem} {t : Nat} {tp : Nat → Nat} {q dp br c lo0 : Nat} {xs : List Nat} {ps : List Prd} (h : CXk M t tp q dp br c xs ps lo0) (hq : q ≤ t) (hw : stw tp t q (wd 9) = true) (hd : dp < 10) (hl : xs.length < 40) : ∃ M', cal D jm_Clerk_readOpening [.ref 61, .int 3] M = some (none, M') ∧ Fr (Pk lo0) M M' ∧ CXk M' t tp (q + 3) (dp + 1) br c (3 :: xs) ps lo0 := by
  obtain ⟨d, rfl⟩ : ∃ d, D = d + 1 := ⟨D - 1, by omega⟩
  have t4 := h.1.2.2.1.1.1
  obtain ⟨F1, X1⟩ := CXk_dbp h (dp + 1) br q
  obtain ⟨h1, ⟨a6, a10, a11, a12, a16⟩, h3, h4⟩ := h
  have e : setI M 61 11 (nI (dp + 1)) = setI (setI (pf 61 M q 0) 61 11 (nI (dp + 1))) 61 12 (nI br) := by
    rw [pf_self h1.2.2.2.1 h1.2.2.2.2]
    exact (setI_self (show mI (setI M 61 11 (nI (dp + 1))) 61 12 = nI br from a12)).symm
  have L : lwk tp t q = q + 3 := stw_len hw
  rw [ca_Clerk_readOpening, eq_Clerk_readOpening_0]
  simp only [SW.all h1.1, a11, nI_1, MR, ckk_T, deR_s, deQ_s, deQ_n, bkV_s, bkI_s, bkJ_s, bkQ_s, bkQ_n, ckb0, ckb1, ckb2, ckb3, eq_self, Nat.reduceEqDiff, Nat.reduceLeDiff, Nat.reduceLT, reduceIte, true_or, or_true, not_false_eq_true, not_true_eq_false, and_self, and_true, true_and, LIT, Int32.reduceLT, Int32.reduceLE, Int32.reduceToNatClampNeg]
  rw [if_pos (show nI dp < 10 from nI_lt (b := 10) hd (by decide))]
  rw [e]
  have X2 := X1.pf (q + 3)
  rw [c_skipWord (by omega) X1.1 (by omega), bkV_s, L, ckk_t (SW.all X2.1.1).2.2.1, c_addWaiting (by omega) X2.1.1 X2.2.1.2.1 hl, bkV_s]
  exact ⟨_, rfl, (F1.trans (pf_Pk lo0 _ _ _)).trans (awM_fr lo0 _ _ _), X2.aw 3⟩
theorem c_open10 {D : Nat} (hD : 2 ≤ D) {M : ej_Mem} {t : Nat} {tp : Nat → Nat} {q dp br c lo0 : Nat} {xs : List Nat} {ps : List Prd} (h : CXk M t tp q dp br c xs ps lo0) (hq : q ≤ t) (hd : dp = 10) (k : Int32) : ∃ M', cal D jm_Clerk_readOpening [.ref 61, .int k] M = some (none, M') ∧ Fr (Pk lo0) M M' ∧ CDd M' t tp (flt 2 q) := by
  obtain ⟨d, rfl⟩ : ∃ d, D = d + 1 := ⟨D - 1, by omega⟩
  have t4 := h.1.2.2.1.1.1
  obtain ⟨h1, ⟨a6, a10, a11, a12, a16⟩, h3, h4⟩ := h
  rw [ca_Clerk_readOpening, eq_Clerk_readOpening_0]
  simp only [SW.all h1.1, a11, MR, ckk_T, deR_s, deQ_s, deQ_n, bkV_s, bkI_s, bkJ_s, bkQ_s, bkQ_n, ckb0, ckb1, ckb2, ckb3, eq_self, Nat.reduceEqDiff, Nat.reduceLeDiff, Nat.reduceLT, reduceIte, true_or, or_true, not_false_eq_true, not_true_eq_false, and_self, and_true, true_and, LIT, Int32.reduceLT, Int32.reduceLE, Int32.reduceToNatClampNeg]
  rw [if_neg (show ¬ nI dp < 10 from nI_nlt (b := 10) (by omega) (by omega)), c_fail (by omega) h1 (by decide) (x := 2) (c := 2) rfl, bkV_s]
  exact ⟨_, rfl, pf_Pk lo0 _ _ _, flt_pos 2 q, by unfold flt; omega, q, hq, h1.pf _ _⟩
def FctC (M M' : ej_Mem) (t : Nat) (tp : Nat → Nat) (dp br c lo0 j q : Nat) (xs : List Nat) (ps : List Prd) : Prop := Fr (Pk lo0) M M' ∧
  (if stw tp t q (wd 9) = true then (if dp + j = 10 then CDd M' t tp (flt 2 q) else CXk M' t tp (q + 3) (dp + j + 1) br c (3 :: (List.replicate j 3 ++ xs)) ps lo0)
    else if sg tp t q = 91 then (if dp + j = 10 then CDd M' t tp (flt 2 q) else CXk M' t tp (q + 1) (dp + j + 1) (br + 1) c (0 :: (List.replicate j 3 ++ xs)) ps lo0)
    else CmpC M M' t tp dp br c lo0 j xs ps (cmp tp t q c))
theorem c_readFact {D : Nat} (hD : 7 ≤ D) {M : ej_Mem} {t : Nat} {tp : Nat → Nat} {q dp br c lo0 j : Nat} {xs : List Nat} {ps : List Prd} (h : CXk M t tp q (dp + j) br c (List.replicate j 3 ++ xs) ps lo0) (hq : q ≤ t) (hx : xs.head? ≠ some 3) (hxl : ∀ x, x ∈ xs → x ≤ 3) (hl : j + xs.length < 40) (hc : c ≤ 60) (hp : ps.length < 40) (hd : dp + j ≤ 10) : ∃ M', cal D jm_Clerk_readFact [.ref 61, .int (sI (sg tp t q))] M = some (none, M') ∧ FctC M M' t tp dp br c lo0 j q xs ps := by
  obtain ⟨d, rfl⟩ : ∃ d, D = d + 1 := ⟨D - 1, by omega⟩
  have H := h.1
  have TP := H.2.2.1.1
  have t4 := TP.1
  have lx : (List.replicate j 3 ++ xs).length < 40 := by rw [List.length_append, List.length_replicate]; omega
  rw [ca_Clerk_readFact, eq_Clerk_readFact_0]
  unfold FctC
  by_cases hs : sg tp t q = 91
  · have nw : stw tp t q (wd 9) = false := by
      cases y : stw tp t q (wd 9) with
      | false => rfl
      | true => have := stw_0 (by decide) y; rw [hs] at this; exact absurd this (by decide)
    rw [if_pos (by rw [hs]; rfl), if_pos (by rw [hs]; rfl), nw]
    simp only [SW.all H.1, Bool.false_eq_true, hs, MR, ckk_T, deR_s, deQ_s, deQ_n, bkV_s, bkI_s, bkJ_s, bkQ_s, bkQ_n, ckb0, ckb1, ckb2, ckb3, eq_self, Nat.reduceEqDiff, Nat.reduceLeDiff, Nat.reduceLT, reduceIte, true_or, or_true, not_false_eq_true, not_true_eq_false, and_self, and_true, true_and, LIT, Int32.reduceLT, Int32.reduceLE, Int32.reduceToNatClampNeg]
    by_cases z : dp + j = 10
    · obtain ⟨M', e1, F1, d1⟩ := c_open10 (by omega : 2 ≤ d) h hq z 0
      rw [e1, bkV_s]
      exact ⟨M', rfl, F1, by rw [if_pos z]; exact d1⟩
    · obtain ⟨M', e1, F1, X1⟩ := c_open0 (by omega : 2 ≤ d) h (by omega) lx
      rw [e1, bkV_s]
      exact ⟨M', rfl, F1, by rw [if_neg z]; exact X1⟩
  · have n91 : ¬ sI (sg tp t q) = 91 := fun z => hs ((sI_eq (sg_le TP q) (by decide : 91 < 256)).mp z)
    rw [if_neg n91]
    simp only [SW.all H.1, hs, MR, ckk_T, deR_s, deQ_s, deQ_n, bkV_s, bkI_s, bkJ_s, bkQ_s, bkQ_n, ckb0, ckb1, ckb2, ckb3, eq_self, Nat.reduceEqDiff, Nat.reduceLeDiff, Nat.reduceLT, reduceIte, true_or, or_true, not_false_eq_true, not_true_eq_false, and_self, and_true, true_and, LIT, Int32.reduceLT, Int32.reduceLE, Int32.reduceToNatClampNeg]
    rw [c_isWord (by omega) H (k := 9) (by decide) hq rfl, bkI_s]
    cases hw : stw tp t q (wd 9) with
    | true =>
      rw [if_neg (by decide), if_neg n91]
      simp only [SW.all H.1, MR, ckk_T, deR_s, deQ_s, deQ_n, bkV_s, bkI_s, bkJ_s, bkQ_s, bkQ_n, ckb0, ckb1, ckb2, ckb3, eq_self, Nat.reduceEqDiff, Nat.reduceLeDiff, Nat.reduceLT, reduceIte, true_or, or_true, not_false_eq_true, not_true_eq_false, and_self, and_true, true_and, LIT, Int32.reduceLT, Int32.reduceLE, Int32.reduceToNatClampNeg]
      by_cases z : dp + j = 10
      · obtain ⟨M', e1, F1, d1⟩ := c_open10 (by omega : 2 ≤ d) h hq z 3
        rw [e1, bkV_s]
        exact ⟨M', rfl, F1, by rw [if_pos z]; exact d1⟩
      · obtain ⟨M', e1, F1, X1⟩ := c_open3 (by omega : 3 ≤ d) h hq hw (by omega) lx
        rw [e1, bkV_s]
        exact ⟨M', rfl, F1, by rw [if_neg z]; exact X1⟩
    | false =>
      rw [if_pos (by rfl)]
      simp only [SW.all H.1, Bool.false_eq_true, MR, ckk_T, deR_s, deQ_s, deQ_n, bkV_s, bkI_s, bkJ_s, bkQ_s, bkQ_n, ckb0, ckb1, ckb2, ckb3, eq_self, Nat.reduceEqDiff, Nat.reduceLeDiff, Nat.reduceLT, reduceIte, true_or, or_true, not_false_eq_true, not_true_eq_false, and_self, and_true, true_and, LIT, Int32.reduceLT, Int32.reduceLE, Int32.reduceToNatClampNeg]
      rw [c_isWord (by omega) H (k := 10) (by decide) hq rfl, bkI_s]
      unfold cmp
      obtain ⟨a6, a10, a11, a12, a16⟩ := h.2.1
      cases ho : stw tp t q (wd 10) with
      | true =>
        have w2 : q + 2 ≤ t := stw_le hq ho
        have nr : inr 65 88 (sg tp t q) = false := by have := stw_0 (by decide) ho; rw [this]; decide
        rw [if_neg (by decide), nr, if_neg (show ¬ (false = true) by decide), if_pos (show true = true from rfl)]
        simp only [SW.all H.1, a6, ofNat_nI, MR, ckk_T, deR_s, deQ_s, deQ_n, bkV_s, bkI_s, bkJ_s, bkQ_s, bkQ_n, ckb0, ckb1, ckb2, ckb3, eq_self, Nat.reduceEqDiff, Nat.reduceLeDiff, Nat.reduceLT, reduceIte, true_or, or_true, not_false_eq_true, not_true_eq_false, and_self, and_true, true_and, LIT, Int32.reduceLT, Int32.reduceLE, Int32.reduceToNatClampNeg]
        by_cases z : c = 60
        · subst z
          rw [if_neg (show ¬ nI (5 * 60) < nI 300 by decide), if_pos rfl, c_fail (by omega) H (by decide) (x := 3) (c := 3) rfl, bkV_s]
          exact ⟨_, rfl, pf_Pk lo0 _ _ _, pf_Pk lo0 _ _ _, flt_pos 3 q, by show flt 3 q < _; unfold flt; omega, q, hq, H.pf _ _⟩
        · rw [if_pos (nI_lt (by omega) (by decide)), if_neg z, if_neg (by decide)]
          rw [c_skipWord (by omega) H (by omega), bkV_s, stw_len ho]
          have X1 := h.pf (q + 2)
          obtain ⟨M', e1, G⟩ := c_readCounted (by omega : 4 ≤ d) X1 w2 hx hxl (by omega) (by omega) hp
          rw [show q + (wd 10).length = q + 2 from rfl, ckk_t (SW.all X1.1.1).2.2.1, e1, bkV_s]
          exact ⟨M', rfl, (pf_Pk lo0 _ _ _).trans G.1, (pf_Pk lo0 _ _ _).trans G.1, G.2⟩
      | false =>
        rw [if_pos (by rfl), c_isRight (by omega) (sg_le TP q), bkI_s]
        cases hr : inr 65 88 (sg tp t q) with
        | false =>
          rw [if_pos (by rfl), if_neg (show ¬ (false = true) by decide)]
          simp only [SW.all H.1, MR, ckk_T, deR_s, deQ_s, deQ_n, bkV_s, bkI_s, bkJ_s, bkQ_s, bkQ_n, ckb0, ckb1, ckb2, ckb3, eq_self, Nat.reduceEqDiff, Nat.reduceLeDiff, Nat.reduceLT, reduceIte, true_or, or_true, not_false_eq_true, not_true_eq_false, and_self, and_true, true_and, LIT, Int32.reduceLT, Int32.reduceLE, Int32.reduceToNatClampNeg]
          rw [c_fail (by omega) H (by decide) (x := 0) (c := 0) rfl, bkV_s]
          exact ⟨_, rfl, pf_Pk lo0 _ _ _, pf_Pk lo0 _ _ _, flt_pos 0 q, by show flt 0 q < _; unfold flt; omega, q, hq, H.pf _ _⟩
        | true =>
          have qt := inr_lt (by decide) hr
          rw [if_neg (by decide), if_pos (show true = true from rfl)]
          simp only [SW.all H.1, a6, ofNat_nI, MR, ckk_T, deR_s, deQ_s, deQ_n, bkV_s, bkI_s, bkJ_s, bkQ_s, bkQ_n, ckb0, ckb1, ckb2, ckb3, eq_self, Nat.reduceEqDiff, Nat.reduceLeDiff, Nat.reduceLT, reduceIte, true_or, or_true, not_false_eq_true, not_true_eq_false, and_self, and_true, true_and, LIT, Int32.reduceLT, Int32.reduceLE, Int32.reduceToNatClampNeg]
          by_cases z : c = 60
          · subst z
            rw [if_neg (show ¬ nI (5 * 60) < nI 300 by decide), if_pos rfl, c_fail (by omega) H (by decide) (x := 3) (c := 3) rfl, bkV_s]
            exact ⟨_, rfl, pf_Pk lo0 _ _ _, pf_Pk lo0 _ _ _, flt_pos 3 q, by show flt 3 q < _; unfold flt; omega, q, hq, H.pf _ _⟩
          · rw [if_pos (nI_lt (by omega) (by decide)), if_neg z, if_pos (by rfl)]
            simp only [SW.all H.1, H.2.2.2.1, nI_1, MR, ckk_T, deR_s, deQ_s, deQ_n, bkV_s, bkI_s, bkJ_s, bkQ_s, bkQ_n, ckb0, ckb1, ckb2, ckb3, eq_self, Nat.reduceEqDiff, Nat.reduceLeDiff, Nat.reduceLT, reduceIte, true_or, or_true, not_false_eq_true, not_true_eq_false, and_self, and_true, true_and, LIT, Int32.reduceLT, Int32.reduceLE, Int32.reduceToNatClampNeg]
            rw [pf_q H.2.2.2.2]
            obtain ⟨M', e1, F1, X1⟩ := c_addFact (by omega : 2 ≤ d) (h.pf (q + 1)) hx hxl (by omega) (by omega) hp (rb (sg tp t q)) 1 1
            have e1' : cal d jm_Clerk_addFact [.ref 61, .int (1 <<< ((sI (sg tp t q) - 65) &&& 31)), .int 1, .int 1] (pf 61 M (q + 1) 0) = _ := e1
            rw [e1', bkV_s]
            exact ⟨M', rfl, (pf_Pk lo0 _ _ _).trans F1, (pf_Pk lo0 _ _ _).trans F1, X1⟩
