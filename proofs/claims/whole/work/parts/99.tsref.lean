/-! the reference: facts -/
def cnM (M : ej_Mem) (p f c : Nat) : ej_Mem := setI (pf 90 M p f) 90 7 (nI (c + 1))
theorem r_isCounted {D : Nat} (hD : 2 ≤ D) {M : ej_Mem} {t : Nat} {tp : Nat → Nat} {p f c : Nat} (h : RL M t tp p f) (hf : f < 2 ^ 30) (h7 : mI M 90 7 = nI c) (hc : c ≤ 60) (q : Nat) : cal D jm_Ref_isCounted [.ref 90, .int (nI q)] M = some (none, cnM M p (if c = 60 then orF f (flt 3 q) else f) c) := by
  obtain ⟨d, rfl⟩ : ∃ d, D = d + 1 := ⟨D - 1, by omega⟩
  rw [ca_Ref_isCounted, eq_Ref_isCounted_0]
  simp only [RW.all h.1, h7, MR, ckk_T, deR_s, deQ_s, deQ_n, bkV_s, bkI_s, bkJ_s, bkQ_s, bkQ_n, ckb0, ckb1, ckb2, ckb3, eq_self, Nat.reduceEqDiff, Nat.reduceLeDiff, Nat.reduceLT, reduceIte, true_or, or_true, not_false_eq_true, not_true_eq_false, and_self, and_true, true_and, LIT, Int32.reduceLT, Int32.reduceLE, Int32.reduceToNatClampNeg]
  unfold cnM
  by_cases z : c = 60
  · rw [if_pos (by rw [z]; rfl), r_fails (by omega) h hf (x := 3) (c := 3) rfl, bkV_s, if_pos z]
    have H := h.pf p (orF f (flt 3 q))
    have b7 : mI (pf 90 M p (orF f (flt 3 q))) 90 7 = nI c := by rw [(pf_fr 90 M p _).i (by unfold Ppf; omega)]; exact h7
    simp only [RW.all H.1, b7, nI_1, MR, ckk_T, deR_s, deQ_s, deQ_n, bkV_s, bkI_s, bkJ_s, bkQ_s, bkQ_n, ckb0, ckb1, ckb2, ckb3, eq_self, Nat.reduceEqDiff, Nat.reduceLeDiff, Nat.reduceLT, reduceIte, true_or, or_true, not_false_eq_true, not_true_eq_false, and_self, and_true, true_and, LIT, Int32.reduceLT, Int32.reduceLE, Int32.reduceToNatClampNeg]
  · rw [if_neg (show ¬ nI c = 60 from fun e => z ((nI_eq (by omega) (by decide : 60 < 2 ^ 31)).mp e)), if_neg z, pf_self h.2.2.2.1 h.2.2.2.2]
    simp only [RW.all h.1, nI_1, MR, ckk_T, deR_s, deQ_s, deQ_n, bkV_s, bkI_s, bkJ_s, bkQ_s, bkQ_n, ckb0, ckb1, ckb2, ckb3, eq_self, Nat.reduceEqDiff, Nat.reduceLeDiff, Nat.reduceLT, reduceIte, true_or, or_true, not_false_eq_true, not_true_eq_false, and_self, and_true, true_and, LIT, Int32.reduceLT, Int32.reduceLE, Int32.reduceToNatClampNeg]
theorem cnM_rl {M : ej_Mem} {t : Nat} {tp : Nat → Nat} {p f : Nat} (h : RL M t tp p f) (g c : Nat) : RL (cnM M p g c) t tp p g := (h.pf p g).keep (Fr.setI (P := fun o j => 92 ≤ o ∨ (o = 90 ∧ 4 ≤ j)) _ _ (by omega)) (fun o k q => q)
theorem cnM_fr (sl e0 : Nat) (M : ej_Mem) (p f c : Nat) : Fr (Pt sl e0) M (cnM M p f c) := (pf_Pt sl e0 M p f).trans (Fr.setI (P := Pt sl e0) _ _ (by unfold Pt; omega))
theorem RX2.cn {M : ej_Mem} {t : Nat} {tp : Nat → Nat} {p sl e0 e dp c : Nat} {xs : List Nat} {ps : List Prd} (h : RX2 M t tp p sl e0 e dp c xs ps) : RX2 (cnM M p 0 c) t tp p sl e0 e dp (c + 1) xs ps := by
  obtain ⟨h1, ⟨a4, a5, a6, a7, a8⟩, h3, h4, h5, h6⟩ := h.pf p
  exact ⟨cnM_rl h.1 0 c, ⟨a4, a5, a6, rfl, a8⟩, h3, h4, h5, h6⟩
theorem orF_b {f c q : Nat} (hf : f < 2 ^ 30) (hq : q < 2 ^ 20) (hc : c < 8) : orF f (flt c q) < 2 ^ 30 := by unfold orF flt; split <;> omega
theorem r_cmp111 {D : Nat} (hD : 4 ≤ D) {M : ej_Mem} {t : Nat} {tp : Nat → Nat} {r f : Nat} (h : RL M t tp r f) (hf : f < 2 ^ 30) (hs : sg tp t r = 60 ∨ sg tp t r = 61 ∨ sg tp t r = 62) (l1 set : Int32) :
    rn jm_Ref_compared (cal D) 111 [some (.ref 90), some (.int l1), some (.int set), some (.int (sI (sg tp t r))), none, none] [] M = bkV (cal D jm_Ref_entry [.ref 90, .int (kdI (sg tp t r) (cmE tp t r)), .int (set ||| (nI (num tp t (blk tp t (cmN tp t r))).2 <<< ((24 : Int32) &&& 31)))] (pf 90 M (blk tp t (cmN tp t r) + (num tp t (blk tp t (cmN tp t r))).1) (nmF tp t 24 (cmN tp t r) f))) (fun M1 => some (none, M1)) := by
  obtain ⟨rt, n1, n2⟩ := cmN_le hs
  have TP := h.2.2.1.1
  have t4 := TP.1
  have key : ∀ (m : Nat) (eq : Bool) (l4 : Int32), m ≤ t → l4 = b2i eq → ∀ M1 : ej_Mem, RL M1 t tp m f → (∀ p g, pf 90 M1 p g = pf 90 M p g) → (bkI (cal D jm_Ref_amount [.ref 90, .int 24] M1) fun x2 M1 =>
      if sI (sg tp t r) = 61 then rn jm_Ref_compared (cal D) 213 [some (.ref 90), some (.int l1), some (.int set), some (.int (sI (sg tp t r))), some (.int l4), some (.int x2)] [.int 6, .ref 90] M1 else
      if sI (sg tp t r) = 60 then (if l4 = 0 then rn jm_Ref_compared (cal D) 213 [some (.ref 90), some (.int l1), some (.int set), some (.int (sI (sg tp t r))), some (.int l4), some (.int x2)] [.int 4, .ref 90] M1 else rn jm_Ref_compared (cal D) 213 [some (.ref 90), some (.int l1), some (.int set), some (.int (sI (sg tp t r))), some (.int l4), some (.int x2)] [.int 5, .ref 90] M1) else
      (if l4 = 0 then rn jm_Ref_compared (cal D) 213 [some (.ref 90), some (.int l1), some (.int set), some (.int (sI (sg tp t r))), some (.int l4), some (.int x2)] [.int 8, .ref 90] M1 else rn jm_Ref_compared (cal D) 213 [some (.ref 90), some (.int l1), some (.int set), some (.int (sI (sg tp t r))), some (.int l4), some (.int x2)] [.int 7, .ref 90] M1)) = bkV (cal D jm_Ref_entry [.ref 90, .int (kdI (sg tp t r) eq), .int (set ||| (nI (num tp t (blk tp t m)).2 <<< ((24 : Int32) &&& 31)))] (pf 90 M (blk tp t m + (num tp t (blk tp t m)).1) (nmF tp t 24 m f))) (fun M1 => some (none, M1)) := by
    intro m eq l4 hm h4 M1 H1 e1
    subst h4
    rw [r_amount hD H1 hf hm (x := 24) (most := 24) rfl (by decide), bkI_s, e1]
    have W2 := (h.pf (blk tp t m + (num tp t (blk tp t m)).1) (nmF tp t 24 m f)).1
    have fin : ∀ k : Int32, ∀ l4' : Int32, rn jm_Ref_compared (cal D) 213 [some (.ref 90), some (.int l1), some (.int set), some (.int (sI (sg tp t r))), some (.int l4'), some (.int (nI (num tp t (blk tp t m)).2))] [.int k, .ref 90] (pf 90 M (blk tp t m + (num tp t (blk tp t m)).1) (nmF tp t 24 m f)) = bkV (cal D jm_Ref_entry [.ref 90, .int k, .int (set ||| (nI (num tp t (blk tp t m)).2 <<< ((24 : Int32) &&& 31)))] (pf 90 M (blk tp t m + (num tp t (blk tp t m)).1) (nmF tp t 24 m f))) (fun M1 => some (none, M1)) := by
      intro k l4'
      rw [eq_Ref_compared_213]
      simp only [RW.all W2, MR, ckk_T, deR_s, deQ_s, deQ_n, bkV_s, bkI_s, bkJ_s, bkQ_s, bkQ_n, ckb0, ckb1, ckb2, ckb3, eq_self, Nat.reduceEqDiff, Nat.reduceLeDiff, Nat.reduceLT, reduceIte, true_or, or_true, not_false_eq_true, not_true_eq_false, and_self, and_true, true_and, LIT, Int32.reduceLT, Int32.reduceLE, Int32.reduceToNatClampNeg]
    rcases hs with hs | hs | hs
    · rw [hs, if_neg (by decide), if_pos (by decide)]
      rw [hs] at fin
      cases eq
      · rw [if_pos (by rfl)]; exact fin 4 _
      · rw [if_neg (by decide)]; exact fin 5 _
    · rw [hs, if_pos (by decide)]
      rw [hs] at fin
      exact fin 6 _
    · rw [hs, if_neg (by decide), if_neg (by decide)]
      rw [hs] at fin
      cases eq
      · rw [if_pos (by rfl)]; exact fin 8 _
      · rw [if_neg (by decide)]; exact fin 7 _
  rw [eq_Ref_compared_111]
  simp only [RW.all h.1, h.2.2.2.1, nI_1, MR, ckk_T, deR_s, deQ_s, deQ_n, bkV_s, bkI_s, bkJ_s, bkQ_s, bkQ_n, ckb0, ckb1, ckb2, ckb3, eq_self, Nat.reduceEqDiff, Nat.reduceLeDiff, Nat.reduceLT, reduceIte, true_or, or_true, not_false_eq_true, not_true_eq_false, and_self, and_true, true_and, LIT, Int32.reduceLT, Int32.reduceLE, Int32.reduceToNatClampNeg]
  rw [pf_q h.2.2.2.2]
  have H1 := h.pf (r + 1) f
  have e1 : ∀ p g, pf 90 (pf 90 M (r + 1) f) p g = pf 90 M p g := fun p g => pf_pf 90 M _ _ p g
  have no : cmE tp t r = false → rn jm_Ref_compared (cal D) 140 [some (.ref 90), some (.int l1), some (.int set), some (.int (sI (sg tp t r))), none, none] [] (pf 90 M (r + 1) f) = bkV (cal D jm_Ref_entry [.ref 90, .int (kdI (sg tp t r) (cmE tp t r)), .int (set ||| (nI (num tp t (blk tp t (cmN tp t r))).2 <<< ((24 : Int32) &&& 31)))] (pf 90 M (blk tp t (cmN tp t r) + (num tp t (blk tp t (cmN tp t r))).1) (nmF tp t 24 (cmN tp t r) f))) (fun M1 => some (none, M1)) := by
    intro hE
    have eN : cmN tp t r = r + 1 := by unfold cmN; rw [hE, if_neg Bool.false_ne_true]
    rw [eN] at n2
    rw [eq_Ref_compared_140, eq_Ref_compared_141]
    simp only [RW.all H1.1, H1.2.2.2.1, MR, ckk_T, deR_s, deQ_s, deQ_n, bkV_s, bkI_s, bkJ_s, bkQ_s, bkQ_n, ckb0, ckb1, ckb2, ckb3, eq_self, Nat.reduceEqDiff, Nat.reduceLeDiff, Nat.reduceLT, reduceIte, true_or, or_true, not_false_eq_true, not_true_eq_false, and_self, and_true, true_and, LIT, Int32.reduceLT, Int32.reduceLE, Int32.reduceToNatClampNeg]
    rw [eq_Ref_compared_158]
    simp only [RW.all H1.1, MR, ckk_T, deR_s, deQ_s, deQ_n, bkV_s, bkI_s, bkJ_s, bkQ_s, bkQ_n, ckb0, ckb1, ckb2, ckb3, eq_self, Nat.reduceEqDiff, Nat.reduceLeDiff, Nat.reduceLT, reduceIte, true_or, or_true, not_false_eq_true, not_true_eq_false, and_self, and_true, true_and, LIT, Int32.reduceLT, Int32.reduceLE, Int32.reduceToNatClampNeg]
    rw [show nI (r + 1) + 0 = nI (r + 1) from Int32.add_zero _, pf_s2, eN, hE]
    exact key (r + 1) false 0 n2 rfl _ H1 e1
  by_cases q61 : sg tp t r = 61
  · have hE : cmE tp t r = false := by unfold cmE; rw [decide_eq_false (fun z => z.1 q61)]
    rw [if_pos (by rw [q61]; rfl)]
    exact no hE
  · rw [if_neg (show ¬ sI (sg tp t r) = 61 from fun z => q61 ((sI_eq (sg_le TP r) (by decide : 61 < 256)).mp z))]
    rw [r_sign (by omega) H1 (by omega), bkI_s]
    by_cases q2 : sg tp t (r + 1) = 61
    · have hE : cmE tp t r = true := by unfold cmE; rw [decide_eq_true ⟨q61, q2⟩]
      have eN : cmN tp t r = r + 2 := by unfold cmN; rw [hE, if_pos rfl]
      rw [eN] at n2
      rw [if_pos (by rw [q2]; rfl), eq_Ref_compared_141]
      simp only [RW.all H1.1, H1.2.2.2.1, MR, ckk_T, deR_s, deQ_s, deQ_n, bkV_s, bkI_s, bkJ_s, bkQ_s, bkQ_n, ckb0, ckb1, ckb2, ckb3, eq_self, Nat.reduceEqDiff, Nat.reduceLeDiff, Nat.reduceLT, reduceIte, true_or, or_true, not_false_eq_true, not_true_eq_false, and_self, and_true, true_and, LIT, Int32.reduceLT, Int32.reduceLE, Int32.reduceToNatClampNeg]
      rw [eq_Ref_compared_158]
      simp only [RW.all H1.1, nI_1, MR, ckk_T, deR_s, deQ_s, deQ_n, bkV_s, bkI_s, bkJ_s, bkQ_s, bkQ_n, ckb0, ckb1, ckb2, ckb3, eq_self, Nat.reduceEqDiff, Nat.reduceLeDiff, Nat.reduceLT, reduceIte, true_or, or_true, not_false_eq_true, not_true_eq_false, and_self, and_true, true_and, LIT, Int32.reduceLT, Int32.reduceLE, Int32.reduceToNatClampNeg]
      rw [pf_s2, eN, hE]
      exact key (r + 2) true 1 n2 rfl _ (h.pf (r + 2) f) (fun p g => pf_pf 90 M _ _ p g)
    · have hE : cmE tp t r = false := by unfold cmE; rw [decide_eq_false (fun z => q2 z.2)]
      rw [if_neg (show ¬ sI (sg tp t (r + 1)) = 61 from fun z => q2 ((sI_eq (sg_le TP _) (by decide : 61 < 256)).mp z))]
      exact no hE
/-- what comes of a fact, a test: the fault, or how it goes on -/
def RDd (M : ej_Mem) (t : Nat) (tp : Nat → Nat) (g : Nat) : Prop := g ≠ 0 ∧ g < 2 ^ 30 ∧ ∃ p, p ≤ t + 1 ∧ RL M t tp p g
def CmpG (M M' : ej_Mem) (t : Nat) (tp : Nat → Nat) (sl e0 e dp c : Nat) (xs : List Nat) (ps : List Prd) (r : Nat ⊕ (Nat × Int32 × Int32 × Int32)) : Prop := Fr (Pt sl e0) M M' ∧ match r with
  | .inl g => RDd M' t tp g
  | .inr (p', set, lo, hi) => RX2 M' t tp p' sl e0 (e + 1) dp (c + 1) xs (fP set lo hi :: ps)
theorem nmF_b {tp : Nat → Nat} {t most p f : Nat} (hf : f < 2 ^ 30) (hp : p ≤ t) (ht : t ≤ 400) : nmF tp t most p f < 2 ^ 30 := by
  have := bl_le tp t 401 p hp
  unfold nmF
  split
  · exact orF_b hf (by unfold blk; omega) (by decide)
  · split
    · exact orF_b hf (by unfold blk; omega) (by decide)
    · exact hf
theorem r_compared {D : Nat} (hD : 7 ≤ D) {M : ej_Mem} {t : Nat} {tp : Nat → Nat} {q sl e0 e dp c : Nat} {xs : List Nat} {ps : List Prd} (h : RX2 M t tp q sl e0 e dp c xs ps) (hc : c ≤ 60) (hq : q ≤ t) (he : e < 200) : ∃ M', cal D jm_Ref_compared [.ref 90] M = some (none, M') ∧ CmpG M M' t tp sl e0 e dp c xs ps (cmp tp t q c) := by
  obtain ⟨d, rfl⟩ : ∃ d, D = d + 1 := ⟨D - 1, by omega⟩
  have H := h.1
  have TP := H.2.2.1.1
  have t4 := TP.1
  have p2 := H.2.2.2.1
  rw [ca_Ref_compared, eq_Ref_compared_0]
  simp only [RW.all H.1, p2, MR, ckk_T, deR_s, deQ_s, deQ_n, bkV_s, bkI_s, bkJ_s, bkQ_s, bkQ_n, ckb0, ckb1, ckb2, ckb3, eq_self, Nat.reduceEqDiff, Nat.reduceLeDiff, Nat.reduceLT, reduceIte, true_or, or_true, not_false_eq_true, not_true_eq_false, and_self, and_true, true_and, LIT, Int32.reduceLT, Int32.reduceLE, Int32.reduceToNatClampNeg]
  rw [r_isRight (by omega) H (by omega), bkI_s]
  unfold cmp
  have C := r_isCounted (by omega : 2 ≤ d) (M := M) H (by decide) h.2.1.2.2.2.1 hc q
  cases hr : inr 65 88 (sg tp t q) with
  | true =>
    have qt := inr_lt (by decide) hr
    rw [if_neg (by decide), if_pos rfl, C, bkV_s]
    by_cases z : c = 60
    · rw [if_pos z, if_pos z]
      have H2 := cnM_rl H (orF 0 (flt 3 q)) c
      have F2 := cnM_fr sl e0 M q (orF 0 (flt 3 q)) c
      generalize cnM M q (orF 0 (flt 3 q)) c = M2 at *
      have fb : orF 0 (flt 3 q) < 2 ^ 30 := orF_b (by decide) (by omega) (by decide)
      simp only [RW.all H2.1, MR, ckk_T, deR_s, deQ_s, deQ_n, bkV_s, bkI_s, bkJ_s, bkQ_s, bkQ_n, ckb0, ckb1, ckb2, ckb3, eq_self, Nat.reduceEqDiff, Nat.reduceLeDiff, Nat.reduceLT, reduceIte, true_or, or_true, not_false_eq_true, not_true_eq_false, and_self, and_true, true_and, LIT, Int32.reduceLT, Int32.reduceLE, Int32.reduceToNatClampNeg]
      rw [r_sign (by omega) H2 (by omega), bkI_s]
      simp only [RW.all H2.1, MR, ckk_T, deR_s, deQ_s, deQ_n, bkV_s, bkI_s, bkJ_s, bkQ_s, bkQ_n, ckb0, ckb1, ckb2, ckb3, eq_self, Nat.reduceEqDiff, Nat.reduceLeDiff, Nat.reduceLT, reduceIte, true_or, or_true, not_false_eq_true, not_true_eq_false, and_self, and_true, true_and, LIT, Int32.reduceLT, Int32.reduceLE, Int32.reduceToNatClampNeg]
      rw [r_entry_no (by omega) H2 (flt_pos 3 q) fb, bkV_s]
      simp only [RW.all H.1, RW.all H2.1, H2.2.2.2.1, nI_1, MR, ckk_T, deR_s, deQ_s, deQ_n, bkV_s, bkI_s, bkJ_s, bkQ_s, bkQ_n, ckb0, ckb1, ckb2, ckb3, eq_self, Nat.reduceEqDiff, Nat.reduceLeDiff, Nat.reduceLT, reduceIte, true_or, or_true, not_false_eq_true, not_true_eq_false, and_self, and_true, true_and, LIT, Int32.reduceLT, Int32.reduceLE, Int32.reduceToNatClampNeg]
      rw [pf_q H2.2.2.2.2]
      exact ⟨_, rfl, F2.trans (pf_Pt sl e0 _ _ _), flt_pos 3 q, fb, q + 1, by omega, H2.pf _ _⟩
    · rw [if_neg z, if_neg z]
      have X2 := h.cn
      have F2 := cnM_fr sl e0 M q 0 c
      generalize cnM M q 0 c = M2 at *
      have H2 := X2.1
      simp only [RW.all H2.1, MR, ckk_T, deR_s, deQ_s, deQ_n, bkV_s, bkI_s, bkJ_s, bkQ_s, bkQ_n, ckb0, ckb1, ckb2, ckb3, eq_self, Nat.reduceEqDiff, Nat.reduceLeDiff, Nat.reduceLT, reduceIte, true_or, or_true, not_false_eq_true, not_true_eq_false, and_self, and_true, true_and, LIT, Int32.reduceLT, Int32.reduceLE, Int32.reduceToNatClampNeg]
      rw [r_sign (by omega) H2 (by omega), bkI_s]
      simp only [RW.all H2.1, MR, ckk_T, deR_s, deQ_s, deQ_n, bkV_s, bkI_s, bkJ_s, bkQ_s, bkQ_n, ckb0, ckb1, ckb2, ckb3, eq_self, Nat.reduceEqDiff, Nat.reduceLeDiff, Nat.reduceLT, reduceIte, true_or, or_true, not_false_eq_true, not_true_eq_false, and_self, and_true, true_and, LIT, Int32.reduceLT, Int32.reduceLE, Int32.reduceToNatClampNeg]
      rw [r_entry_ok (by omega) H2 X2.2.1.1 X2.2.1.2.1 X2.2.2.2.2.2 he, bkV_s]
      have X3 := X2.ent 0 (1 <<< ((sI (sg tp t q) - 65) &&& 31)) (ps' := fP (rb (sg tp t q)) 1 1 :: ps) (fun a k v => a.push (by rw [k]; decide) (by rw [k]; decide) (by rw [k]; decide) (fun s => by rw [k, v]; exact cnt_right (h24_rb hr) s))
      have F3 := eM_fr M2 (sl := sl) (e0 := e0) X2.2.2.2.2.1 he 0 (1 <<< ((sI (sg tp t q) - 65) &&& 31))
      generalize eM M2 sl e 0 (1 <<< ((sI (sg tp t q) - 65) &&& 31)) = M3 at *
      have H3 := X3.1
      simp only [RW.all H.1, RW.all H3.1, H3.2.2.2.1, nI_1, MR, ckk_T, deR_s, deQ_s, deQ_n, bkV_s, bkI_s, bkJ_s, bkQ_s, bkQ_n, ckb0, ckb1, ckb2, ckb3, eq_self, Nat.reduceEqDiff, Nat.reduceLeDiff, Nat.reduceLT, reduceIte, true_or, or_true, not_false_eq_true, not_true_eq_false, and_self, and_true, true_and, LIT, Int32.reduceLT, Int32.reduceLE, Int32.reduceToNatClampNeg]
      rw [pf_q H3.2.2.2.2]
      exact ⟨_, rfl, (F2.trans F3).trans (pf_Pt sl e0 _ _ _), X3.pf (q + 1)⟩
  | false =>
    rw [if_pos (by rfl), if_neg Bool.false_ne_true]
    simp only [RW.all H.1, MR, ckk_T, deR_s, deQ_s, deQ_n, bkV_s, bkI_s, bkJ_s, bkQ_s, bkQ_n, ckb0, ckb1, ckb2, ckb3, eq_self, Nat.reduceEqDiff, Nat.reduceLeDiff, Nat.reduceLT, reduceIte, true_or, or_true, not_false_eq_true, not_true_eq_false, and_self, and_true, true_and, LIT, Int32.reduceLT, Int32.reduceLE, Int32.reduceToNatClampNeg]
    rw [r_stands (by omega) H (k := 24) (by decide) hq rfl, bkI_s, show wd 24 = wd 10 from rfl]
    cases hw : stw tp t q (wd 10) with
    | false =>
      rw [if_pos (by rfl), if_neg Bool.false_ne_true]
      simp only [RW.all H.1, MR, ckk_T, deR_s, deQ_s, deQ_n, bkV_s, bkI_s, bkJ_s, bkQ_s, bkQ_n, ckb0, ckb1, ckb2, ckb3, eq_self, Nat.reduceEqDiff, Nat.reduceLeDiff, Nat.reduceLT, reduceIte, true_or, or_true, not_false_eq_true, not_true_eq_false, and_self, and_true, true_and, LIT, Int32.reduceLT, Int32.reduceLE, Int32.reduceToNatClampNeg]
      rw [r_fails (by omega) H (by decide) (x := 0) (c := 0) rfl, bkV_s]
      exact ⟨_, rfl, pf_Pt sl e0 _ _ _, flt_pos 0 q, by unfold flt; omega, q, by omega, H.pf _ _⟩
    | true =>
      have w2 : q + 2 ≤ t := stw_le hq hw
      rw [if_neg (by decide), if_pos rfl]
      simp only [RW.all H.1, MR, ckk_T, deR_s, deQ_s, deQ_n, bkV_s, bkI_s, bkJ_s, bkQ_s, bkQ_n, ckb0, ckb1, ckb2, ckb3, eq_self, Nat.reduceEqDiff, Nat.reduceLeDiff, Nat.reduceLT, reduceIte, true_or, or_true, not_false_eq_true, not_true_eq_false, and_self, and_true, true_and, LIT, Int32.reduceLT, Int32.reduceLE, Int32.reduceToNatClampNeg]
      rw [C, bkV_s]
      have f5b : (if c = 60 then orF 0 (flt 3 q) else 0) < 2 ^ 30 := by split; exact orF_b (by decide) (by omega) (by decide); decide
      have H5 := cnM_rl H (if c = 60 then orF 0 (flt 3 q) else 0) c
      have F5 := cnM_fr sl e0 M q (if c = 60 then orF 0 (flt 3 q) else 0) c
      have X5 : c ≠ 60 → RX2 (cnM M q (if c = 60 then orF 0 (flt 3 q) else 0) c) t tp q sl e0 e dp (c + 1) xs ps := fun z => by rw [if_neg z]; exact h.cn
      generalize hf5 : (if c = 60 then orF 0 (flt 3 q) else 0) = f5 at *
      generalize cnM M q f5 c = M5 at *
      simp only [RW.all H5.1, H5.2.2.2.1, nI_add2, MR, ckk_T, deR_s, deQ_s, deQ_n, bkV_s, bkI_s, bkJ_s, bkQ_s, bkQ_n, ckb0, ckb1, ckb2, ckb3, eq_self, Nat.reduceEqDiff, Nat.reduceLeDiff, Nat.reduceLT, reduceIte, true_or, or_true, not_false_eq_true, not_true_eq_false, and_self, and_true, true_and, LIT, Int32.reduceLT, Int32.reduceLE, Int32.reduceToNatClampNeg]
      rw [pf_q H5.2.2.2.2, r_rights (by omega) (H5.pf (q + 2) f5) f5b w2, bkI_s, pf_pf]
      have r1 := cmR_le (tp := tp) w2
      have b2 := bl_le tp t 401 (q + 2) w2
      show ∃ M', (ckk _ _) = _ ∧ _
      rw [show rts tp t 401 (blk tp t (q + 2)) 0 = cmR tp t q from rfl]
      have f6b : (if inr 65 88 (sg tp t (blk tp t (q + 2))) = true then f5 else orF f5 (flt 0 (blk tp t (q + 2)))) < 2 ^ 30 := by
        split
        · exact f5b
        · exact orF_b f5b (by unfold blk; omega) (by decide)
      have h24s : h24 (cmR tp t q).2 := rts_h24 tp t 401 _ _ h24_0
      -- all that follows the rights
      have tail : ∀ (r : Nat) (set : Int32) (f6 : Nat), r ≤ t → f6 < 2 ^ 30 → h24 set → (f6 = 0 → c ≠ 60) → ∃ M', (bkI (cal d jm_Ref_sign [.ref 90] (pf 90 M5 r f6)) fun x9 M8 =>
          if x9 = 60 then rn jm_Ref_compared (cal d) 111 [some (.ref 90), some (.int (nI q)), some (.int set), some (.int x9), none, none] [] M8 else
          if x9 = 61 then rn jm_Ref_compared (cal d) 111 [some (.ref 90), some (.int (nI q)), some (.int set), some (.int x9), none, none] [] M8 else
          if x9 = 62 then rn jm_Ref_compared (cal d) 111 [some (.ref 90), some (.int (nI q)), some (.int set), some (.int x9), none, none] [] M8 else
          ckk (mC M8 90 = 9) (ckk (mC M8 90 = 9) (bkV (cal d jm_Ref_fails [.ref 90, .int 0, .int (mI M8 90 2)] M8) fun M10 => some (none, M10)))) = some (none, M') ∧ Fr (Pt sl e0) M5 M' ∧ (f6 ≠ 0 → RDd M' t tp f6) ∧ (f6 = 0 → c ≠ 60 → match cmC tp t r set with | .inl g => RDd M' t tp g | .inr (p', set', lo, hi) => RX2 M' t tp p' sl e0 (e + 1) dp (c + 1) xs (fP set' lo hi :: ps)) := by
        intro r set f6 hr' f6b h24s c60
        have H6 := H5.pf r f6
        rw [r_sign (by omega) H6 (by omega), bkI_s]
        unfold cmC
        by_cases hs : sg tp t r = 60 ∨ sg tp t r = 61 ∨ sg tp t r = 62
        · rw [if_pos hs]
          obtain ⟨rt, n1, n2⟩ := cmN_le hs
          have b3 := bl_le tp t 401 (cmN tp t r) n2
          have k3 := num_le (tp := tp) b3
          have E := r_cmp111 (by omega : 4 ≤ d) H6 f6b hs (nI q) set
          rw [pf_pf] at E
          have sel : (if sI (sg tp t r) = 60 then rn jm_Ref_compared (cal d) 111 [some (.ref 90), some (.int (nI q)), some (.int set), some (.int (sI (sg tp t r))), none, none] [] (pf 90 M5 r f6) else
            if sI (sg tp t r) = 61 then rn jm_Ref_compared (cal d) 111 [some (.ref 90), some (.int (nI q)), some (.int set), some (.int (sI (sg tp t r))), none, none] [] (pf 90 M5 r f6) else
            if sI (sg tp t r) = 62 then rn jm_Ref_compared (cal d) 111 [some (.ref 90), some (.int (nI q)), some (.int set), some (.int (sI (sg tp t r))), none, none] [] (pf 90 M5 r f6) else
            ckk (mC (pf 90 M5 r f6) 90 = 9) (ckk (mC (pf 90 M5 r f6) 90 = 9) (bkV (cal d jm_Ref_fails [.ref 90, .int 0, .int (mI (pf 90 M5 r f6) 90 2)] (pf 90 M5 r f6)) fun M10 => some (none, M10)))) = rn jm_Ref_compared (cal d) 111 [some (.ref 90), some (.int (nI q)), some (.int set), some (.int (sI (sg tp t r))), none, none] [] (pf 90 M5 r f6) := by
            rcases hs with hs | hs | hs
            · rw [if_pos (by rw [hs]; rfl)]
            · rw [if_neg (by rw [hs]; decide), if_pos (by rw [hs]; rfl)]
            · rw [if_neg (by rw [hs]; decide), if_neg (by rw [hs]; decide), if_pos (by rw [hs]; rfl)]
          rw [sel, E]
          have nb := nmF_b (tp := tp) (most := 24) f6b n2 t4
          by_cases z6 : nmF tp t 24 (cmN tp t r) f6 = 0
          · have z0 : f6 = 0 := by
              by_cases y : f6 = 0
              · exact y
              · rw [nmF_f y] at z6; exact z6
            subst z0
            obtain ⟨y1, y2⟩ := nmF_0 z6
            have X6 := (X5 (c60 rfl)).pf (blk tp t (cmN tp t r) + (num tp t (blk tp t (cmN tp t r))).1)
            rw [z6, r_entry_ok (by omega) X6.1 X6.2.1.1 X6.2.1.2.1 X6.2.2.2.2.2 he, bkV_s]
            refine ⟨_, rfl, (pf_Pt sl e0 _ _ _).trans (eM_fr _ X6.2.2.2.2.1 he _ _), fun y => absurd rfl y, fun _ _ => ?_⟩
            rw [if_pos rfl]
            obtain ⟨n9, n10, n11⟩ := kd_ne (sg tp t r) (cmE tp t r)
            exact X6.ent _ _ (fun a k v => a.push (by rw [k]; exact n9) (by rw [k]; exact n10) (by rw [k]; exact n11) (fun s => by rw [k, v]; exact cnt_of h24s hs (by omega) s))
          · rw [r_entry_no (by omega) (H5.pf _ _) z6 nb, bkV_s]
            refine ⟨_, rfl, pf_Pt sl e0 _ _ _, fun y => ?_, fun y _ => ?_⟩
            · rw [nmF_f y]; exact ⟨y, f6b, _, by unfold blk at *; omega, H5.pf _ _⟩
            · subst y
              rw [if_neg z6]
              exact ⟨z6, nb, _, by unfold blk at *; omega, H5.pf _ _⟩
        · rw [if_neg hs]
          rw [if_neg (show ¬ sI (sg tp t r) = 60 from fun z => hs (Or.inl ((sI_eq (sg_le TP r) (by decide : 60 < 256)).mp z))), if_neg (show ¬ sI (sg tp t r) = 61 from fun z => hs (Or.inr (Or.inl ((sI_eq (sg_le TP r) (by decide : 61 < 256)).mp z)))), if_neg (show ¬ sI (sg tp t r) = 62 from fun z => hs (Or.inr (Or.inr ((sI_eq (sg_le TP r) (by decide : 62 < 256)).mp z))))]
          rw [ckk_t H6.1.1, ckk_t H6.1.1, H6.2.2.2.1, r_fails (by omega) H6 f6b (x := 0) (c := 0) rfl, bkV_s, pf_pf]
          refine ⟨_, rfl, pf_Pt sl e0 _ _ _, fun y => ?_, fun y _ => ?_⟩
          · rw [show orF f6 (flt 0 r) = f6 by unfold orF; rw [if_neg y]]
            exact ⟨y, f6b, r, by omega, H5.pf _ _⟩
          · subst y
            exact ⟨flt_pos 0 r, by unfold flt; omega, r, by omega, H5.pf _ _⟩
      have H6 := H5.pf (cmR tp t q).1 (if inr 65 88 (sg tp t (blk tp t (q + 2))) = true then f5 else orF f5 (flt 0 (blk tp t (q + 2))))
      rw [ckk_t H6.1.1]
      have hz : (if inr 65 88 (sg tp t (blk tp t (q + 2))) = true then f5 else orF f5 (flt 0 (blk tp t (q + 2)))) = 0 → c ≠ 60 := by
        intro y z
        have e5 : f5 = flt 3 q := by rw [← hf5, if_pos z]; rfl
        rw [e5] at y
        split at y
        · exact flt_pos 3 q y
        · unfold orF at y; rw [if_neg (flt_pos 3 q)] at y; exact flt_pos 3 q y
      obtain ⟨M', e', F', d1, d2⟩ := tail (cmR tp t q).1 (cmR tp t q).2 _ r1.2 f6b h24s hz
      refine ⟨M', e', F5.trans F', ?_⟩
      by_cases z : c = 60
      · rw [if_pos z]
        have e5 : f5 = flt 3 q := by rw [← hf5, if_pos z]; rfl
        have e6 : (if inr 65 88 (sg tp t (blk tp t (q + 2))) = true then f5 else orF f5 (flt 0 (blk tp t (q + 2)))) = flt 3 q := by
          rw [e5]
          split
          · rfl
          · unfold orF; rw [if_neg (flt_pos 3 q)]
        rw [e6] at d1
        exact d1 (flt_pos 3 q)
      · rw [if_neg z]
        have e5 : f5 = 0 := by rw [← hf5, if_neg z]
        subst e5
        cases hb : inr 65 88 (sg tp t (blk tp t (q + 2))) with
        | true =>
          rw [if_pos rfl]
          rw [hb, if_pos rfl] at d2
          exact d2 rfl z
        | false =>
          rw [if_neg Bool.false_ne_true]
          rw [hb, if_neg Bool.false_ne_true] at d1
          exact d1 (flt_pos 0 _)
