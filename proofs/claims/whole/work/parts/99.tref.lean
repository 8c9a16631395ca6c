/-! the reference reads a test -/
def Pt (sl e0 o k : Nat) : Prop := (o = 90 ∧ (k = 2 ∨ k = 3 ∨ (5 ≤ k ∧ k ≤ 8))) ∨ o = 100 ∨ ((o = 93 ∨ o = 94) ∧ 200 * sl + e0 ≤ k ∧ k < 200 * sl + 200)
theorem pf_Pt (sl e0 : Nat) (M : ej_Mem) (p f : Nat) : Fr (Pt sl e0) M (pf 90 M p f) := (pf_fr 90 M p f).mono (fun o k q => by unfold Ppf at q; unfold Pt; omega)
/-- all that it holds while it reads, without a fault -/
def RX2 (M : ej_Mem) (t : Nat) (tp : Nat → Nat) (p sl e0 e dp c : Nat) (xs : List Nat) (ps : List Prd) : Prop := RL M t tp p 0 ∧ (mI M 90 4 = nI sl ∧ mI M 90 5 = nI e ∧ mI M 90 6 = nI dp ∧ mI M 90 7 = nI c ∧ mI M 90 8 = nI xs.length) ∧ stA (aI M 100) rcI xs ∧ RQ (aI M 93) (aI M 94) (200 * sl + e0) (e - e0) ps ∧ e0 ≤ e ∧ sl < 72
theorem RX2.pf {M : ej_Mem} {t : Nat} {tp : Nat → Nat} {p sl e0 e dp c : Nat} {xs : List Nat} {ps : List Prd} (h : RX2 M t tp p sl e0 e dp c xs ps) (q : Nat) : RX2 (pf 90 M q 0) t tp q sl e0 e dp c xs ps := by
  obtain ⟨h1, ⟨a4, a5, a6, a7, a8⟩, h3, h4, h5, h6⟩ := h
  have F := pf_fr 90 M q 0
  exact ⟨h1.pf q 0, ⟨by rw [F.i (by unfold Ppf; omega)]; exact a4, by rw [F.i (by unfold Ppf; omega)]; exact a5, by rw [F.i (by unfold Ppf; omega)]; exact a6, by rw [F.i (by unfold Ppf; omega)]; exact a7, by rw [F.i (by unfold Ppf; omega)]; exact a8⟩, h3, h4, h5, h6⟩
/-- an entry is told -/
def eM (M : ej_Mem) (sl e : Nat) (k v : Int32) : ej_Mem := setI (setA (setA M 93 (200 * sl + e) k) 94 (200 * sl + e) v) 90 5 (nI (e + 1))
theorem eM_fr (M : ej_Mem) {sl e0 e : Nat} (h0 : e0 ≤ e) (he : e < 200) (k v : Int32) : Fr (Pt sl e0) M (eM M sl e k v) := ((Fr.setA (P := Pt sl e0) M k (by unfold Pt; omega)).trans (Fr.setA (P := Pt sl e0) _ v (by unfold Pt; omega))).trans (Fr.setI (P := Pt sl e0) _ _ (by unfold Pt; omega))
theorem r_entry_ok {D : Nat} (hD : 1 ≤ D) {M : ej_Mem} {t : Nat} {tp : Nat → Nat} {p sl e : Nat} (h : RL M t tp p 0) (h4 : mI M 90 4 = nI sl) (h5 : mI M 90 5 = nI e) (hsl : sl < 72) (he : e < 200) (k v : Int32) : cal D jm_Ref_entry [.ref 90, .int k, .int v] M = some (none, eM M sl e k v) := by
  obtain ⟨d, rfl⟩ : ∃ d, D = d + 1 := ⟨D - 1, by omega⟩
  have ef : mI M 90 3 = 0 := h.2.2.2.2
  rw [ca_Ref_entry, eq_Ref_entry_0]
  simp only [RW.all h.1, ef, h4, h5, mul200, nI_add, MR, ckk_T, deR_s, deQ_s, deQ_n, bkV_s, bkI_s, bkJ_s, bkQ_s, bkQ_n, ckb0, ckb1, ckb2, ckb3, eq_self, Nat.reduceEqDiff, Nat.reduceLeDiff, Nat.reduceLT, reduceIte, true_or, or_true, not_false_eq_true, not_true_eq_false, and_self, and_true, true_and, LIT, Int32.reduceLT, Int32.reduceLE, Int32.reduceToNatClampNeg]
  simp only [ckb_n (show 200 * sl + e < 14400 by omega) (show 14400 < 2 ^ 31 by decide), nI_clamp (show 200 * sl + e < 2 ^ 31 by omega), h4, h5, mul200, nI_add, nI_1, RW.all h.1, MR, ckk_T, deR_s, deQ_s, deQ_n, bkV_s, bkI_s, bkJ_s, bkQ_s, bkQ_n, ckb0, ckb1, ckb2, ckb3, eq_self, Nat.reduceEqDiff, Nat.reduceLeDiff, Nat.reduceLT, reduceIte, true_or, or_true, not_false_eq_true, not_true_eq_false, and_self, and_true, true_and, LIT, Int32.reduceLT, Int32.reduceLE, Int32.reduceToNatClampNeg]
  rfl
theorem r_entry_no {D : Nat} (hD : 1 ≤ D) {M : ej_Mem} {t : Nat} {tp : Nat → Nat} {p f : Nat} (h : RL M t tp p f) (hf : f ≠ 0) (hf2 : f < 2 ^ 30) (k v : Int32) : cal D jm_Ref_entry [.ref 90, .int k, .int v] M = some (none, M) := by
  obtain ⟨d, rfl⟩ : ∃ d, D = d + 1 := ⟨D - 1, by omega⟩
  rw [ca_Ref_entry, eq_Ref_entry_0]
  simp only [RW.all h.1, h.2.2.2.2, MR, ckk_T, deR_s, deQ_s, deQ_n, bkV_s, bkI_s, bkJ_s, bkQ_s, bkQ_n, ckb0, ckb1, ckb2, ckb3, eq_self, Nat.reduceEqDiff, Nat.reduceLeDiff, Nat.reduceLT, reduceIte, true_or, or_true, not_false_eq_true, not_true_eq_false, and_self, and_true, true_and, LIT, Int32.reduceLT, Int32.reduceLE, Int32.reduceToNatClampNeg]
  rw [if_neg (nI_ne0 (by omega) (by omega))]
theorem eM_rl {M : ej_Mem} {t : Nat} {tp : Nat → Nat} {p f : Nat} (h : RL M t tp p f) (sl e : Nat) (k v : Int32) : RL (eM M sl e k v) t tp p f := by
  have F : Fr (fun o j => 92 ≤ o ∨ (o = 90 ∧ 4 ≤ j)) M (eM M sl e k v) := ((Fr.setA (P := fun o j => 92 ≤ o ∨ (o = 90 ∧ 4 ≤ j)) M k (by omega)).trans (Fr.setA (P := fun o j => 92 ≤ o ∨ (o = 90 ∧ 4 ≤ j)) _ v (by omega))).trans (Fr.setI (P := fun o j => 92 ≤ o ∨ (o = 90 ∧ 4 ≤ j)) _ _ (by omega))
  exact h.keep F (fun o k q => q)
/-- what an entry adds -/
theorem RX2.ent {M : ej_Mem} {t : Nat} {tp : Nat → Nat} {p sl e0 e dp c : Nat} {xs : List Nat} {ps ps' : List Prd} (h : RX2 M t tp p sl e0 e dp c xs ps) (k v : Int32) (hq : RQ (aI (eM M sl e k v) 93) (aI (eM M sl e k v) 94) (200 * sl + e0) (e - e0) ps → aI (eM M sl e k v) 93 (200 * sl + e0 + (e - e0)) = k → aI (eM M sl e k v) 94 (200 * sl + e0 + (e - e0)) = v → RQ (aI (eM M sl e k v) 93) (aI (eM M sl e k v) 94) (200 * sl + e0) (e - e0 + 1) ps') : RX2 (eM M sl e k v) t tp p sl e0 (e + 1) dp c xs ps' := by
  obtain ⟨h1, ⟨a4, a5, a6, a7, a8⟩, h3, h4, h5, h6⟩ := h
  have v3 : aI (eM M sl e k v) 93 = va_up (aI M 93) (200 * sl + e) k := rfl
  have v4 : aI (eM M sl e k v) 94 = va_up (aI M 94) (200 * sl + e) v := rfl
  refine ⟨eM_rl h1 sl e k v, ⟨a4, rfl, a6, a7, a8⟩, h3, ?_, by omega, h6⟩
  rw [show e + 1 - e0 = e - e0 + 1 by omega]
  refine hq (h4.cg (fun x q1 q2 => ?_)) ?_ ?_
  · rw [v3, v4, up_n (by omega), up_n (by omega)]; exact ⟨rfl, rfl⟩
  · rw [v3, show 200 * sl + e0 + (e - e0) = 200 * sl + e by omega, up_s]
  · rw [v4, show 200 * sl + e0 + (e - e0) = 200 * sl + e by omega, up_s]
def topI (xs : List Nat) : Int32 := match xs with
  | [] => -1
  | x :: _ => rcI x
theorem r_top {D : Nat} (hD : 1 ≤ D) {M : ej_Mem} (hW : RW M) {xs : List Nat} (h8 : mI M 90 8 = nI xs.length) (hs : stA (aI M 100) rcI xs) (hl : xs.length ≤ 402) : cal D jm_Ref_top [.ref 90] M = some (some (.int (topI xs)), M) := by
  obtain ⟨d, rfl⟩ : ∃ d, D = d + 1 := ⟨D - 1, by omega⟩
  rw [ca_Ref_top, eq_Ref_top_0]
  simp only [RW.all hW, h8, MR, ckk_T, deR_s, deQ_s, deQ_n, bkV_s, bkI_s, bkJ_s, bkQ_s, bkQ_n, ckb0, ckb1, ckb2, ckb3, eq_self, Nat.reduceEqDiff, Nat.reduceLeDiff, Nat.reduceLT, reduceIte, true_or, or_true, not_false_eq_true, not_true_eq_false, and_self, and_true, true_and, LIT, Int32.reduceLT, Int32.reduceLE, Int32.reduceToNatClampNeg]
  cases xs with
  | nil => rw [if_pos (by rfl)]; rfl
  | cons x xs =>
    rw [List.length_cons] at hl ⊢
    rw [if_neg (nI_ne0 (by omega) (by omega)), nI_pred, ckb_n (by omega) (by decide), nI_clamp (by omega), hs.1]; rfl
theorem rcI_ne {x y : Nat} (hx : x ≤ 3) (hy : y ≤ 3) : rcI x = rcI y ↔ x = y := by
  have : ∀ x, x < 4 → ∀ y, y < 4 → (rcI x = rcI y ↔ x = y) := by decide
  exact this x (by omega) y (by omega)
/-- one that waits is told -/
def poM (M : ej_Mem) (sl e : Nat) (k : Int32) (n dp : Nat) : ej_Mem := setI (setI (eM M sl e k 0) 90 8 (nI n)) 90 6 (nI dp)
theorem r_pop {D : Nat} (hD : 1 ≤ D) {M : ej_Mem} {t : Nat} {tp : Nat → Nat} {p sl e0 e dp dp' c x : Nat} {xs : List Nat} {ps : List Prd} (h : RX2 M t tp p sl e0 e dp c (x :: xs) ps) (he : e < 200) (hl : (x :: xs).length ≤ 402) (hd : (x = 3 ∧ dp = dp' + 1) ∨ (x ≠ 3 ∧ dp = dp')) (hx : x ≤ 3) :
    rn jm_Ref_answers (cal D) 0 [some (.ref 90), some (.int (rcI x))] [] M = rn jm_Ref_answers (cal D) 0 [some (.ref 90), some (.int (rcI x))] [] (poM M sl e (rcI x) xs.length dp') := by
  obtain ⟨h1, ⟨a4, a5, a6, a7, a8⟩, h3, h4, h5, h6⟩ := h
  have ef : mI M 90 3 = 0 := h1.2.2.2.2
  rw [eq_Ref_answers_0]
  simp only [RW.all h1.1, MR, ckk_T, deR_s, deQ_s, deQ_n, bkV_s, bkI_s, bkJ_s, bkQ_s, bkQ_n, ckb0, ckb1, ckb2, ckb3, eq_self, Nat.reduceEqDiff, Nat.reduceLeDiff, Nat.reduceLT, reduceIte, true_or, or_true, not_false_eq_true, not_true_eq_false, and_self, and_true, true_and, LIT, Int32.reduceLT, Int32.reduceLE, Int32.reduceToNatClampNeg]
  rw [r_top hD h1.1 a8 h3 hl, bkI_s, if_pos (show topI (x :: xs) = rcI x from rfl)]
  simp only [RW.all h1.1, ef, MR, ckk_T, deR_s, deQ_s, deQ_n, bkV_s, bkI_s, bkJ_s, bkQ_s, bkQ_n, ckb0, ckb1, ckb2, ckb3, eq_self, Nat.reduceEqDiff, Nat.reduceLeDiff, Nat.reduceLT, reduceIte, true_or, or_true, not_false_eq_true, not_true_eq_false, and_self, and_true, true_and, LIT, Int32.reduceLT, Int32.reduceLE, Int32.reduceToNatClampNeg]
  rw [r_entry_ok hD h1 a4 a5 h6 he, bkV_s]
  have H := eM_rl h1 sl e (rcI x) 0
  have b8 : mI (eM M sl e (rcI x) 0) 90 8 = nI (xs.length + 1) := a8
  have b6 : mI (eM M sl e (rcI x) 0) 90 6 = nI dp := a6
  unfold poM
  generalize eM M sl e (rcI x) 0 = M1 at *
  simp only [RW.all H.1, b8, b6, nI_pred, va_upe, MR, ckk_T, deR_s, deQ_s, deQ_n, bkV_s, bkI_s, bkJ_s, bkQ_s, bkQ_n, ckb0, ckb1, ckb2, ckb3, eq_self, Nat.reduceEqDiff, Nat.reduceLeDiff, Nat.reduceLT, reduceIte, true_or, or_true, not_false_eq_true, not_true_eq_false, and_self, and_true, true_and, LIT, Int32.reduceLT, Int32.reduceLE, Int32.reduceToNatClampNeg]
  rcases hd with ⟨rfl, rfl⟩ | ⟨q, rfl⟩
  · rw [if_pos (by rfl), nI_pred]
  · rw [if_neg (show ¬ rcI x = 9 from fun z => q ((rcI_ne hx (by decide : 3 ≤ 3)).mp z)), show nI dp - 0 = nI dp from Int32.sub_zero _]
theorem r_stay {D : Nat} (hD : 1 ≤ D) {M : ej_Mem} (hW : RW M) {xs : List Nat} (h8 : mI M 90 8 = nI xs.length) (hs : stA (aI M 100) rcI xs) (hl : xs.length ≤ 402) {k : Int32} (hk : topI xs ≠ k) : rn jm_Ref_answers (cal D) 0 [some (.ref 90), some (.int k)] [] M = some (none, M) := by
  rw [eq_Ref_answers_0]
  simp only [RW.all hW, MR, ckk_T, deR_s, deQ_s, deQ_n, bkV_s, bkI_s, bkJ_s, bkQ_s, bkQ_n, ckb0, ckb1, ckb2, ckb3, eq_self, Nat.reduceEqDiff, Nat.reduceLeDiff, Nat.reduceLT, reduceIte, true_or, or_true, not_false_eq_true, not_true_eq_false, and_self, and_true, true_and, LIT, Int32.reduceLT, Int32.reduceLE, Int32.reduceToNatClampNeg]
  rw [r_top hD hW h8 hs hl, bkI_s, if_neg hk]
theorem poM_fr (M : ej_Mem) {sl e0 e : Nat} (h0 : e0 ≤ e) (he : e < 200) (k : Int32) (n dp : Nat) : Fr (Pt sl e0) M (poM M sl e k n dp) := ((eM_fr M h0 he k 0).trans (Fr.setI (P := Pt sl e0) _ _ (by unfold Pt; omega))).trans (Fr.setI (P := Pt sl e0) _ _ (by unfold Pt; omega))
theorem RX2.po {M : ej_Mem} {t : Nat} {tp : Nat → Nat} {p sl e0 e dp dp' c x : Nat} {xs : List Nat} {ps ps' : List Prd} (h : RX2 M t tp p sl e0 e dp c (x :: xs) ps) (he : e < 200) (hq : ∀ so nu a n, RQ so nu a n ps → so (a + n) = rcI x → RQ so nu a (n + 1) ps') : RX2 (poM M sl e (rcI x) xs.length dp') t tp p sl e0 (e + 1) dp' c xs ps' := by
  obtain ⟨h1, ⟨a4, a5, a6, a7, a8⟩, h3, h4, h5, h6⟩ := h.ent (rcI x) 0 (fun a b _ => hq _ _ _ _ a b)
  have F : Fr (fun o j => 92 ≤ o ∨ (o = 90 ∧ 4 ≤ j)) (eM M sl e (rcI x) 0) (poM M sl e (rcI x) xs.length dp') := (Fr.setI (P := fun o j => 92 ≤ o ∨ (o = 90 ∧ 4 ≤ j)) _ _ (by omega)).trans (Fr.setI (P := fun o j => 92 ≤ o ∨ (o = 90 ∧ 4 ≤ j)) _ _ (by omega))
  exact ⟨h1.keep F (fun o k q => q), ⟨a4, a5, rfl, a7, rfl⟩, h3.2, h4, h5, h6⟩
/-- the nots that wait -/
theorem r_ansN {D : Nat} (hD : 1 ≤ D) {t : Nat} {tp : Nat → Nat} {p sl e0 c : Nat} {xs : List Nat} {ps : List Prd} (hx : topI xs ≠ 9) : ∀ (j e dp : Nat) (w : Prd) (M : ej_Mem), RX2 M t tp p sl e0 e (dp + j) c (List.replicate j 3 ++ xs) (w :: ps) → e + j ≤ 200 → j + xs.length ≤ 402 →
    ∃ M', rn jm_Ref_answers (cal D) 0 [some (.ref 90), some (.int 9)] [] M = some (none, M') ∧ Fr (Pt sl e0) M M' ∧ RX2 M' t tp p sl e0 (e + j) dp c xs (negs j w :: ps)
  | 0, e, dp, w, M, h, he, hl => ⟨M, r_stay hD h.1.1 h.2.1.2.2.2.2 h.2.2.1 (by simp; omega) hx, Fr.refl _ M, h⟩
  | j + 1, e, dp, w, M, h, he, hl => by
    have h' : RX2 M t tp p sl e0 e (dp + j + 1) c (3 :: (List.replicate j 3 ++ xs)) (w :: ps) := h
    have E := r_pop hD (dp' := dp + j) h' (by omega) (by simp; omega) (Or.inl ⟨rfl, rfl⟩) (by decide)
    have S := h'.po (dp' := dp + j) (by omega) (fun so nu a n q k => RQ.neg q k)
    obtain ⟨M', e2, f2, S2⟩ := r_ansN hD hx j (e + 1) dp _ _ S (by omega) (by omega)
    refine ⟨M', E.trans e2, (poM_fr M h.2.2.2.2.1 (by omega) _ _ _).trans f2, ?_⟩
    rw [show e + (j + 1) = e + 1 + j by omega]
    exact S2
def oL (a : Option Prd) : List Prd := match a with
  | some v => [v]
  | none => []
theorem r_ansA {D : Nat} (hD : 2 ≤ D) {M : ej_Mem} {t : Nat} {tp : Nat → Nat} {p sl e0 e dp c : Nat} {xs : List Nat} {ps : List Prd} {w : Prd} (a : Option Prd) (h : RX2 M t tp p sl e0 e dp c ((if a.isSome = true then [2] else []) ++ xs) (w :: (oL a ++ ps))) (hx : topI xs ≠ 10) (he : e < 200) (hl : xs.length < 402) :
    ∃ M' e', cal D jm_Ref_answers [.ref 90, .int 10] M = some (none, M') ∧ Fr (Pt sl e0) M M' ∧ e' = e + (if a.isSome = true then [2] else []).length ∧ RX2 M' t tp p sl e0 e' dp c xs (andv a w :: ps) := by
  obtain ⟨d, rfl⟩ : ∃ d, D = d + 1 := ⟨D - 1, by omega⟩
  rw [ca_Ref_answers]
  cases a with
  | none => exact ⟨M, e, r_stay (by omega) h.1.1 h.2.1.2.2.2.2 h.2.2.1 (by simp; omega) hx, Fr.refl _ M, rfl, h⟩
  | some v =>
    have h' : RX2 M t tp p sl e0 e dp c (2 :: xs) (w :: v :: ps) := h
    have E := r_pop (by omega : 1 ≤ d) (dp' := dp) h' he (by simp; omega) (Or.inr ⟨by decide, rfl⟩) (by decide)
    have S := h'.po (dp' := dp) he (fun so nu a n q k => (RQ.bin q).1 k)
    exact ⟨_, e + 1, E.trans (r_stay (by omega) S.1.1 S.2.1.2.2.2.2 S.2.2.1 (by omega) hx), poM_fr M h.2.2.2.2.1 he _ _ _, rfl, S⟩
theorem r_ansO {D : Nat} (hD : 2 ≤ D) {M : ej_Mem} {t : Nat} {tp : Nat → Nat} {p sl e0 e dp c : Nat} {xs : List Nat} {ps : List Prd} {w : Prd} (a : Option Prd) (h : RX2 M t tp p sl e0 e dp c ((if a.isSome = true then [1] else []) ++ xs) (w :: (oL a ++ ps))) (hx : topI xs ≠ 11) (he : e < 200) (hl : xs.length < 402) :
    ∃ M' e', cal D jm_Ref_answers [.ref 90, .int 11] M = some (none, M') ∧ Fr (Pt sl e0) M M' ∧ e' = e + (if a.isSome = true then [1] else []).length ∧ RX2 M' t tp p sl e0 e' dp c xs (orv a w :: ps) := by
  obtain ⟨d, rfl⟩ : ∃ d, D = d + 1 := ⟨D - 1, by omega⟩
  rw [ca_Ref_answers]
  cases a with
  | none => exact ⟨M, e, r_stay (by omega) h.1.1 h.2.1.2.2.2.2 h.2.2.1 (by simp; omega) hx, Fr.refl _ M, rfl, h⟩
  | some v =>
    have h' : RX2 M t tp p sl e0 e dp c (1 :: xs) (w :: v :: ps) := h
    have E := r_pop (by omega : 1 ≤ d) (dp' := dp) h' he (by simp; omega) (Or.inr ⟨by decide, rfl⟩) (by decide)
    have S := h'.po (dp' := dp) he (fun so nu a n q k => (RQ.bin q).2 k)
    exact ⟨_, e + 1, E.trans (r_stay (by omega) S.1.1 S.2.1.2.2.2.2 S.2.2.1 (by omega) hx), poM_fr M h.2.2.2.2.1 he _ _ _, rfl, S⟩
/-- something waits from now on -/
def puM (M : ej_Mem) (n dp : Nat) (k : Int32) : ej_Mem := setI (setA (setI M 90 6 (nI dp)) 100 n k) 90 8 (nI (n + 1))
theorem puM_fr (sl e0 : Nat) (M : ej_Mem) (n dp : Nat) (k : Int32) : Fr (Pt sl e0) M (puM M n dp k) := ((Fr.setI (P := Pt sl e0) M _ (by unfold Pt; omega)).trans (Fr.setA (P := Pt sl e0) _ _ (by unfold Pt; omega))).trans (Fr.setI (P := Pt sl e0) _ _ (by unfold Pt; omega))
theorem puM_rl {M : ej_Mem} {t : Nat} {tp : Nat → Nat} {p f : Nat} (h : RL M t tp p f) (n dp : Nat) (k : Int32) : RL (puM M n dp k) t tp p f := by
  have F : Fr (fun o j => 92 ≤ o ∨ (o = 90 ∧ 4 ≤ j)) M (puM M n dp k) := ((Fr.setI (P := fun o j => 92 ≤ o ∨ (o = 90 ∧ 4 ≤ j)) M _ (by omega)).trans (Fr.setA (P := fun o j => 92 ≤ o ∨ (o = 90 ∧ 4 ≤ j)) _ _ (by omega))).trans (Fr.setI (P := fun o j => 92 ≤ o ∨ (o = 90 ∧ 4 ≤ j)) _ _ (by omega))
  exact h.keep F (fun o k q => q)
theorem RX2.pu {M : ej_Mem} {t : Nat} {tp : Nat → Nat} {p sl e0 e dp c : Nat} {xs : List Nat} {ps : List Prd} (h : RX2 M t tp p sl e0 e dp c xs ps) (dp' x : Nat) : RX2 (puM M xs.length dp' (rcI x)) t tp p sl e0 e dp' c (x :: xs) ps := by
  obtain ⟨h1, ⟨a4, a5, a6, a7, a8⟩, h3, h4, h5, h6⟩ := h
  exact ⟨puM_rl h1 _ _ _, ⟨a4, a5, rfl, a7, rfl⟩, stA_push h3 x, h4, h5, h6⟩
theorem r_opens_j {D : Nat} (hD : 2 ≤ D) {M : ej_Mem} {t : Nat} {tp : Nat → Nat} {p sl e0 e dp c : Nat} {xs : List Nat} {ps : List Prd} (h : RX2 M t tp p sl e0 e dp c xs ps) (hl : xs.length < 402) {x : Nat} (hx : x = 2 ∨ x = 1) {k : Int32} (hk : k = rcI x) : cal D jm_Ref_opens [.ref 90, .int k] M = some (none, puM M xs.length dp (rcI x)) := by
  obtain ⟨d, rfl⟩ : ∃ d, D = d + 1 := ⟨D - 1, by omega⟩
  subst hk
  obtain ⟨h1, ⟨a4, a5, a6, a7, a8⟩, h3, h4, h5, h6⟩ := h
  have n9 : rcI x ≠ 9 := by rcases hx with rfl | rfl <;> decide
  have n12 : rcI x ≠ 12 := by rcases hx with rfl | rfl <;> decide
  rw [ca_Ref_opens, eq_Ref_opens_0, if_neg n9, if_neg n12]
  simp only [RW.all h1.1, a8, nI_1, MR, ckk_T, deR_s, deQ_s, deQ_n, bkV_s, bkI_s, bkJ_s, bkQ_s, bkQ_n, ckb0, ckb1, ckb2, ckb3, eq_self, Nat.reduceEqDiff, Nat.reduceLeDiff, Nat.reduceLT, reduceIte, true_or, or_true, not_false_eq_true, not_true_eq_false, and_self, and_true, true_and, LIT, Int32.reduceLT, Int32.reduceLE, Int32.reduceToNatClampNeg]
  rw [ckb_n (by omega) (by decide), nI_clamp (by omega)]
  unfold puM
  rw [setI_self a6]
theorem r_opens_d {D : Nat} (hD : 2 ≤ D) {M : ej_Mem} {t : Nat} {tp : Nat → Nat} {p sl e0 e dp c : Nat} {xs : List Nat} {ps : List Prd} (h : RX2 M t tp p sl e0 e dp c xs ps) (hl : xs.length < 402) (hd : dp ≤ 10) {x : Nat} (hx : x = 3 ∨ x = 0) {k : Int32} (hk : k = rcI x) : cal D jm_Ref_opens [.ref 90, .int k] M = some (none, puM (pf 90 M p (if dp = 10 then flt 2 p else 0)) xs.length (dp + 1) (rcI x)) := by
  obtain ⟨d, rfl⟩ : ∃ d, D = d + 1 := ⟨D - 1, by omega⟩
  subst hk
  obtain ⟨h1, ⟨a4, a5, a6, a7, a8⟩, h3, h4, h5, h6⟩ := h
  rw [ca_Ref_opens, eq_Ref_opens_0]
  have body : ∀ g, (pf 90 M p g) = pf 90 M p g ∧ mI (pf 90 M p g) 90 6 = nI dp ∧ mI (pf 90 M p g) 90 8 = nI xs.length := fun g => ⟨rfl, by rw [(pf_fr 90 M p g).i (by unfold Ppf; omega)]; exact a6, by rw [(pf_fr 90 M p g).i (by unfold Ppf; omega)]; exact a8⟩
  have F := r_fails (by omega : 1 ≤ d) h1 (by decide) (x := 2) (c := 2) (q := p) rfl
  rw [show orF 0 (flt 2 p) = flt 2 p from rfl] at F
  have b10 := (body (flt 2 p)).2
  have W10 := (h1.pf p (flt 2 p)).1
  by_cases q : dp = 10
  · rw [if_pos q]
    subst q
    rcases hx with rfl | rfl
    · rw [if_pos (by rfl)]
      simp only [RW.all h1.1, a6, h1.2.2.2.1, MR, ckk_T, deR_s, deQ_s, deQ_n, bkV_s, bkI_s, bkJ_s, bkQ_s, bkQ_n, ckb0, ckb1, ckb2, ckb3, eq_self, Nat.reduceEqDiff, Nat.reduceLeDiff, Nat.reduceLT, reduceIte, true_or, or_true, not_false_eq_true, not_true_eq_false, and_self, and_true, true_and, LIT, Int32.reduceLT, Int32.reduceLE, Int32.reduceToNatClampNeg]
      rw [if_pos (show nI 10 = 10 by decide), F, bkV_s]
      simp only [RW.all W10, b10, nI_1, va_upe, MR, ckk_T, deR_s, deQ_s, deQ_n, bkV_s, bkI_s, bkJ_s, bkQ_s, bkQ_n, ckb0, ckb1, ckb2, ckb3, eq_self, Nat.reduceEqDiff, Nat.reduceLeDiff, Nat.reduceLT, reduceIte, true_or, or_true, not_false_eq_true, not_true_eq_false, and_self, and_true, true_and, LIT, Int32.reduceLT, Int32.reduceLE, Int32.reduceToNatClampNeg]
      rw [ckb_n (by omega) (by decide), nI_clamp (by omega)]; rfl
    · rw [if_neg (by decide), if_pos (by rfl)]
      simp only [RW.all h1.1, a6, h1.2.2.2.1, MR, ckk_T, deR_s, deQ_s, deQ_n, bkV_s, bkI_s, bkJ_s, bkQ_s, bkQ_n, ckb0, ckb1, ckb2, ckb3, eq_self, Nat.reduceEqDiff, Nat.reduceLeDiff, Nat.reduceLT, reduceIte, true_or, or_true, not_false_eq_true, not_true_eq_false, and_self, and_true, true_and, LIT, Int32.reduceLT, Int32.reduceLE, Int32.reduceToNatClampNeg]
      rw [if_pos (show nI 10 = 10 by decide), F, bkV_s]
      simp only [RW.all W10, b10, nI_1, va_upe, MR, ckk_T, deR_s, deQ_s, deQ_n, bkV_s, bkI_s, bkJ_s, bkQ_s, bkQ_n, ckb0, ckb1, ckb2, ckb3, eq_self, Nat.reduceEqDiff, Nat.reduceLeDiff, Nat.reduceLT, reduceIte, true_or, or_true, not_false_eq_true, not_true_eq_false, and_self, and_true, true_and, LIT, Int32.reduceLT, Int32.reduceLE, Int32.reduceToNatClampNeg]
      rw [ckb_n (by omega) (by decide), nI_clamp (by omega)]; rfl
  · have n10 : ¬ nI dp = 10 := fun z => q ((nI_eq (by omega) (by decide : 10 < 2 ^ 31)).mp z)
    rw [if_neg q, pf_self h1.2.2.2.1 h1.2.2.2.2]
    rcases hx with rfl | rfl
    · rw [if_pos (by rfl)]
      simp only [RW.all h1.1, a6, MR, ckk_T, deR_s, deQ_s, deQ_n, bkV_s, bkI_s, bkJ_s, bkQ_s, bkQ_n, ckb0, ckb1, ckb2, ckb3, eq_self, Nat.reduceEqDiff, Nat.reduceLeDiff, Nat.reduceLT, reduceIte, true_or, or_true, not_false_eq_true, not_true_eq_false, and_self, and_true, true_and, LIT, Int32.reduceLT, Int32.reduceLE, Int32.reduceToNatClampNeg]
      rw [if_neg n10]
      simp only [RW.all h1.1, a6, a8, nI_1, va_upe, MR, ckk_T, deR_s, deQ_s, deQ_n, bkV_s, bkI_s, bkJ_s, bkQ_s, bkQ_n, ckb0, ckb1, ckb2, ckb3, eq_self, Nat.reduceEqDiff, Nat.reduceLeDiff, Nat.reduceLT, reduceIte, true_or, or_true, not_false_eq_true, not_true_eq_false, and_self, and_true, true_and, LIT, Int32.reduceLT, Int32.reduceLE, Int32.reduceToNatClampNeg]
      rw [ckb_n (by omega) (by decide), nI_clamp (by omega)]; rfl
    · rw [if_neg (by decide), if_pos (by rfl)]
      simp only [RW.all h1.1, a6, MR, ckk_T, deR_s, deQ_s, deQ_n, bkV_s, bkI_s, bkJ_s, bkQ_s, bkQ_n, ckb0, ckb1, ckb2, ckb3, eq_self, Nat.reduceEqDiff, Nat.reduceLeDiff, Nat.reduceLT, reduceIte, true_or, or_true, not_false_eq_true, not_true_eq_false, and_self, and_true, true_and, LIT, Int32.reduceLT, Int32.reduceLE, Int32.reduceToNatClampNeg]
      rw [if_neg n10]
      simp only [RW.all h1.1, a6, a8, nI_1, va_upe, MR, ckk_T, deR_s, deQ_s, deQ_n, bkV_s, bkI_s, bkJ_s, bkQ_s, bkQ_n, ckb0, ckb1, ckb2, ckb3, eq_self, Nat.reduceEqDiff, Nat.reduceLeDiff, Nat.reduceLT, reduceIte, true_or, or_true, not_false_eq_true, not_true_eq_false, and_self, and_true, true_and, LIT, Int32.reduceLT, Int32.reduceLE, Int32.reduceToNatClampNeg]
      rw [ckb_n (by omega) (by decide), nI_clamp (by omega)]; rfl
