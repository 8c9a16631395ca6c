/-! reading signs: both sides -/
def flt (c q : Nat) : Nat := 1 + 8 * q + c
def orF (f x : Nat) : Nat := if f = 0 then x else f
theorem up2_c {α : Type} (f : Nat → Nat → α) (o k : Nat) (v w : α) : up2 (up2 f o k v) o k w = up2 f o k w := by
  unfold up2
  simp only [bx_uu, up_s]
theorem up2_x {α : Type} (f : Nat → Nat → α) (o : Nat) {k j : Nat} (h : k ≠ j) (v w : α) : up2 (up2 f o k v) o j w = up2 (up2 f o j w) o k v := by
  unfold up2
  simp only [bx_uu, up_s]
  congr 1
  funext b
  by_cases r : b = k
  · subst r; rw [up_n h, up_s, up_s]
  · by_cases s : b = j
    · subst s; rw [up_s, up_n r, up_s]
    · rw [up_n s, up_n r, up_n r, up_n s]
theorem up2_self {α : Type} (f : Nat → Nat → α) (o k : Nat) : up2 f o k (f o k) = f := by
  unfold up2; rw [up_self, up_self]
theorem setI_c (M : ej_Mem) (o k : Nat) (v w : Int32) : setI (setI M o k v) o k w = setI M o k w := by
  show (M.1, M.2.1, up2 (up2 M.2.2.1 o k v) o k w, M.2.2.2) = _
  rw [up2_c]; rfl
theorem setI_x (M : ej_Mem) (o : Nat) {k j : Nat} (h : k ≠ j) (v w : Int32) : setI (setI M o k v) o j w = setI (setI M o j w) o k v := by
  show (M.1, M.2.1, up2 (up2 M.2.2.1 o k v) o j w, M.2.2.2) = (M.1, M.2.1, up2 (up2 M.2.2.1 o j w) o k v, M.2.2.2)
  rw [up2_x _ _ h]
theorem setI_self {M : ej_Mem} {o k : Nat} {v : Int32} (h : mI M o k = v) : setI M o k v = M := by
  subst h
  show (M.1, M.2.1, up2 M.2.2.1 o k (M.2.2.1 o k), M.2.2.2) = M
  rw [up2_self]
/-- place and fault are set -/
def pf (o : Nat) (M : ej_Mem) (p f : Nat) : ej_Mem := setI (setI M o 2 (nI p)) o 3 (nI f)
theorem pf_pf (o : Nat) (M : ej_Mem) (p f p' f' : Nat) : pf o (pf o M p f) p' f' = pf o M p' f' := by
  unfold pf
  rw [setI_x (setI M o 2 (nI p)) o (by decide : (3 : Nat) ≠ 2), setI_c, setI_c]
theorem pf_2 (o : Nat) (M : ej_Mem) (v : Int32) (p f : Nat) : pf o (setI M o 2 v) p f = pf o M p f := by
  unfold pf
  rw [setI_c]
theorem pf_3 (o : Nat) (M : ej_Mem) (v : Int32) (p f : Nat) : pf o (setI M o 3 v) p f = pf o M p f := by
  unfold pf
  rw [setI_x M o (by decide : (3 : Nat) ≠ 2), setI_c]
theorem pf_s2 (o : Nat) (M : ej_Mem) (p f q : Nat) : setI (pf o M p f) o 2 (nI q) = pf o M q f := by
  unfold pf
  rw [setI_x _ o (by decide : (3 : Nat) ≠ 2), setI_c]
theorem pf_s3 (o : Nat) (M : ej_Mem) (p f g : Nat) : setI (pf o M p f) o 3 (nI g) = pf o M p g := by
  unfold pf
  rw [setI_c]
theorem pf_self {o : Nat} {M : ej_Mem} {p f : Nat} (h2 : mI M o 2 = nI p) (h3 : mI M o 3 = nI f) : pf o M p f = M := by
  unfold pf
  rw [setI_self h2, setI_self h3]
theorem pf_q {o : Nat} {M : ej_Mem} {f q : Nat} (h3 : mI M o 3 = nI f) : setI M o 2 (nI q) = pf o M q f := by
  unfold pf
  rw [setI_x M o (by decide : (2 : Nat) ≠ 3), setI_self h3]
theorem pf_f {o : Nat} {M : ej_Mem} {p g : Nat} (h2 : mI M o 2 = nI p) : setI M o 3 (nI g) = pf o M p g := by
  unfold pf
  rw [setI_self h2]
def Ppf (o : Nat) (a k : Nat) : Prop := a = o ∧ (k = 2 ∨ k = 3)
theorem pf_fr (o : Nat) (M : ej_Mem) (p f : Nat) : Fr (Ppf o) M (pf o M p f) := (Fr.setI (P := Ppf o) M _ ⟨rfl, Or.inl rfl⟩).trans (Fr.setI (P := Ppf o) _ _ ⟨rfl, Or.inr rfl⟩)
/-- the reference reads; the class reads -/
def RL (M : ej_Mem) (t : Nat) (tp : Nat → Nat) (p f : Nat) : Prop := RW M ∧ STR M ∧ (TPO t tp ∧ TR M t tp) ∧ mI M 90 2 = nI p ∧ mI M 90 3 = nI f
def CLk (M : ej_Mem) (t : Nat) (tp : Nat → Nat) (p f : Nat) : Prop := SW M ∧ STR M ∧ (TPO t tp ∧ TC M t tp ∧ mI M 61 1 = nI t) ∧ mI M 61 2 = nI p ∧ mI M 61 3 = nI f
theorem RL.keep {P : Nat → Nat → Prop} {M M' : ej_Mem} {t : Nat} {tp : Nat → Nat} {p f : Nat} (h : RL M t tp p f) (g : Fr P M M') (hp : ∀ o k, P o k → 92 ≤ o ∨ (o = 90 ∧ 4 ≤ k)) : RL M' t tp p f := by
  obtain ⟨h1, h2, ⟨h3, h4⟩, h5, h6⟩ := h
  have n : ∀ o k, ¬ (92 ≤ o ∨ (o = 90 ∧ 4 ≤ k)) → ¬ P o k := fun o k q z => q (hp o k z)
  exact ⟨g.rw h1, h2.fr g (fun o k q => n o k (by omega)), ⟨h3, h4.1, by rw [g.i (n _ _ (by omega))]; exact h4.2.1, fun k hk => by rw [g.a (n _ _ (by omega))]; exact h4.2.2 k hk⟩, by rw [g.i (n _ _ (by omega))]; exact h5, by rw [g.i (n _ _ (by omega))]; exact h6⟩
theorem RL.pf {M : ej_Mem} {t : Nat} {tp : Nat → Nat} {p f : Nat} (h : RL M t tp p f) (q g : Nat) : RL (pf 90 M q g) t tp q g := by
  obtain ⟨h1, h2, ⟨h3, h4⟩, h5, h6⟩ := h
  have F := pf_fr 90 M q g
  exact ⟨F.rw h1, h2.fr F (fun o k q z => by unfold Ppf at z; omega), ⟨h3, h4.1, by rw [F.i (by unfold Ppf; omega)]; exact h4.2.1, fun k hk => by rw [F.a (by unfold Ppf; omega)]; exact h4.2.2 k hk⟩, rfl, rfl⟩
theorem CLk.keep {P : Nat → Nat → Prop} {M M' : ej_Mem} {t : Nat} {tp : Nat → Nat} {p f : Nat} (h : CLk M t tp p f) (g : Fr P M M') (hp : ∀ o k, P o k → 62 ≤ o ∨ (o = 61 ∧ 4 ≤ k)) : CLk M' t tp p f := by
  obtain ⟨h1, h2, ⟨h3, h4, h7⟩, h5, h6⟩ := h
  have n : ∀ o k, ¬ (62 ≤ o ∨ (o = 61 ∧ 4 ≤ k)) → ¬ P o k := fun o k q z => q (hp o k z)
  exact ⟨g.sw h1, h2.fr g (fun o k q => n o k (by omega)), ⟨h3, ⟨h4.1, h4.2.1, by rw [g.i (n _ _ (by omega))]; exact h4.2.2.1, fun k hk => by rw [g.a (n _ _ (by omega))]; exact h4.2.2.2 k hk⟩, by rw [g.i (n _ _ (by omega))]; exact h7⟩, by rw [g.i (n _ _ (by omega))]; exact h5, by rw [g.i (n _ _ (by omega))]; exact h6⟩
theorem CLk.pf {M : ej_Mem} {t : Nat} {tp : Nat → Nat} {p f : Nat} (h : CLk M t tp p f) (q g : Nat) : CLk (pf 61 M q g) t tp q g := by
  obtain ⟨h1, h2, ⟨h3, h4, h7⟩, h5, h6⟩ := h
  have F := pf_fr 61 M q g
  exact ⟨F.sw h1, h2.fr F (fun o k q z => by unfold Ppf at z; omega), ⟨h3, ⟨h4.1, h4.2.1, by rw [F.i (by unfold Ppf; omega)]; exact h4.2.2.1, fun k hk => by rw [F.a (by unfold Ppf; omega)]; exact h4.2.2.2 k hk⟩, by rw [F.i (by unfold Ppf; omega)]; exact h7⟩, rfl, rfl⟩
theorem r_sign {D : Nat} (hD : 1 ≤ D) {M : ej_Mem} {t : Nat} {tp : Nat → Nat} {p f : Nat} (h : RL M t tp p f) (hp : p < 1000) : cal D jm_Ref_sign [.ref 90] M = some (some (.int (sI (sg tp t p))), M) := by
  obtain ⟨d, rfl⟩ : ∃ d, D = d + 1 := ⟨D - 1, by omega⟩
  obtain ⟨hW, hS, ⟨⟨t4, tb⟩, tr⟩, h2, h3⟩ := h
  rw [ca_Ref_sign, eq_Ref_sign_0]
  simp only [RW.all hW, h2, tr.2.1, MR, ckk_T, deR_s, deQ_s, deQ_n, bkV_s, bkI_s, bkJ_s, bkQ_s, bkQ_n, ckb0, ckb1, ckb2, ckb3, eq_self, Nat.reduceEqDiff, Nat.reduceLeDiff, Nat.reduceLT, reduceIte, true_or, or_true, not_false_eq_true, not_true_eq_false, and_self, and_true, true_and, LIT, Int32.reduceLT, Int32.reduceLE, Int32.reduceToNatClampNeg]
  unfold sg
  by_cases q : p < t
  · rw [if_neg (nI_ge q (by omega)), ckb_n (by omega) (by decide), nI_clamp (by omega), tr.2.2 p q, b255 _ (tb p q), if_pos q, sI_lit (tb p q)]
  · rw [if_pos (nI_le (by omega) (by omega)), if_neg q]; rfl
theorem r_bl_loop {D : Nat} (hD : 1 ≤ D) {t : Nat} {tp : Nat → Nat} {f : Nat} : ∀ (n p : Nat) (M : ej_Mem), t - p < n → p < 900 → RL M t tp p f → rn jm_Ref_blanks (cal D) 0 [some (.ref 90)] [] M = some (none, pf 90 M (bl tp t n p) f)
  | 0, p, M, hn, hp, h => absurd hn (Nat.not_lt_zero _)
  | n + 1, p, M, hn, hp, h => by
    have t4 := h.2.2.1.1.1
    rw [eq_Ref_blanks_0]
    simp only [RW.all h.1, MR, ckk_T, deR_s, deQ_s, deQ_n, bkV_s, bkI_s, bkJ_s, bkQ_s, bkQ_n, ckb0, ckb1, ckb2, ckb3, eq_self, Nat.reduceEqDiff, Nat.reduceLeDiff, Nat.reduceLT, reduceIte, true_or, or_true, not_false_eq_true, not_true_eq_false, and_self, and_true, true_and, LIT, Int32.reduceLT, Int32.reduceLE, Int32.reduceToNatClampNeg]
    rw [r_sign hD h (by omega), bkI_s]
    unfold bl
    by_cases q : sg tp t p = 32
    · have pt := sg_lt q (by decide)
      rw [if_pos (by rw [q]; rfl), if_pos q]
      simp only [RW.all h.1, h.2.2.2.1, nI_1, MR, ckk_T, deR_s, deQ_s, deQ_n, bkV_s, bkI_s, bkJ_s, bkQ_s, bkQ_n, ckb0, ckb1, ckb2, ckb3, eq_self, Nat.reduceEqDiff, Nat.reduceLeDiff, Nat.reduceLT, reduceIte, true_or, or_true, not_false_eq_true, not_true_eq_false, and_self, and_true, true_and, LIT, Int32.reduceLT, Int32.reduceLE, Int32.reduceToNatClampNeg]
      rw [r_bl_loop (t := t) (tp := tp) (f := f) hD n (p + 1) _ (by omega) (by omega) (by rw [pf_q h.2.2.2.2]; exact h.pf _ _), pf_2]
    · rw [if_neg (show ¬ sI (sg tp t p) = 32 from fun e => q ((sI_eq (sg_le h.2.2.1.1 p) (by decide : 32 < 256)).mp e)), if_neg q, pf_self h.2.2.2.1 h.2.2.2.2]
theorem r_blanks {D : Nat} (hD : 2 ≤ D) {M : ej_Mem} {t : Nat} {tp : Nat → Nat} {p f : Nat} (h : RL M t tp p f) (hp : p < 900) : cal D jm_Ref_blanks [.ref 90] M = some (none, pf 90 M (blk tp t p) f) := by
  obtain ⟨d, rfl⟩ : ∃ d, D = d + 1 := ⟨D - 1, by omega⟩
  have t4 := h.2.2.1.1.1
  rw [ca_Ref_blanks, r_bl_loop (by omega : 1 ≤ d) 401 p M (by omega) hp h]; rfl
theorem r_isDigit {D : Nat} (hD : 2 ≤ D) {M : ej_Mem} {t : Nat} {tp : Nat → Nat} {p f : Nat} (h : RL M t tp p f) (hp : p < 900) : cal D jm_Ref_isDigit [.ref 90] M = some (some (.int (b2i (inr 48 57 (sg tp t p)))), M) := by
  obtain ⟨d, rfl⟩ : ∃ d, D = d + 1 := ⟨D - 1, by omega⟩
  have E := p_inI (by omega : 1 ≤ d) (sI (sg tp t p)) 48 57 M
  rw [show Int32.toInt64 48 = 48 from by decide, show Int32.toInt64 57 = 57 from by decide] at E
  rw [ca_Ref_isDigit, eq_Ref_isDigit_0]
  simp only [RW.all h.1, MR, ckk_T, deR_s, deQ_s, deQ_n, bkV_s, bkI_s, bkJ_s, bkQ_s, bkQ_n, ckb0, ckb1, ckb2, ckb3, eq_self, Nat.reduceEqDiff, Nat.reduceLeDiff, Nat.reduceLT, reduceIte, true_or, or_true, not_false_eq_true, not_true_eq_false, and_self, and_true, true_and, LIT, Int32.reduceLT, Int32.reduceLE, Int32.reduceToNatClampNeg]
  rw [r_sign (by omega) h (by omega), bkI_s, E, bkI_s, ck_b2i, (sI_in _ (sg_le h.2.2.1.1 p)).1]
theorem r_isRight {D : Nat} (hD : 2 ≤ D) {M : ej_Mem} {t : Nat} {tp : Nat → Nat} {p f : Nat} (h : RL M t tp p f) (hp : p < 900) : cal D jm_Ref_isRight [.ref 90] M = some (some (.int (b2i (inr 65 88 (sg tp t p)))), M) := by
  obtain ⟨d, rfl⟩ : ∃ d, D = d + 1 := ⟨D - 1, by omega⟩
  have E := p_inI (by omega : 1 ≤ d) (sI (sg tp t p)) 65 88 M
  rw [show Int32.toInt64 65 = 65 from by decide, show Int32.toInt64 88 = 88 from by decide] at E
  rw [ca_Ref_isRight, eq_Ref_isRight_0]
  simp only [RW.all h.1, MR, ckk_T, deR_s, deQ_s, deQ_n, bkV_s, bkI_s, bkJ_s, bkQ_s, bkQ_n, ckb0, ckb1, ckb2, ckb3, eq_self, Nat.reduceEqDiff, Nat.reduceLeDiff, Nat.reduceLT, reduceIte, true_or, or_true, not_false_eq_true, not_true_eq_false, and_self, and_true, true_and, LIT, Int32.reduceLT, Int32.reduceLE, Int32.reduceToNatClampNeg]
  rw [r_sign (by omega) h (by omega), bkI_s, E, bkI_s, ck_b2i, (sI_in _ (sg_le h.2.2.1.1 p)).2]
theorem flt_I (c q : Nat) : (1 : Int32) + 8 * nI q + nI c = nI (flt c q) := by
  rw [show (8 : Int32) = nI 8 from rfl, show (1 : Int32) = nI 1 from rfl, pk_mul, nI_add, nI_add]; rfl
theorem r_fails {D : Nat} (hD : 1 ≤ D) {M : ej_Mem} {t : Nat} {tp : Nat → Nat} {p f : Nat} (h : RL M t tp p f) (hf : f < 2 ^ 30) {x : Int32} {c q : Nat} (hx : x = nI c) : cal D jm_Ref_fails [.ref 90, .int x, .int (nI q)] M = some (none, pf 90 M p (orF f (flt c q))) := by
  obtain ⟨d, rfl⟩ : ∃ d, D = d + 1 := ⟨D - 1, by omega⟩
  subst hx
  rw [ca_Ref_fails, eq_Ref_fails_0]
  simp only [RW.all h.1, h.2.2.2.2, flt_I, MR, ckk_T, deR_s, deQ_s, deQ_n, bkV_s, bkI_s, bkJ_s, bkQ_s, bkQ_n, ckb0, ckb1, ckb2, ckb3, eq_self, Nat.reduceEqDiff, Nat.reduceLeDiff, Nat.reduceLT, reduceIte, true_or, or_true, not_false_eq_true, not_true_eq_false, and_self, and_true, true_and, LIT, Int32.reduceLT, Int32.reduceLE, Int32.reduceToNatClampNeg]
  unfold orF
  by_cases q0 : f = 0
  · rw [if_pos (by rw [q0]; rfl), if_pos q0, pf_f h.2.2.2.1]
  · rw [if_neg (nI_ne0 (by omega) (by omega)), if_neg q0, pf_f h.2.2.2.1]
/-- a word, by the reference -/
theorem r_lw_loop {D : Nat} (hD : 5 ≤ D) {t : Nat} {tp : Nat → Nat} {p f : Nat} {M : ej_Mem} (h : RL M t tp p f) {k : Nat} (hk : k < 28) (hp : p ≤ t) {o3 o4 : Option Value} : ∀ (n e : Nat), t - e < n → p ≤ e → e ≤ t → rn jm_Ref_stands (cal D) 5 [some (.ref 90), some (.ref (3 + k)), some (.int (nI e)), o3, o4] [] M = rn jm_Ref_stands (cal D) 63 [some (.ref 90), some (.ref (3 + k)), some (.int (nI (lw tp t n e))), some (.int (b2i (decide (lw tp t n e - p = (wd k).length)))), some (.int 0)] [] M
  | 0, e, hn, _, _ => absurd hn (Nat.not_lt_zero _)
  | n + 1, e, hn, he, het => by
    have t4 := h.2.2.1.1.1
    have tr := h.2.2.1.2
    obtain ⟨w1, w4, wl⟩ := wd_ok k hk
    have fin : (bkI (cal D jm_Str_length_8abf5 [.ref (3 + k)] M) fun x2 M1 => if nI e - nI p = x2 then rn jm_Ref_stands (cal D) 63 [some (.ref 90), some (.ref (3 + k)), some (.int (nI e)), some (.int 1), some (.int 0)] [] M1 else rn jm_Ref_stands (cal D) 63 [some (.ref 90), some (.ref (3 + k)), some (.int (nI e)), some (.int 0), some (.int 0)] [] M1) = rn jm_Ref_stands (cal D) 63 [some (.ref 90), some (.ref (3 + k)), some (.int (nI e)), some (.int (b2i (decide (e - p = (wd k).length)))), some (.int 0)] [] M := by
      rw [p_strlen (by omega) (h.2.1 k hk) w4, bkI_s, pk_sub he]
      by_cases q : e - p = (wd k).length
      · rw [if_pos (by rw [q]), decide_eq_true q]; rfl
      · rw [if_neg (fun z => q ((nI_eq (by omega) (by omega)).mp z)), decide_eq_false q]; rfl
    have wc := (h.2.1 k hk).1
    rw [eq_Ref_stands_5]
    simp only [RW.all h.1, h.2.2.2.1, tr.2.1, wc, MR, ckk_T, deR_s, deQ_s, deQ_n, bkV_s, bkI_s, bkJ_s, bkQ_s, bkQ_n, ckb0, ckb1, ckb2, ckb3, eq_self, Nat.reduceEqDiff, Nat.reduceLeDiff, Nat.reduceLT, reduceIte, true_or, or_true, not_false_eq_true, not_true_eq_false, and_self, and_true, true_and, LIT, Int32.reduceLT, Int32.reduceLE, Int32.reduceToNatClampNeg]
    unfold lw
    by_cases q : e < t
    · have cb := h.2.2.1.1.2 e q
      have sge : sg tp t e = tp e := sg_in q rfl
      obtain ⟨c1, c2, _, _⟩ := b_cmp (tp e) cb
      rw [if_neg (nI_ge q (by omega)), ckb_n (by omega) (by decide), ckb_n (by omega) (by decide), nI_clamp (by omega), tr.2.2 e q, sge]
      by_cases lo : lowB (tp e) = true
      · have lo' := of_decide_eq_true lo
        rw [if_neg (fun z => by have := c1.mp z; omega), if_neg (fun z => by have := c2.mp z; omega), if_pos lo, nI_1]
        exact r_lw_loop hD h hk hp n (e + 1) (by omega) (by omega) (by omega)
      · have lo' : ¬ (97 ≤ tp e ∧ tp e ≤ 122) := fun z => lo (decide_eq_true z)
        rw [if_neg lo]
        by_cases y : (nI (tp e)).toInt8.toInt32 < 97
        · rw [if_pos y]; exact fin
        · rw [if_neg y, if_pos (c2.mpr (by have : ¬ (tp e < 97 ∨ 128 ≤ tp e) := fun z => y (c1.mpr z); omega))]; exact fin
    · have sge : sg tp t e = 256 := by unfold sg; rw [if_neg q]
      rw [if_pos (nI_le (by omega) (by omega)), sge, if_neg (show ¬ lowB 256 = true by decide)]
      exact fin
theorem r_mt_loop {D : Nat} (hD : 5 ≤ D) {t : Nat} {tp : Nat → Nat} {p f : Nat} {M : ej_Mem} (h : RL M t tp p f) {k : Nat} (hk : k < 28) {l2 : Int32} (hp : p + (wd k).length ≤ t) : ∀ (n j : Nat), j + n = (wd k).length → rn jm_Ref_stands (cal D) 63 [some (.ref 90), some (.ref (3 + k)), some (.int l2), some (.int 1), some (.int (nI j))] [] M = some (some (.int (b2i (mtc tp t p (wd k) n j))), M)
  | 0, j, hj => by
    obtain ⟨w1, w4, wl⟩ := wd_ok k hk
    have wc := (h.2.1 k hk).1
    rw [eq_Ref_stands_63]
    simp only [wc, MR, ckk_T, deR_s, deQ_s, deQ_n, bkV_s, bkI_s, bkJ_s, bkQ_s, bkQ_n, ckb0, ckb1, ckb2, ckb3, eq_self, Nat.reduceEqDiff, Nat.reduceLeDiff, Nat.reduceLT, reduceIte, true_or, or_true, not_false_eq_true, not_true_eq_false, and_self, and_true, true_and, LIT, Int32.reduceLT, Int32.reduceLE, Int32.reduceToNatClampNeg]
    rw [p_strlen (by omega) (h.2.1 k hk) w4, bkI_s, if_pos (nI_le (by omega) (by omega))]; rfl
  | n + 1, j, hj => by
    have wc := (h.2.1 k hk).1
    have t4 := h.2.2.1.1.1
    have tr := h.2.2.1.2
    obtain ⟨w1, w4, wl⟩ := wd_ok k hk
    have cb := h.2.2.1.1.2 (p + j) (by omega)
    have sge : sg tp t (p + j) = tp (p + j) := sg_in (by omega) rfl
    have lj := wl j (by omega)
    have lj' : (wd k).getD j 0 < 128 := by have := of_decide_eq_true lj; omega
    rw [eq_Ref_stands_63]
    simp only [wc, MR, ckk_T, deR_s, deQ_s, deQ_n, bkV_s, bkI_s, bkJ_s, bkQ_s, bkQ_n, ckb0, ckb1, ckb2, ckb3, eq_self, Nat.reduceEqDiff, Nat.reduceLeDiff, Nat.reduceLT, reduceIte, true_or, or_true, not_false_eq_true, not_true_eq_false, and_self, and_true, true_and, LIT, Int32.reduceLT, Int32.reduceLE, Int32.reduceToNatClampNeg]
    rw [p_strlen (by omega) (h.2.1 k hk) w4, bkI_s, if_neg (nI_ge (by omega) (by omega))]
    simp only [RW.all h.1, h.2.2.2.1, nI_add, wc, MR, ckk_T, deR_s, deQ_s, deQ_n, bkV_s, bkI_s, bkJ_s, bkQ_s, bkQ_n, ckb0, ckb1, ckb2, ckb3, eq_self, Nat.reduceEqDiff, Nat.reduceLeDiff, Nat.reduceLT, reduceIte, true_or, or_true, not_false_eq_true, not_true_eq_false, and_self, and_true, true_and, LIT, Int32.reduceLT, Int32.reduceLE, Int32.reduceToNatClampNeg]
    rw [ckb_n (by omega) (by decide), nI_clamp (by omega), p_charAt hD (h.2.1 k hk) w4 (by omega) lj, bkI_s, tr.2.2 _ (by omega), nI_1]
    unfold mtc
    rw [sge]
    by_cases q : tp (p + j) = (wd k).getD j 0
    · rw [if_pos ((b_eq cb lj').mpr q), decide_eq_true q, Bool.true_and]
      exact r_mt_loop hD h hk hp n (j + 1) (by omega)
    · rw [if_neg (fun z => q ((b_eq cb lj').mp z)), decide_eq_false q, Bool.false_and, eq_Ref_stands_63]
      simp only [wc, MR, ckk_T, deR_s, deQ_s, deQ_n, bkV_s, bkI_s, bkJ_s, bkQ_s, bkQ_n, ckb0, ckb1, ckb2, ckb3, eq_self, Nat.reduceEqDiff, Nat.reduceLeDiff, Nat.reduceLT, reduceIte, true_or, or_true, not_false_eq_true, not_true_eq_false, and_self, and_true, true_and, LIT, Int32.reduceLT, Int32.reduceLE, Int32.reduceToNatClampNeg]
      rw [p_strlen (by omega) (h.2.1 k hk) w4, bkI_s]
      by_cases y : nI (wd k).length ≤ nI (j + 1)
      · rw [if_pos y]; rfl
      · rw [if_neg y]; rfl
theorem r_stands {D : Nat} (hD : 6 ≤ D) {t : Nat} {tp : Nat → Nat} {p f : Nat} {M : ej_Mem} (h : RL M t tp p f) {k : Nat} (hk : k < 28) (hp : p ≤ t) {r : Nat} (hr : r = 3 + k) : cal D jm_Ref_stands [.ref 90, .ref r] M = some (some (.int (b2i (stw tp t p (wd k)))), M) := by
  obtain ⟨d, rfl⟩ : ∃ d, D = d + 1 := ⟨D - 1, by omega⟩
  subst hr
  have t4 := h.2.2.1.1.1
  obtain ⟨w1, w4, wl⟩ := wd_ok k hk
  rw [ca_Ref_stands, eq_Ref_stands_0]
  simp only [RW.all h.1, h.2.2.2.1, MR, ckk_T, deR_s, deQ_s, deQ_n, bkV_s, bkI_s, bkJ_s, bkQ_s, bkQ_n, ckb0, ckb1, ckb2, ckb3, eq_self, Nat.reduceEqDiff, Nat.reduceLeDiff, Nat.reduceLT, reduceIte, true_or, or_true, not_false_eq_true, not_true_eq_false, and_self, and_true, true_and, LIT, Int32.reduceLT, Int32.reduceLE, Int32.reduceToNatClampNeg]
  rw [r_lw_loop (by omega : 5 ≤ d) h hk hp 401 p (by omega) (Nat.le_refl _) hp]
  unfold stw lwk
  by_cases q : lw tp t 401 p - p = (wd k).length
  · have le := lw_le tp t 401 p hp
    rw [decide_eq_true q, Bool.true_and]
    exact r_mt_loop (by omega : 5 ≤ d) h hk (by omega) (wd k).length 0 (by omega)
  · have wc := (h.2.1 k hk).1
    rw [decide_eq_false q, Bool.false_and, eq_Ref_stands_63]
    simp only [wc, b2i_f, MR, ckk_T, deR_s, deQ_s, deQ_n, bkV_s, bkI_s, bkJ_s, bkQ_s, bkQ_n, ckb0, ckb1, ckb2, ckb3, eq_self, Nat.reduceEqDiff, Nat.reduceLeDiff, Nat.reduceLT, reduceIte, true_or, or_true, not_false_eq_true, not_true_eq_false, and_self, and_true, true_and, LIT, Int32.reduceLT, Int32.reduceLE, Int32.reduceToNatClampNeg]
    rw [p_strlen (by omega) (h.2.1 k hk) w4, bkI_s]
    by_cases y : nI (wd k).length ≤ 0
    · rw [if_pos y]
    · rw [if_neg y]
/-! the class -/
theorem c_isSmall {D : Nat} (hD : 1 ≤ D) {n : Nat} (hn : n ≤ 256) (M : ej_Mem) : cal D jm_Clerk_isSmall [.int (sI n)] M = some (some (.int (b2i (lowB n))), M) := by
  obtain ⟨d, rfl⟩ : ∃ d, D = d + 1 := ⟨D - 1, by omega⟩
  obtain ⟨_, a, b, _⟩ := sI_dec n hn
  rw [ca_Clerk_isSmall, eq_Clerk_isSmall_0]
  unfold lowB
  by_cases q : 97 ≤ n ∧ n ≤ 122
  · rw [if_neg (fun z => by have := a.mp z; omega), if_neg (fun z => by have := b.mp z; omega), decide_eq_true q, ckk_t (Or.inr rfl)]; rfl
  · rw [decide_eq_false q]
    by_cases y : sI n < 97
    · rw [if_pos y, ckk_t (Or.inl rfl)]; rfl
    · rw [if_neg y, if_pos (b.mpr (by have : ¬ (n < 97 ∨ n = 256) := fun z => y (a.mpr z); omega)), ckk_t (Or.inl rfl)]; rfl
theorem c_isRight {D : Nat} (hD : 1 ≤ D) {n : Nat} (hn : n ≤ 256) (M : ej_Mem) : cal D jm_Clerk_isRight [.int (sI n)] M = some (some (.int (b2i (inr 65 88 n))), M) := by
  obtain ⟨d, rfl⟩ : ∃ d, D = d + 1 := ⟨D - 1, by omega⟩
  obtain ⟨_, _, _, a, b, _⟩ := sI_dec n hn
  rw [ca_Clerk_isRight, eq_Clerk_isRight_0]
  unfold inr
  by_cases q : 65 ≤ n ∧ n ≤ 88
  · rw [if_neg (fun z => by have := a.mp z; omega), if_neg (fun z => by have := b.mp z; omega), decide_eq_true q, ckk_t (Or.inr rfl)]; rfl
  · rw [decide_eq_false q]
    by_cases y : sI n < 65
    · rw [if_pos y, ckk_t (Or.inl rfl)]; rfl
    · rw [if_neg y, if_pos (b.mpr (by have : ¬ (n < 65 ∨ n = 256) := fun z => y (a.mpr z); omega)), ckk_t (Or.inl rfl)]; rfl
theorem c_isDigit {D : Nat} (hD : 1 ≤ D) {n : Nat} (hn : n ≤ 256) (M : ej_Mem) : cal D jm_Clerk_isDigit [.int (sI n)] M = some (some (.int (b2i (inr 48 57 n))), M) := by
  obtain ⟨d, rfl⟩ : ∃ d, D = d + 1 := ⟨D - 1, by omega⟩
  obtain ⟨_, _, _, _, _, a, b⟩ := sI_dec n hn
  rw [ca_Clerk_isDigit, eq_Clerk_isDigit_0]
  unfold inr
  by_cases q : 48 ≤ n ∧ n ≤ 57
  · rw [if_neg (fun z => by have := a.mp z; omega), if_neg (fun z => by have := b.mp z; omega), decide_eq_true q, ckk_t (Or.inr rfl)]; rfl
  · rw [decide_eq_false q]
    by_cases y : sI n < 48
    · rw [if_pos y, ckk_t (Or.inl rfl)]; rfl
    · rw [if_neg y, if_pos (b.mpr (by have : ¬ (n < 48 ∨ n = 256) := fun z => y (a.mpr z); omega)), ckk_t (Or.inl rfl)]; rfl
theorem c_fail {D : Nat} (hD : 1 ≤ D) {M : ej_Mem} {t : Nat} {tp : Nat → Nat} {p f : Nat} (h : CLk M t tp p f) (hf : f < 2 ^ 30) {x : Int32} {c : Nat} (hx : x = nI c) : cal D jm_Clerk_fail [.ref 61, .int x] M = some (none, pf 61 M p (orF f (flt c p))) := by
  obtain ⟨d, rfl⟩ : ∃ d, D = d + 1 := ⟨D - 1, by omega⟩
  subst hx
  rw [ca_Clerk_fail, eq_Clerk_fail_0]
  simp only [SW.all h.1, h.2.2.2.2, h.2.2.2.1, flt_I, MR, ckk_T, deR_s, deQ_s, deQ_n, bkV_s, bkI_s, bkJ_s, bkQ_s, bkQ_n, ckb0, ckb1, ckb2, ckb3, eq_self, Nat.reduceEqDiff, Nat.reduceLeDiff, Nat.reduceLT, reduceIte, true_or, or_true, not_false_eq_true, not_true_eq_false, and_self, and_true, true_and, LIT, Int32.reduceLT, Int32.reduceLE, Int32.reduceToNatClampNeg]
  unfold orF
  by_cases q0 : f = 0
  · rw [if_pos (by rw [q0]; rfl), if_pos q0, pf_f h.2.2.2.1]
  · rw [if_neg (nI_ne0 (by omega) (by omega)), if_neg q0, pf_self h.2.2.2.1 h.2.2.2.2]
theorem c_look_loop (cl : Nat → List Value → ej_Mem → Option ej_R) {t : Nat} {tp : Nat → Nat} {f : Nat} : ∀ (n p : Nat) (M : ej_Mem), t - p < n → p < 900 → CLk M t tp p f → rn jm_Clerk_look cl 0 [some (.ref 61)] [] M = some (some (.int (sI (sg tp t (bl tp t n p)))), pf 61 M (bl tp t n p) f)
  | 0, p, M, hn, hp, h => absurd hn (Nat.not_lt_zero _)
  | n + 1, p, M, hn, hp, h => by
    obtain ⟨hW, hS, ⟨TP, tc, h1⟩, h2, h3⟩ := h
    have t4 := TP.1
    have H : CLk M t tp p f := ⟨hW, hS, ⟨TP, tc, h1⟩, h2, h3⟩
    rw [eq_Clerk_look_0]
    simp only [SW.all hW, h1, h2, nI_1, MR, ckk_T, deR_s, deQ_s, deQ_n, bkV_s, bkI_s, bkJ_s, bkQ_s, bkQ_n, ckb0, ckb1, ckb2, ckb3, eq_self, Nat.reduceEqDiff, Nat.reduceLeDiff, Nat.reduceLT, reduceIte, true_or, or_true, not_false_eq_true, not_true_eq_false, and_self, and_true, true_and, LIT, Int32.reduceLT, Int32.reduceLE, Int32.reduceToNatClampNeg]
    unfold bl
    by_cases q : p < t
    · have sge : sg tp t p = tp p := sg_in q rfl
      rw [if_neg (nI_ge q (by omega)), if_neg (nI_ge q (by omega)), ckb_n (by omega) (by decide), ckb_n (by omega) (by decide), nI_clamp (by omega), tc.2.2.2 p q]
      by_cases s : sg tp t p = 32
      · rw [if_pos (by rw [← sge, s]; rfl), if_pos s, c_look_loop (t := t) (tp := tp) (f := f) cl n (p + 1) _ (by omega) (by omega) (by rw [pf_q h3]; exact H.pf _ _), pf_2]
      · rw [if_neg (show ¬ nI (tp p) = 32 from fun e => s (by rw [sge]; exact (nI_eq (by have := TP.2 p q; omega) (by decide : 32 < 2 ^ 31)).mp e)), if_neg s, pf_self h2 h3, sgb TP q]
    · have sge : sg tp t p = 256 := by unfold sg; rw [if_neg q]
      rw [if_pos (nI_le (by omega) (by omega)), if_pos (nI_le (by omega) (by omega)), sge, if_neg (by decide), pf_self h2 h3, sge]; rfl
theorem c_look {D : Nat} (hD : 1 ≤ D) {M : ej_Mem} {t : Nat} {tp : Nat → Nat} {p f : Nat} (h : CLk M t tp p f) (hp : p < 900) : cal D jm_Clerk_look [.ref 61] M = some (some (.int (sI (sg tp t (blk tp t p)))), pf 61 M (blk tp t p) f) := by
  obtain ⟨d, rfl⟩ : ∃ d, D = d + 1 := ⟨D - 1, by omega⟩
  have t4 := h.2.2.1.1.1
  rw [ca_Clerk_look, c_look_loop (cal d) 401 p M (by omega) hp h]; rfl
theorem c_skip_loop {D : Nat} (hD : 1 ≤ D) {t : Nat} {tp : Nat → Nat} {f : Nat} : ∀ (n p : Nat) (M : ej_Mem), t - p < n → p < 900 → CLk M t tp p f → rn jm_Clerk_skipWord (cal D) 0 [some (.ref 61)] [] M = some (none, pf 61 M (lw tp t n p) f)
  | 0, p, M, hn, hp, h => absurd hn (Nat.not_lt_zero _)
  | n + 1, p, M, hn, hp, h => by
    obtain ⟨hW, hS, ⟨TP, tc, h1⟩, h2, h3⟩ := h
    have t4 := TP.1
    have H : CLk M t tp p f := ⟨hW, hS, ⟨TP, tc, h1⟩, h2, h3⟩
    rw [eq_Clerk_skipWord_0]
    simp only [SW.all hW, h1, h2, nI_1, MR, ckk_T, deR_s, deQ_s, deQ_n, bkV_s, bkI_s, bkJ_s, bkQ_s, bkQ_n, ckb0, ckb1, ckb2, ckb3, eq_self, Nat.reduceEqDiff, Nat.reduceLeDiff, Nat.reduceLT, reduceIte, true_or, or_true, not_false_eq_true, not_true_eq_false, and_self, and_true, true_and, LIT, Int32.reduceLT, Int32.reduceLE, Int32.reduceToNatClampNeg]
    unfold lw
    by_cases q : p < t
    · rw [if_neg (nI_ge q (by omega)), ckb_n (by omega) (by decide), nI_clamp (by omega), tc.2.2.2 p q, ← sgb TP q, c_isSmall hD (sg_le TP p), bkI_s]
      cases hl : lowB (sg tp t p) with
      | true =>
        rw [if_neg (by decide), if_pos rfl]
        simp only [SW.all hW, h2, nI_1, MR, ckk_T, deR_s, deQ_s, deQ_n, bkV_s, bkI_s, bkJ_s, bkQ_s, bkQ_n, ckb0, ckb1, ckb2, ckb3, eq_self, Nat.reduceEqDiff, Nat.reduceLeDiff, Nat.reduceLT, reduceIte, true_or, or_true, not_false_eq_true, not_true_eq_false, and_self, and_true, true_and, LIT, Int32.reduceLT, Int32.reduceLE, Int32.reduceToNatClampNeg]
        rw [c_skip_loop (t := t) (tp := tp) (f := f) hD n (p + 1) _ (by omega) (by omega) (by rw [pf_q h3]; exact H.pf _ _), pf_2]
      | false => rw [if_pos (by rfl), if_neg Bool.false_ne_true, pf_self h2 h3]
    · have sge : sg tp t p = 256 := by unfold sg; rw [if_neg q]
      rw [if_pos (nI_le (by omega) (by omega)), sge, if_neg (show ¬ lowB 256 = true by decide), pf_self h2 h3]
theorem c_skipWord {D : Nat} (hD : 2 ≤ D) {M : ej_Mem} {t : Nat} {tp : Nat → Nat} {p f : Nat} (h : CLk M t tp p f) (hp : p < 900) : cal D jm_Clerk_skipWord [.ref 61] M = some (none, pf 61 M (lwk tp t p) f) := by
  obtain ⟨d, rfl⟩ : ∃ d, D = d + 1 := ⟨D - 1, by omega⟩
  have t4 := h.2.2.1.1.1
  rw [ca_Clerk_skipWord, c_skip_loop (by omega : 1 ≤ d) 401 p M (by omega) hp h]; rfl
theorem c_mt_loop {D : Nat} (hD : 5 ≤ D) {t : Nat} {tp : Nat → Nat} {p f : Nat} {M : ej_Mem} (h : CLk M t tp p f) {k : Nat} (hk : k < 28) (hp : p + (wd k).length ≤ t) : ∀ (n j : Nat), j + n = (wd k).length → rn jm_Clerk_isWord (cal D) 52 [some (.ref 61), some (.ref (3 + k)), some (.int (nI (wd k).length)), some (.int (nI j))] [] M = some (some (.int (b2i (mtc tp t p (wd k) n j))), M)
  | 0, j, hj => by
    obtain ⟨w1, w4, wl⟩ := wd_ok k hk
    rw [eq_Clerk_isWord_52, if_pos (nI_le (by omega) (by omega)), ckk_t (Or.inr rfl)]; rfl
  | n + 1, j, hj => by
    have wc := (h.2.1 k hk).1
    have t4 := h.2.2.1.1.1
    have tc := h.2.2.1.2.1
    obtain ⟨w1, w4, wl⟩ := wd_ok k hk
    have cb := h.2.2.1.1.2 (p + j) (by omega)
    have sge : sg tp t (p + j) = tp (p + j) := sg_in (by omega) rfl
    have lj := wl j (by omega)
    have lj' : (wd k).getD j 0 < 128 := by have := of_decide_eq_true lj; omega
    rw [eq_Clerk_isWord_52, if_neg (nI_ge (by omega) (by omega))]
    simp only [SW.all h.1, h.2.2.2.1, nI_add, wc, MR, ckk_T, deR_s, deQ_s, deQ_n, bkV_s, bkI_s, bkJ_s, bkQ_s, bkQ_n, ckb0, ckb1, ckb2, ckb3, eq_self, Nat.reduceEqDiff, Nat.reduceLeDiff, Nat.reduceLT, reduceIte, true_or, or_true, not_false_eq_true, not_true_eq_false, and_self, and_true, true_and, LIT, Int32.reduceLT, Int32.reduceLE, Int32.reduceToNatClampNeg]
    rw [ckb_n (by omega) (by decide), nI_clamp (by omega), p_charAt hD (h.2.1 k hk) w4 (by omega) lj, bkI_s, tc.2.2.2 _ (by omega), nI_1]
    unfold mtc
    rw [sge]
    by_cases q : tp (p + j) = (wd k).getD j 0
    · rw [if_pos (by rw [q]), decide_eq_true q, Bool.true_and]
      exact c_mt_loop hD h hk hp n (j + 1) (by omega)
    · rw [if_neg (fun z => q ((nI_eq (by omega) (by omega)).mp z)), decide_eq_false q, Bool.false_and]; rfl
theorem c_isWord {D : Nat} (hD : 6 ≤ D) {t : Nat} {tp : Nat → Nat} {p f : Nat} {M : ej_Mem} (h : CLk M t tp p f) {k : Nat} (hk : k < 28) (hp : p ≤ t) {r : Nat} (hr : r = 3 + k) : cal D jm_Clerk_isWord [.ref 61, .ref r] M = some (some (.int (b2i (stw tp t p (wd k)))), M) := by
  obtain ⟨d, rfl⟩ : ∃ d, D = d + 1 := ⟨D - 1, by omega⟩
  subst hr
  have TP := h.2.2.1.1
  have t4 := TP.1
  have tc := h.2.2.1.2.1
  obtain ⟨w1, w4, wl⟩ := wd_ok k hk
  rw [ca_Clerk_isWord, eq_Clerk_isWord_0, p_strlen (by omega) (h.2.1 k hk) w4, bkI_s, stw_c t4 w1 w4 wl]
  have wc := (h.2.1 k hk).1
  simp only [SW.all h.1, h.2.2.2.1, h.2.2.1.2.2, nI_add, wc, MR, ckk_T, deR_s, deQ_s, deQ_n, bkV_s, bkI_s, bkJ_s, bkQ_s, bkQ_n, ckb0, ckb1, ckb2, ckb3, eq_self, Nat.reduceEqDiff, Nat.reduceLeDiff, Nat.reduceLT, reduceIte, true_or, or_true, not_false_eq_true, not_true_eq_false, and_self, and_true, true_and, LIT, Int32.reduceLT, Int32.reduceLE, Int32.reduceToNatClampNeg]
  by_cases q : p + (wd k).length ≤ t
  · rw [if_neg (nI_nlt q (by omega)), decide_eq_true q, Bool.true_and]
    have L := c_mt_loop (by omega : 5 ≤ d) h hk q (wd k).length 0 (by omega)
    by_cases s : p + (wd k).length < t
    · rw [if_neg (nI_ge s (by omega)), ckb_n (by omega) (by decide), nI_clamp (by omega), tc.2.2.2 _ s, ← sgb TP s, c_isSmall (by omega) (sg_le TP _), bkI_s, decide_eq_true s, Bool.true_and]
      cases hl : lowB (sg tp t (p + (wd k).length)) with
      | false => rw [if_pos (by rfl), Bool.not_false, Bool.true_and]; exact L
      | true => rw [if_neg (by decide)]; rfl
    · rw [if_pos (nI_le (by omega) (by omega)), decide_eq_false s, Bool.false_and, Bool.not_false, Bool.true_and]; exact L
  · rw [if_pos (nI_lt (by omega) (by omega)), decide_eq_false q]; rfl
