/-! rights and numbers: both sides -/
def rb (c : Nat) : Int32 := 1 <<< ((sI c - 65) &&& 31)
def rts (tp : Nat → Nat) (t : Nat) : Nat → Nat → Int32 → Nat × Int32
  | 0, p, a => (p, a)
  | n + 1, p, a => if inr 65 88 (sg tp t p) = true then rts tp t n (blk tp t (p + 1)) (a ||| rb (sg tp t p)) else (p, a)
theorem inr_lt {tp : Nat → Nat} {t p lo hi : Nat} (hh : hi < 256) (h : inr lo hi (sg tp t p) = true) : p < t := by
  have := of_decide_eq_true h
  exact sg_lt (tp := tp) rfl (by omega)
theorem rts_le (tp : Nat → Nat) (t : Nat) : ∀ n p a, p ≤ t → (rts tp t n p a).1 ≤ t
  | 0, p, a, h => h
  | n + 1, p, a, h => by
    unfold rts
    split
    · rename_i q
      have := inr_lt (by decide) q
      exact rts_le tp t n _ _ (bl_le tp t 401 (p + 1) (by omega))
    · exact h
theorem rts_no (tp : Nat → Nat) (t : Nat) (ht : t ≤ 400) : ∀ n p a, sg tp t p ≠ 32 → sg tp t (rts tp t n p a).1 ≠ 32
  | 0, p, a, h => h
  | n + 1, p, a, h => by
    unfold rts
    split
    · exact rts_no tp t ht n _ _ (bl_no tp t 401 (p + 1) (by omega))
    · exact h
theorem r_rts_loop {D : Nat} (hD : 2 ≤ D) {t : Nat} {tp : Nat → Nat} {f : Nat} : ∀ (n p : Nat) (a : Int32) (M : ej_Mem), t - p < n → p ≤ t → RL M t tp p f → rn jm_Ref_rights (cal D) 24 [some (.ref 90), some (.int a)] [] M = some (some (.int (rts tp t n p a).2), pf 90 M (rts tp t n p a).1 f)
  | 0, p, a, M, hn, hp, h => absurd hn (Nat.not_lt_zero _)
  | n + 1, p, a, M, hn, hp, h => by
    have t4 := h.2.2.1.1.1
    rw [eq_Ref_rights_24]
    simp only [RW.all h.1, MR, ckk_T, deR_s, deQ_s, deQ_n, bkV_s, bkI_s, bkJ_s, bkQ_s, bkQ_n, ckb0, ckb1, ckb2, ckb3, eq_self, Nat.reduceEqDiff, Nat.reduceLeDiff, Nat.reduceLT, reduceIte, true_or, or_true, not_false_eq_true, not_true_eq_false, and_self, and_true, true_and, LIT, Int32.reduceLT, Int32.reduceLE, Int32.reduceToNatClampNeg]
    rw [r_isRight hD h (by omega), bkI_s]
    unfold rts
    cases q : inr 65 88 (sg tp t p) with
    | false => rw [if_pos (by rfl), if_neg Bool.false_ne_true, pf_self h.2.2.2.1 h.2.2.2.2]
    | true =>
      have pt := inr_lt (by decide) q
      have b1 := bl_ge tp t 401 (p + 1)
      have b2 := bl_le tp t 401 (p + 1) (by omega)
      rw [if_neg (by decide), if_pos rfl]
      simp only [RW.all h.1, MR, ckk_T, deR_s, deQ_s, deQ_n, bkV_s, bkI_s, bkJ_s, bkQ_s, bkQ_n, ckb0, ckb1, ckb2, ckb3, eq_self, Nat.reduceEqDiff, Nat.reduceLeDiff, Nat.reduceLT, reduceIte, true_or, or_true, not_false_eq_true, not_true_eq_false, and_self, and_true, true_and, LIT, Int32.reduceLT, Int32.reduceLE, Int32.reduceToNatClampNeg]
      rw [r_sign (by omega) h (by omega), bkI_s]
      simp only [RW.all h.1, h.2.2.2.1, nI_1, MR, ckk_T, deR_s, deQ_s, deQ_n, bkV_s, bkI_s, bkJ_s, bkQ_s, bkQ_n, ckb0, ckb1, ckb2, ckb3, eq_self, Nat.reduceEqDiff, Nat.reduceLeDiff, Nat.reduceLT, reduceIte, true_or, or_true, not_false_eq_true, not_true_eq_false, and_self, and_true, true_and, LIT, Int32.reduceLT, Int32.reduceLE, Int32.reduceToNatClampNeg]
      rw [pf_q h.2.2.2.2, r_blanks hD (h.pf _ _) (by omega), bkV_s, pf_pf]
      have H := h.pf (blk tp t (p + 1)) f
      have L := r_rts_loop (t := t) (tp := tp) (f := f) hD n (blk tp t (p + 1)) (a ||| rb (sg tp t p)) _ (by unfold blk; omega) b2 H
      rw [pf_pf] at L
      exact L
theorem r_rights {D : Nat} (hD : 3 ≤ D) {t : Nat} {tp : Nat → Nat} {p f : Nat} {M : ej_Mem} (h : RL M t tp p f) (hf : f < 2 ^ 30) (hp : p ≤ t) : cal D jm_Ref_rights [.ref 90] M = some (some (.int (rts tp t 401 (blk tp t p) 0).2), pf 90 M (rts tp t 401 (blk tp t p) 0).1 (if inr 65 88 (sg tp t (blk tp t p)) = true then f else orF f (flt 0 (blk tp t p)))) := by
  obtain ⟨d, rfl⟩ : ∃ d, D = d + 1 := ⟨D - 1, by omega⟩
  have t4 := h.2.2.1.1.1
  have b2 : blk tp t p ≤ t := bl_le tp t 401 p hp
  rw [ca_Ref_rights, eq_Ref_rights_0]
  simp only [RW.all h.1, MR, ckk_T, deR_s, deQ_s, deQ_n, bkV_s, bkI_s, bkJ_s, bkQ_s, bkQ_n, ckb0, ckb1, ckb2, ckb3, eq_self, Nat.reduceEqDiff, Nat.reduceLeDiff, Nat.reduceLT, reduceIte, true_or, or_true, not_false_eq_true, not_true_eq_false, and_self, and_true, true_and, LIT, Int32.reduceLT, Int32.reduceLE, Int32.reduceToNatClampNeg]
  rw [r_blanks (by omega) h (by omega), bkV_s]
  have H := h.pf (blk tp t p) f
  generalize hM1 : pf 90 M (blk tp t p) f = M1 at *
  simp only [RW.all H.1, MR, ckk_T, deR_s, deQ_s, deQ_n, bkV_s, bkI_s, bkJ_s, bkQ_s, bkQ_n, ckb0, ckb1, ckb2, ckb3, eq_self, Nat.reduceEqDiff, Nat.reduceLeDiff, Nat.reduceLT, reduceIte, true_or, or_true, not_false_eq_true, not_true_eq_false, and_self, and_true, true_and, LIT, Int32.reduceLT, Int32.reduceLE, Int32.reduceToNatClampNeg]
  rw [r_isRight (by omega) H (by omega), bkI_s]
  have e1 : ∀ q g, pf 90 M1 q g = pf 90 M q g := fun q g => by rw [← hM1, pf_pf]
  cases q : inr 65 88 (sg tp t (blk tp t p)) with
  | false =>
    rw [if_pos (by rfl), if_neg Bool.false_ne_true]
    simp only [RW.all H.1, H.2.2.2.1, MR, ckk_T, deR_s, deQ_s, deQ_n, bkV_s, bkI_s, bkJ_s, bkQ_s, bkQ_n, ckb0, ckb1, ckb2, ckb3, eq_self, Nat.reduceEqDiff, Nat.reduceLeDiff, Nat.reduceLT, reduceIte, true_or, or_true, not_false_eq_true, not_true_eq_false, and_self, and_true, true_and, LIT, Int32.reduceLT, Int32.reduceLE, Int32.reduceToNatClampNeg]
    rw [r_fails (by omega) H hf (x := 0) (c := 0) rfl, bkV_s, e1]
    have : rts tp t 401 (blk tp t p) 0 = (blk tp t p, 0) := by
      show (if inr 65 88 (sg tp t (blk tp t p)) = true then _ else _) = _
      rw [q, if_neg Bool.false_ne_true]
    rw [this]
  | true =>
    rw [if_neg (by decide), if_pos rfl, r_rts_loop (by omega : 2 ≤ d) 401 _ _ _ (by omega) b2 H, e1]
theorem c_rts_loop {D : Nat} (hD : 1 ≤ D) {t : Nat} {tp : Nat → Nat} {f : Nat} : ∀ (n p : Nat) (a : Int32) (M : ej_Mem), t - p < n → p ≤ t → CLk M t tp p f → rn jm_Clerk_readRights (cal D) 22 [some (.ref 61), some (.int a), some (.int (sI (sg tp t p)))] [] M = some (some (.int (rts tp t n p a).2), pf 61 M (rts tp t n p a).1 f)
  | 0, p, a, M, hn, hp, h => absurd hn (Nat.not_lt_zero _)
  | n + 1, p, a, M, hn, hp, h => by
    have TP := h.2.2.1.1
    have t4 := TP.1
    rw [eq_Clerk_readRights_22]
    simp only [SW.all h.1, h.2.2.1.2.2, h.2.2.2.1, MR, ckk_T, deR_s, deQ_s, deQ_n, bkV_s, bkI_s, bkJ_s, bkQ_s, bkQ_n, ckb0, ckb1, ckb2, ckb3, eq_self, Nat.reduceEqDiff, Nat.reduceLeDiff, Nat.reduceLT, reduceIte, true_or, or_true, not_false_eq_true, not_true_eq_false, and_self, and_true, true_and, LIT, Int32.reduceLT, Int32.reduceLE, Int32.reduceToNatClampNeg]
    unfold rts
    by_cases pt : p < t
    · rw [if_neg (nI_ge pt (by omega)), c_isRight hD (sg_le TP p), bkI_s]
      cases q : inr 65 88 (sg tp t p) with
      | false => rw [if_pos (by rfl), if_neg Bool.false_ne_true, pf_self h.2.2.2.1 h.2.2.2.2]
      | true =>
        have b1 := bl_ge tp t 401 (p + 1)
        have b2 := bl_le tp t 401 (p + 1) (by omega)
        rw [if_neg (by decide), if_pos rfl]
        simp only [SW.all h.1, h.2.2.2.1, nI_1, MR, ckk_T, deR_s, deQ_s, deQ_n, bkV_s, bkI_s, bkJ_s, bkQ_s, bkQ_n, ckb0, ckb1, ckb2, ckb3, eq_self, Nat.reduceEqDiff, Nat.reduceLeDiff, Nat.reduceLT, reduceIte, true_or, or_true, not_false_eq_true, not_true_eq_false, and_self, and_true, true_and, LIT, Int32.reduceLT, Int32.reduceLE, Int32.reduceToNatClampNeg]
        rw [pf_q h.2.2.2.2, c_look hD (h.pf _ _) (by omega), bkI_s, pf_pf]
        have H := h.pf (blk tp t (p + 1)) f
        have L := c_rts_loop (t := t) (tp := tp) (f := f) hD n (blk tp t (p + 1)) (a ||| rb (sg tp t p)) _ (by unfold blk; omega) b2 H
        rw [pf_pf] at L
        exact L
    · have sge : sg tp t p = 256 := by unfold sg; rw [if_neg pt]
      rw [if_pos (nI_le (by omega) (by omega)), sge, if_neg (show ¬ inr 65 88 256 = true by decide), pf_self h.2.2.2.1 h.2.2.2.2]
theorem c_readRights {D : Nat} (hD : 2 ≤ D) {t : Nat} {tp : Nat → Nat} {p f : Nat} {M : ej_Mem} (h : CLk M t tp p f) (hf : f < 2 ^ 30) (hp : p ≤ t) : cal D jm_Clerk_readRights [.ref 61] M = some (some (.int (rts tp t 401 (blk tp t p) 0).2), pf 61 M (rts tp t 401 (blk tp t p) 0).1 (if inr 65 88 (sg tp t (blk tp t p)) = true then f else orF f (flt 0 (blk tp t p)))) := by
  obtain ⟨d, rfl⟩ : ∃ d, D = d + 1 := ⟨D - 1, by omega⟩
  have TP := h.2.2.1.1
  have t4 := TP.1
  have b2 : blk tp t p ≤ t := bl_le tp t 401 p hp
  have bb := blk_blk (tp := tp) (p := p) t4
  rw [ca_Clerk_readRights, eq_Clerk_readRights_0]
  simp only [SW.all h.1, MR, ckk_T, deR_s, deQ_s, deQ_n, bkV_s, bkI_s, bkJ_s, bkQ_s, bkQ_n, ckb0, ckb1, ckb2, ckb3, eq_self, Nat.reduceEqDiff, Nat.reduceLeDiff, Nat.reduceLT, reduceIte, true_or, or_true, not_false_eq_true, not_true_eq_false, and_self, and_true, true_and, LIT, Int32.reduceLT, Int32.reduceLE, Int32.reduceToNatClampNeg]
  rw [c_look (by omega) h (by omega), bkI_s, c_isRight (by omega) (sg_le TP _), bkI_s]
  have H := fun g => h.pf (blk tp t p) g
  have fin : ∀ g, (bkI (cal d jm_Clerk_look [.ref 61] (pf 61 M (blk tp t p) g)) fun x M1 => rn jm_Clerk_readRights (cal d) 22 [some (.ref 61), some (.int 0), some (.int x)] [] M1) = some (some (.int (rts tp t 401 (blk tp t p) 0).2), pf 61 M (rts tp t 401 (blk tp t p) 0).1 g) := by
    intro g
    rw [c_look (by omega) (H g) (by omega), bkI_s, bb, pf_pf, c_rts_loop (by omega : 1 ≤ d) 401 _ _ _ (by omega) b2 (H g), pf_pf]
  cases q : inr 65 88 (sg tp t (blk tp t p)) with
  | false =>
    rw [if_pos (by rfl), if_neg Bool.false_ne_true]
    simp only [SW.all (H f).1, MR, ckk_T, deR_s, deQ_s, deQ_n, bkV_s, bkI_s, bkJ_s, bkQ_s, bkQ_n, ckb0, ckb1, ckb2, ckb3, eq_self, Nat.reduceEqDiff, Nat.reduceLeDiff, Nat.reduceLT, reduceIte, true_or, or_true, not_false_eq_true, not_true_eq_false, and_self, and_true, true_and, LIT, Int32.reduceLT, Int32.reduceLE, Int32.reduceToNatClampNeg]
    rw [c_fail (by omega) (H f) hf (x := 0) (c := 0) rfl, bkV_s, pf_pf]
    simp only [SW.all (H (orF f (flt 0 (blk tp t p)))).1, MR, ckk_T, deR_s, deQ_s, deQ_n, bkV_s, bkI_s, bkJ_s, bkQ_s, bkQ_n, ckb0, ckb1, ckb2, ckb3, eq_self, Nat.reduceEqDiff, Nat.reduceLeDiff, Nat.reduceLT, reduceIte, true_or, or_true, not_false_eq_true, not_true_eq_false, and_self, and_true, true_and, LIT, Int32.reduceLT, Int32.reduceLE, Int32.reduceToNatClampNeg]
    exact fin _
  | true =>
    rw [if_neg (by decide), if_pos rfl]
    simp only [SW.all (H f).1, MR, ckk_T, deR_s, deQ_s, deQ_n, bkV_s, bkI_s, bkJ_s, bkQ_s, bkQ_n, ckb0, ckb1, ckb2, ckb3, eq_self, Nat.reduceEqDiff, Nat.reduceLeDiff, Nat.reduceLT, reduceIte, true_or, or_true, not_false_eq_true, not_true_eq_false, and_self, and_true, true_and, LIT, Int32.reduceLT, Int32.reduceLE, Int32.reduceToNatClampNeg]
    exact fin f
/-! numbers -/
def dg (tp : Nat → Nat) (t b : Nat) : Nat → Nat → Nat → Nat × Nat
  | 0, k, v => (k, v)
  | n + 1, k, v => if inr 48 57 (sg tp t (b + k)) = true then dg tp t b n (k + 1) (if k < 5 then 10 * v + sg tp t (b + k) - 48 else v) else (k, v)
def num (tp : Nat → Nat) (t b : Nat) : Nat × Nat := dg tp t b 401 0 0
def pw (k : Nat) : Nat := if k = 0 then 1 else if k = 1 then 10 else if k = 2 then 100 else if k = 3 then 1000 else if k = 4 then 10000 else 100000
theorem pw_5 {k : Nat} (h : 5 ≤ k) : pw k = 100000 := by
  unfold pw
  rw [if_neg (by omega), if_neg (by omega), if_neg (by omega), if_neg (by omega), if_neg (by omega)]
theorem pw_s : ∀ k, k < 5 → pw (k + 1) = 10 * pw k := by decide
theorem pw_le (k : Nat) : pw k ≤ 100000 := by
  by_cases q : k < 5
  · have : k = 0 ∨ k = 1 ∨ k = 2 ∨ k = 3 ∨ k = 4 := by omega
    rcases this with rfl | rfl | rfl | rfl | rfl <;> decide
  · rw [pw_5 (by omega)]; exact Nat.le_refl _
theorem dg_st {tp : Nat → Nat} {t b k v : Nat} (hv : v < pw k) (h : inr 48 57 (sg tp t (b + k)) = true) : (if k < 5 then 10 * v + sg tp t (b + k) - 48 else v) < pw (k + 1) := by
  have := of_decide_eq_true h
  by_cases q : k < 5
  · rw [if_pos q, pw_s k q]; omega
  · rw [if_neg q, pw_5 (by omega)]; have := pw_le k; omega
theorem dg_ok (tp : Nat → Nat) (t b : Nat) : ∀ n k v, b + k ≤ t → v < pw k → (dg tp t b n k v).2 < 100000 ∧ b + (dg tp t b n k v).1 ≤ t ∧ k ≤ (dg tp t b n k v).1
  | 0, k, v, h, hv => ⟨by have := pw_le k; show v < _; omega, h, Nat.le_refl _⟩
  | n + 1, k, v, h, hv => by
    unfold dg
    split
    · rename_i q
      have pt := inr_lt (by decide) q
      have := dg_ok tp t b n (k + 1) _ (by omega) (dg_st hv q)
      exact ⟨this.1, this.2.1, by omega⟩
    · exact ⟨by have := pw_le k; show v < _; omega, h, Nat.le_refl _⟩
theorem nI_dig {v c : Nat} (hc : 48 ≤ c) : (10 : Int32) * nI v + nI c - 48 = nI (10 * v + c - 48) := by
  rw [show (10 : Int32) = nI 10 from rfl, show (48 : Int32) = nI 48 from rfl, pk_mul, nI_add, pk_sub (by omega)]
theorem r_dg_loop {D : Nat} (hD : 2 ≤ D) {t : Nat} {tp : Nat → Nat} {b f most : Nat} (hm : most < 100000) (hf : f < 2 ^ 30) : ∀ (n k v : Nat) (M : ej_Mem), t - (b + k) < n → b + k ≤ t → v < pw k → RL M t tp (b + k) f → rn jm_Ref_digits (cal D) 25 [some (.ref 90), some (.int (nI most)), some (.int (nI b)), some (.int (nI v))] [] M = some (some (.int (nI (dg tp t b n k v).2)), pf 90 M (b + (dg tp t b n k v).1) (if 5 < (dg tp t b n k v).1 ∨ most < (dg tp t b n k v).2 then orF f (flt 1 b) else f))
  | 0, k, v, M, hn, _, _, _ => absurd hn (Nat.not_lt_zero _)
  | n + 1, k, v, M, hn, hk, hv, h => by
    have t4 := h.2.2.1.1.1
    have pl := pw_le k
    rw [eq_Ref_digits_25]
    simp only [RW.all h.1, MR, ckk_T, deR_s, deQ_s, deQ_n, bkV_s, bkI_s, bkJ_s, bkQ_s, bkQ_n, ckb0, ckb1, ckb2, ckb3, eq_self, Nat.reduceEqDiff, Nat.reduceLeDiff, Nat.reduceLT, reduceIte, true_or, or_true, not_false_eq_true, not_true_eq_false, and_self, and_true, true_and, LIT, Int32.reduceLT, Int32.reduceLE, Int32.reduceToNatClampNeg]
    rw [r_isDigit hD h (by omega), bkI_s]
    unfold dg
    cases q : inr 48 57 (sg tp t (b + k)) with
    | false =>
      rw [if_pos (by rfl), if_neg Bool.false_ne_true]
      simp only [RW.all h.1, h.2.2.2.1, pk_sub (show b ≤ b + k by omega), MR, ckk_T, deR_s, deQ_s, deQ_n, bkV_s, bkI_s, bkJ_s, bkQ_s, bkQ_n, ckb0, ckb1, ckb2, ckb3, eq_self, Nat.reduceEqDiff, Nat.reduceLeDiff, Nat.reduceLT, reduceIte, true_or, or_true, not_false_eq_true, not_true_eq_false, and_self, and_true, true_and, LIT, Int32.reduceLT, Int32.reduceLE, Int32.reduceToNatClampNeg]
      rw [show b + k - b = k by omega]
      have F := r_fails (by omega : 1 ≤ D) h hf (x := 1) (c := 1) (q := b) rfl
      have F' : cal D jm_Ref_fails [.ref 90, .int 1, .int (nI b)] M = _ := F
      by_cases c1 : 5 < k
      · rw [if_pos (show (5 : Int32) < nI k from nI_lt (a := 5) c1 (by omega)), F', bkV_s, if_pos (Or.inl c1)]
      · rw [if_neg (show ¬ (5 : Int32) < nI k from nI_nlt (b := k) (a := 5) (by omega) (by decide))]
        by_cases c2 : most < v
        · rw [if_neg (nI_ge c2 (by omega)), F', bkV_s, if_pos (Or.inr c2)]
        · rw [if_pos (nI_le (by omega) (by omega)), if_neg (by omega), pf_self h.2.2.2.1 h.2.2.2.2]
    | true =>
      have pt := inr_lt (by decide) q
      have dq := of_decide_eq_true q
      have st := dg_st (b := b) hv q
      rw [if_neg (by decide), if_pos rfl]
      simp only [RW.all h.1, h.2.2.2.1, pk_sub (show b ≤ b + k by omega), nI_1, MR, ckk_T, deR_s, deQ_s, deQ_n, bkV_s, bkI_s, bkJ_s, bkQ_s, bkQ_n, ckb0, ckb1, ckb2, ckb3, eq_self, Nat.reduceEqDiff, Nat.reduceLeDiff, Nat.reduceLT, reduceIte, true_or, or_true, not_false_eq_true, not_true_eq_false, and_self, and_true, true_and, LIT, Int32.reduceLT, Int32.reduceLE, Int32.reduceToNatClampNeg]
      rw [show b + k - b = k by omega]
      have H := h.pf (b + (k + 1)) f
      have IH := fun w hw => r_dg_loop (t := t) (tp := tp) (b := b) (f := f) (most := most) hD hm hf n (k + 1) w _ (by omega) (by omega) hw H
      simp only [pf_pf] at IH
      by_cases c1 : k < 5
      · rw [if_neg (show ¬ (5 : Int32) ≤ nI k from nI_ge (b := 5) c1 (by decide)), r_sign (by omega) h (by omega), bkI_s, sI_lit (by omega)]
        simp only [RW.all h.1, h.2.2.2.1, nI_1, nI_dig dq.1, MR, ckk_T, deR_s, deQ_s, deQ_n, bkV_s, bkI_s, bkJ_s, bkQ_s, bkQ_n, ckb0, ckb1, ckb2, ckb3, eq_self, Nat.reduceEqDiff, Nat.reduceLeDiff, Nat.reduceLT, reduceIte, true_or, or_true, not_false_eq_true, not_true_eq_false, and_self, and_true, true_and, LIT, Int32.reduceLT, Int32.reduceLE, Int32.reduceToNatClampNeg]
        rw [if_pos c1] at st ⊢
        rw [pf_q h.2.2.2.2]
        exact IH _ st
      · rw [if_pos (show (5 : Int32) ≤ nI k from nI_le (a := 5) (by omega) (by omega))]
        rw [if_neg c1] at st ⊢
        rw [pf_q h.2.2.2.2]
        exact IH _ st
/-- the fault that a number leaves -/
def nmF (tp : Nat → Nat) (t most p f : Nat) : Nat := if (num tp t (blk tp t p)).1 = 0 then orF f (flt 0 (blk tp t p)) else if 5 < (num tp t (blk tp t p)).1 ∨ most < (num tp t (blk tp t p)).2 then orF f (flt 1 (blk tp t p)) else f
theorem num_0 {tp : Nat → Nat} {t b : Nat} (h : inr 48 57 (sg tp t b) = false) : num tp t b = (0, 0) := by
  show (if inr 48 57 (sg tp t (b + 0)) = true then _ else _) = _
  rw [Nat.add_zero, h, if_neg Bool.false_ne_true]
theorem num_1 {tp : Nat → Nat} {t b : Nat} (h : inr 48 57 (sg tp t b) = true) : (num tp t b).1 ≠ 0 := by
  have pt := inr_lt (by decide) h
  have e : num tp t b = dg tp t b 400 1 (if 0 < 5 then 10 * 0 + sg tp t b - 48 else 0) := by
    show (if inr 48 57 (sg tp t (b + 0)) = true then _ else _) = _
    rw [Nat.add_zero, h, if_pos rfl]
  rw [e]
  have := (dg_ok tp t b 400 1 (if 0 < 5 then 10 * 0 + sg tp t b - 48 else 0) (by omega) (by have := dg_st (tp := tp) (t := t) (b := b) (k := 0) (v := 0) (by decide) h; exact this)).2.2
  omega
theorem r_amount {D : Nat} (hD : 4 ≤ D) {t : Nat} {tp : Nat → Nat} {p f : Nat} {M : ej_Mem} (h : RL M t tp p f) (hf : f < 2 ^ 30) (hp : p ≤ t) {x : Int32} {most : Nat} (hx : x = nI most) (hm : most < 100000) : cal D jm_Ref_amount [.ref 90, .int x] M = some (some (.int (nI (num tp t (blk tp t p)).2)), pf 90 M (blk tp t p + (num tp t (blk tp t p)).1) (nmF tp t most p f)) := by
  obtain ⟨d, rfl⟩ : ∃ d, D = d + 1 + 1 := ⟨D - 2, by omega⟩
  subst hx
  have t4 := h.2.2.1.1.1
  have b2 : blk tp t p ≤ t := bl_le tp t 401 p hp
  rw [ca_Ref_amount, eq_Ref_amount_0]
  rw [ckk_t (RW.all h.1).1, r_blanks (by omega) h (by omega), bkV_s]
  have H := h.pf (blk tp t p) f
  generalize hM1 : pf 90 M (blk tp t p) f = M1 at *
  have e1 : ∀ q g, pf 90 M1 q g = pf 90 M q g := fun q g => by rw [← hM1, pf_pf]
  rw [ckk_t (RW.all H.1).1, ca_Ref_digits, eq_Ref_digits_0]
  rw [ckk_t (RW.all H.1).1, r_isDigit (by omega) H (by omega), bkI_s]
  unfold nmF
  cases q : inr 48 57 (sg tp t (blk tp t p)) with
  | false =>
    rw [if_pos (by rfl), num_0 q, if_pos rfl, ckk_t (RW.all H.1).1, ckk_t (RW.all H.1).1, H.2.2.2.1]
    rw [r_fails (by omega) H hf (x := 0) (c := 0) rfl, bkV_s, bkI_s, e1]; rfl
  | true =>
    rw [if_neg (by decide), if_neg (num_1 q), ckk_t (RW.all H.1).1, H.2.2.2.1]
    have L := r_dg_loop (by omega : 2 ≤ d) hm hf (b := blk tp t p) 401 0 0 M1 (by omega) (by omega) (by decide) H
    have L' : rn jm_Ref_digits (cal d) 25 [some (.ref 90), some (.int (nI most)), some (.int (nI (blk tp t p))), some (.int 0)] [] M1 = _ := L
    rw [L', bkI_s, e1]; rfl
theorem c_dg_loop {D : Nat} (hD : 1 ≤ D) {t : Nat} {tp : Nat → Nat} {b f most : Nat} {M : ej_Mem} (h : CLk M t tp b f) : ∀ (n k v : Nat), t - (b + k) < n → b + k ≤ t → v < pw k → rn jm_Clerk_readNumber (cal D) 19 [some (.ref 61), some (.int (nI most)), some (.int (nI v)), some (.int (nI k))] [] M = rn jm_Clerk_readNumber (cal D) 80 [some (.ref 61), some (.int (nI most)), some (.int (nI (dg tp t b n k v).2)), some (.int (nI (dg tp t b n k v).1))] [] M
  | 0, k, v, hn, _, _ => absurd hn (Nat.not_lt_zero _)
  | n + 1, k, v, hn, hk, hv => by
    have TP := h.2.2.1.1
    have t4 := TP.1
    have tc := h.2.2.1.2.1
    rw [eq_Clerk_readNumber_19]
    simp only [SW.all h.1, h.2.2.1.2.2, h.2.2.2.1, nI_add, MR, ckk_T, deR_s, deQ_s, deQ_n, bkV_s, bkI_s, bkJ_s, bkQ_s, bkQ_n, ckb0, ckb1, ckb2, ckb3, eq_self, Nat.reduceEqDiff, Nat.reduceLeDiff, Nat.reduceLT, reduceIte, true_or, or_true, not_false_eq_true, not_true_eq_false, and_self, and_true, true_and, LIT, Int32.reduceLT, Int32.reduceLE, Int32.reduceToNatClampNeg]
    unfold dg
    by_cases pt : b + k < t
    · rw [if_neg (nI_ge pt (by omega)), ckb_n (by omega) (by decide), nI_clamp (by omega), tc.2.2.2 _ pt, ← sgb TP pt, c_isDigit hD (sg_le TP _), bkI_s]
      cases q : inr 48 57 (sg tp t (b + k)) with
      | false => rw [if_pos (by rfl), if_neg Bool.false_ne_true]
      | true =>
        have dq := of_decide_eq_true q
        have st := dg_st (b := b) hv q
        have IH := fun w hw => c_dg_loop (t := t) (tp := tp) (b := b) (f := f) (most := most) hD h n (k + 1) w (by omega) (by omega) hw
        rw [if_neg (by decide), if_pos rfl]
        by_cases c1 : k < 5
        · rw [if_neg (show ¬ (5 : Int32) ≤ nI k from nI_ge (b := 5) c1 (by decide))]
          simp only [SW.all h.1, h.2.2.2.1, nI_add, MR, ckk_T, deR_s, deQ_s, deQ_n, bkV_s, bkI_s, bkJ_s, bkQ_s, bkQ_n, ckb0, ckb1, ckb2, ckb3, eq_self, Nat.reduceEqDiff, Nat.reduceLeDiff, Nat.reduceLT, reduceIte, true_or, or_true, not_false_eq_true, not_true_eq_false, and_self, and_true, true_and, LIT, Int32.reduceLT, Int32.reduceLE, Int32.reduceToNatClampNeg]
          rw [ckb_n (by omega) (by decide), eq_Clerk_readNumber_74, nI_clamp (by omega), tc.2.2.2 _ pt, nI_1]
          have e : nI v * 10 + nI (tp (b + k)) - 48 = nI (10 * v + sg tp t (b + k) - 48) := by
            rw [Int32.mul_comm, show tp (b + k) = sg tp t (b + k) from (sg_in pt rfl).symm, nI_dig dq.1]
          rw [if_pos c1] at st ⊢
          rw [e]
          exact IH _ st
        · rw [if_pos (show (5 : Int32) ≤ nI k from nI_le (a := 5) (by omega) (by omega)), eq_Clerk_readNumber_74, nI_1]
          rw [if_neg c1] at st ⊢
          exact IH _ st
    · have sge : sg tp t (b + k) = 256 := by unfold sg; rw [if_neg pt]
      rw [if_pos (nI_le (by omega) (by omega)), sge, if_neg (show ¬ inr 48 57 256 = true by decide)]
theorem c_readNumber {D : Nat} (hD : 2 ≤ D) {t : Nat} {tp : Nat → Nat} {p f : Nat} {M : ej_Mem} (h : CLk M t tp p f) (hf : f < 2 ^ 30) (hp : p ≤ t) {x : Int32} {most : Nat} (hx : x = nI most) (hm : most < 100000) : ∃ p' v, cal D jm_Clerk_readNumber [.ref 61, .int x] M = some (some (.int (nI v)), pf 61 M p' (nmF tp t most p f)) ∧ blk tp t p ≤ p' ∧ p' ≤ t ∧ v ≤ most ∧ (¬ (5 < (num tp t (blk tp t p)).1 ∨ most < (num tp t (blk tp t p)).2) → p' = blk tp t p + (num tp t (blk tp t p)).1 ∧ v = (num tp t (blk tp t p)).2) := by
  obtain ⟨d, rfl⟩ : ∃ d, D = d + 1 := ⟨D - 1, by omega⟩
  subst hx
  have TP := h.2.2.1.1
  have t4 := TP.1
  have b2 : blk tp t p ≤ t := bl_le tp t 401 p hp
  have ok := dg_ok tp t (blk tp t p) 401 0 0 (by omega) (by decide)
  have ok1 : (num tp t (blk tp t p)).2 < 100000 := ok.1
  have ok2 : blk tp t p + (num tp t (blk tp t p)).1 ≤ t := ok.2.1
  rw [ca_Clerk_readNumber, eq_Clerk_readNumber_0]
  simp only [SW.all h.1, MR, ckk_T, deR_s, deQ_s, deQ_n, bkV_s, bkI_s, bkJ_s, bkQ_s, bkQ_n, ckb0, ckb1, ckb2, ckb3, eq_self, Nat.reduceEqDiff, Nat.reduceLeDiff, Nat.reduceLT, reduceIte, true_or, or_true, not_false_eq_true, not_true_eq_false, and_self, and_true, true_and, LIT, Int32.reduceLT, Int32.reduceLE, Int32.reduceToNatClampNeg]
  rw [c_look (by omega) h (by omega), bkI_s, c_isDigit (by omega) (sg_le TP _), bkI_s]
  have H := fun g => h.pf (blk tp t p) g
  have fin : ∀ g, g < 2 ^ 30 → ∃ p' v, rn jm_Clerk_readNumber (cal d) 15 [some (.ref 61), some (.int (nI most)), none, none] [] (pf 61 M (blk tp t p) g) = some (some (.int (nI v)), pf 61 M p' (if 5 < (num tp t (blk tp t p)).1 ∨ most < (num tp t (blk tp t p)).2 then orF g (flt 1 (blk tp t p)) else g)) ∧ blk tp t p ≤ p' ∧ p' ≤ t ∧ v ≤ most ∧ (¬ (5 < (num tp t (blk tp t p)).1 ∨ most < (num tp t (blk tp t p)).2) → p' = blk tp t p + (num tp t (blk tp t p)).1 ∧ v = (num tp t (blk tp t p)).2) := by
    intro g hg
    have L := c_dg_loop (most := most) (by omega : 1 ≤ d) (H g) 401 0 0 (by omega) (by omega) (by decide)
    have L' : rn jm_Clerk_readNumber (cal d) 19 [some (.ref 61), some (.int (nI most)), some (.int 0), some (.int 0)] [] (pf 61 M (blk tp t p) g) = rn jm_Clerk_readNumber (cal d) 80 [some (.ref 61), some (.int (nI most)), some (.int (nI (num tp t (blk tp t p)).2)), some (.int (nI (num tp t (blk tp t p)).1))] [] (pf 61 M (blk tp t p) g) := L
    rw [eq_Clerk_readNumber_15, L', eq_Clerk_readNumber_80]
    have bad : ∃ p' v, rn jm_Clerk_readNumber (cal d) 90 [some (.ref 61), some (.int (nI most)), some (.int (nI (num tp t (blk tp t p)).2)), some (.int (nI (num tp t (blk tp t p)).1))] [] (pf 61 M (blk tp t p) g) = some (some (.int (nI v)), pf 61 M p' (orF g (flt 1 (blk tp t p)))) ∧ blk tp t p ≤ p' ∧ p' ≤ t ∧ v ≤ most := by
      refine ⟨blk tp t p, 0, ?_, Nat.le_refl _, b2, Nat.zero_le _⟩
      rw [eq_Clerk_readNumber_90]
      simp only [SW.all (H g).1, MR, ckk_T, deR_s, deQ_s, deQ_n, bkV_s, bkI_s, bkJ_s, bkQ_s, bkQ_n, ckb0, ckb1, ckb2, ckb3, eq_self, Nat.reduceEqDiff, Nat.reduceLeDiff, Nat.reduceLT, reduceIte, true_or, or_true, not_false_eq_true, not_true_eq_false, and_self, and_true, true_and, LIT, Int32.reduceLT, Int32.reduceLE, Int32.reduceToNatClampNeg]
      rw [c_fail (by omega) (H g) hg (x := 1) (c := 1) rfl, bkV_s, pf_pf]; rfl
    by_cases c1 : 5 < (num tp t (blk tp t p)).1
    · rw [if_pos (show (5 : Int32) < nI (num tp t (blk tp t p)).1 from nI_lt (a := 5) c1 (by omega)), if_pos (Or.inl c1)]
      obtain ⟨p', v, e, a1, a2, a3⟩ := bad
      exact ⟨p', v, e, a1, a2, a3, fun z => absurd (Or.inl c1) z⟩
    · rw [if_neg (show ¬ (5 : Int32) < nI (num tp t (blk tp t p)).1 from nI_nlt (a := 5) (by omega) (by decide))]
      by_cases c2 : most < (num tp t (blk tp t p)).2
      · rw [if_neg (nI_ge c2 (by omega)), if_pos (Or.inr c2)]
        obtain ⟨p', v, e, a1, a2, a3⟩ := bad
        exact ⟨p', v, e, a1, a2, a3, fun z => absurd (Or.inr c2) z⟩
      · rw [if_pos (nI_le (by omega) (by omega)), if_neg (by omega)]
        simp only [SW.all (H g).1, (H g).2.2.2.1, nI_add, MR, ckk_T, deR_s, deQ_s, deQ_n, bkV_s, bkI_s, bkJ_s, bkQ_s, bkQ_n, ckb0, ckb1, ckb2, ckb3, eq_self, Nat.reduceEqDiff, Nat.reduceLeDiff, Nat.reduceLT, reduceIte, true_or, or_true, not_false_eq_true, not_true_eq_false, and_self, and_true, true_and, LIT, Int32.reduceLT, Int32.reduceLE, Int32.reduceToNatClampNeg]
        rw [pf_s2]
        exact ⟨_, _, rfl, by omega, ok2, by omega, fun _ => ⟨rfl, rfl⟩⟩
  unfold nmF
  cases q : inr 48 57 (sg tp t (blk tp t p)) with
  | false =>
    rw [if_pos (by rfl), if_pos (by rw [num_0 q])]
    simp only [SW.all (H f).1, MR, ckk_T, deR_s, deQ_s, deQ_n, bkV_s, bkI_s, bkJ_s, bkQ_s, bkQ_n, ckb0, ckb1, ckb2, ckb3, eq_self, Nat.reduceEqDiff, Nat.reduceLeDiff, Nat.reduceLT, reduceIte, true_or, or_true, not_false_eq_true, not_true_eq_false, and_self, and_true, true_and, LIT, Int32.reduceLT, Int32.reduceLE, Int32.reduceToNatClampNeg]
    rw [c_fail (by omega) (H f) hf (x := 0) (c := 0) rfl, bkV_s, pf_pf]
    obtain ⟨p', v, e, a⟩ := fin (orF f (flt 0 (blk tp t p))) (by unfold orF flt; split <;> omega)
    rw [num_0 q, if_neg (show ¬ (5 < 0 ∨ most < 0) by omega)] at e
    exact ⟨p', v, e, a⟩
  | true =>
    rw [if_neg (by decide), if_neg (num_1 q)]
    exact fin f hf
