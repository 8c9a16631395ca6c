/-! the class reads a test: its loop -/
theorem opF_le (f : Frm) : ∀ x, x ∈ opF f → x ≤ 3 := by
  intro x h
  unfold opF at h
  rcases List.mem_append.mp h with h | h
  · have := (List.mem_replicate.mp h).2; omega
  · rcases List.mem_append.mp h with h | h
    · split at h
      · have := List.mem_singleton.mp h; omega
      · cases h
    · split at h
      · have := List.mem_singleton.mp h; omega
      · cases h
theorem ops_le : ∀ (fs : List Frm) (f : Frm) (x : Nat), x ∈ ops f fs → x ≤ 3
  | [], f, x, h => opF_le f x h
  | g :: gs, f, x, h => by
    unfold ops at h
    rcases List.mem_append.mp h with h | h
    · exact opF_le f x h
    · rcases List.mem_cons.mp h with h | h
      · omega
      · exact ops_le gs g x h
theorem ops_h (o a : Option Prd) (fs : List Frm) : (ops (o, a, 0) fs).head? ≠ some 3 := by
  cases a <;> cases o <;> cases fs <;> simp [ops, opF]
theorem eo_k (o a : Option Prd) (fs : List Frm) : ops (o, a, 0) fs = (if a.isSome = true then [2] else []) ++ ((if o.isSome = true then [1] else []) ++ tlO fs) := by rw [ops_tl, ← List.append_assoc]; rfl
theorem ep_k (o a : Option Prd) (fs : List Frm) : pcs (o, a, 0) fs = oL a ++ (oL o ++ tlP fs) := by rw [pcs_tl, ← List.append_assoc, pcF_L]
theorem tlO_h (fs : List Frm) (x : Nat) (h : (tlO fs).head? = some x) : x < 1 := by
  cases fs with
  | nil => cases h
  | cons g gs => cases h; decide
theorem tlP_len (f : Frm) (fs : List Frm) : (tlP fs).length ≤ (pcs f fs).length := by rw [pcs_tl, List.length_append]; omega
/-- the last of a test -/
noncomputable def endT (D : Nat) (l1 l2 : Int32) (M : ej_Mem) : Option ej_R :=
  (ckk (mC M 61 = 0) ((if (mI M 61 12) ≤ (0 : Int32) then
          (ckk (mC M 61 = 0) ((if (mI M 61 3) = (0 : Int32) then
            (ckk (mC M 61 = 0) (bkV ((cal D) jm_Clerk_joinDownTo [.ref 61, .int (1 : Int32)] M) fun M14 =>
            ckk (mC M14 61 = 0) (deR (mR M14 61 14) fun q15 => ckk (mC M14 q15 = 100) (ckb (0 : Int32) (mN M14 q15) (ckk (mC M14 61 = 0) (bkV ((cal D) jm_Clerk_fillHoles [.ref 61, .int (aI M14 q15 (Int32.toNatClampNeg (0 : Int32))), .int l1] M14) fun M16 =>
            ckk (mC M16 61 = 0) (deR (mR M16 61 15) fun q17 => ckk (mC M16 q17 = 100) (ckb (0 : Int32) (mN M16 q17) (ckk (mC M16 61 = 0) (bkV ((cal D) jm_Clerk_fillHoles [.ref 61, .int (aI M16 q17 (Int32.toNatClampNeg (0 : Int32))), .int l2] M16) fun M18 =>
            ckk (mC M18 61 = 0) (deR (mR M18 61 13) fun q19 => ckk (mC M18 q19 = 100) (ckb (0 : Int32) (mN M18 q19) (some (some (.int (aI M18 q19 (Int32.toNatClampNeg (0 : Int32)))), M18)))))))))))))) else
            (some (some (.int (-2 : Int32)), M))))) else
          (ckk (mC M 61 = 0) (bkV ((cal D) jm_Clerk_fail [.ref 61, .int (0 : Int32)] M) fun M20 =>
          ckk (mC M20 61 = 0) ((if (mI M20 61 3) = (0 : Int32) then
            (ckk (mC M20 61 = 0) (bkV ((cal D) jm_Clerk_joinDownTo [.ref 61, .int (1 : Int32)] M20) fun M21 =>
            ckk (mC M21 61 = 0) (deR (mR M21 61 14) fun q22 => ckk (mC M21 q22 = 100) (ckb (0 : Int32) (mN M21 q22) (ckk (mC M21 61 = 0) (bkV ((cal D) jm_Clerk_fillHoles [.ref 61, .int (aI M21 q22 (Int32.toNatClampNeg (0 : Int32))), .int l1] M21) fun M23 =>
            ckk (mC M23 61 = 0) (deR (mR M23 61 15) fun q24 => ckk (mC M23 q24 = 100) (ckb (0 : Int32) (mN M23 q24) (ckk (mC M23 61 = 0) (bkV ((cal D) jm_Clerk_fillHoles [.ref 61, .int (aI M23 q24 (Int32.toNatClampNeg (0 : Int32))), .int l2] M23) fun M25 =>
            ckk (mC M25 61 = 0) (deR (mR M25 61 13) fun q26 => ckk (mC M25 q26 = 100) (ckb (0 : Int32) (mN M25 q26) (some (some (.int (aI M25 q26 (Int32.toNatClampNeg (0 : Int32)))), M25)))))))))))))) else
            (some (some (.int (-2 : Int32)), M20)))))))))
theorem CDd.fr {M : ej_Mem} {t : Nat} {tp : Nat → Nat} {g : Nat} (h : CDd M t tp g) : SW M ∧ mI M 61 3 = nI g ∧ nI g ≠ 0 := by
  obtain ⟨g0, gb, p, hp, H⟩ := h
  exact ⟨H.1, H.2.2.2.2, nI_ne0 (by omega) (by omega)⟩
theorem e_dead {D : Nat} (hD : 1 ≤ D) {M : ej_Mem} {t : Nat} {tp : Nat → Nat} {g lo0 : Nat} (h : CDd M t tp g) (l1 l2 : Int32) : ∃ M', endT D l1 l2 M = some (some (.int (-2)), M') ∧ Fr (Pk lo0) M M' ∧ CDd M' t tp g := by
  have h0 := h
  obtain ⟨g0, gb, p, hp, H⟩ := h
  unfold endT
  simp only [SW.all H.1, H.2.2.2.2, MR, ckk_T, deR_s, deQ_s, deQ_n, bkV_s, bkI_s, bkJ_s, bkQ_s, bkQ_n, ckb0, ckb1, ckb2, ckb3, eq_self, Nat.reduceEqDiff, Nat.reduceLeDiff, Nat.reduceLT, reduceIte, true_or, or_true, not_false_eq_true, not_true_eq_false, and_self, and_true, true_and, LIT, Int32.reduceLT, Int32.reduceLE, Int32.reduceToNatClampNeg]
  have gn : ¬ nI g = 0 := nI_ne0 (by omega) (by omega)
  by_cases z : mI M 61 12 ≤ 0
  · rw [if_pos z, if_neg gn]
    exact ⟨M, rfl, Fr.refl _ M, h0⟩
  · rw [if_neg z, c_fail hD H gb (x := 0) (c := 0) rfl, bkV_s]
    have e : orF g (flt 0 p) = g := by unfold orF; rw [if_neg g0]
    rw [e]
    have H2 := H.pf p g
    simp only [SW.all H2.1, H2.2.2.2.2, MR, ckk_T, deR_s, deQ_s, deQ_n, bkV_s, bkI_s, bkJ_s, bkQ_s, bkQ_n, ckb0, ckb1, ckb2, ckb3, eq_self, Nat.reduceEqDiff, Nat.reduceLeDiff, Nat.reduceLT, reduceIte, true_or, or_true, not_false_eq_true, not_true_eq_false, and_self, and_true, true_and, LIT, Int32.reduceLT, Int32.reduceLE, Int32.reduceToNatClampNeg]
    rw [if_neg gn]
    exact ⟨_, rfl, pf_Pk lo0 _ _ _, g0, gb, p, hp, H2⟩
theorem e_open {D : Nat} (hD : 1 ≤ D) {M : ej_Mem} {t : Nat} {tp : Nat → Nat} {q br lo0 : Nat} (h : CLk M t tp q 0) (hq : q ≤ t) (hb : mI M 61 12 = nI (br + 1)) (hb2 : br < 100) (l1 l2 : Int32) : ∃ M', endT D l1 l2 M = some (some (.int (-2)), M') ∧ Fr (Pk lo0) M M' ∧ CDd M' t tp (flt 0 q) := by
  have t4 := h.2.2.1.1.1
  unfold endT
  simp only [SW.all h.1, hb, MR, ckk_T, deR_s, deQ_s, deQ_n, bkV_s, bkI_s, bkJ_s, bkQ_s, bkQ_n, ckb0, ckb1, ckb2, ckb3, eq_self, Nat.reduceEqDiff, Nat.reduceLeDiff, Nat.reduceLT, reduceIte, true_or, or_true, not_false_eq_true, not_true_eq_false, and_self, and_true, true_and, LIT, Int32.reduceLT, Int32.reduceLE, Int32.reduceToNatClampNeg]
  rw [if_neg (nI_nle (by omega) (by omega)), c_fail hD h (by decide) (x := 0) (c := 0) rfl, bkV_s]
  have H2 := h.pf q (orF 0 (flt 0 q))
  simp only [SW.all H2.1, H2.2.2.2.2, MR, ckk_T, deR_s, deQ_s, deQ_n, bkV_s, bkI_s, bkJ_s, bkQ_s, bkQ_n, ckb0, ckb1, ckb2, ckb3, eq_self, Nat.reduceEqDiff, Nat.reduceLeDiff, Nat.reduceLT, reduceIte, true_or, or_true, not_false_eq_true, not_true_eq_false, and_self, and_true, true_and, LIT, Int32.reduceLT, Int32.reduceLE, Int32.reduceToNatClampNeg]
  rw [if_neg (nI_ne0 (by have := flt_pos 0 q; show 0 < flt 0 q; omega) (by show flt 0 q < _; unfold flt; omega))]
  exact ⟨_, rfl, pf_Pk lo0 _ _ _, flt_pos 0 q, by unfold flt; omega, q, hq, H2⟩
def TstC (M M' : ej_Mem) (t : Nat) (tp : Nat → Nat) (lo0 : Nat) (yes no : Int32) (r : Nat ⊕ (Nat × Prd × Nat)) (x : Int32) : Prop := Fr (Pk lo0) M M' ∧ match r with
  | .inl g => CDd M' t tp g
  | .inr (p', w, c') => x = nI (5 * lo0) ∧ CLk M' t tp p' 0 ∧ mI M' 61 6 = nI (5 * c') ∧ lo0 < c' ∧ c' ≤ 60 ∧ p' ≤ t ∧ (∀ s, ∃ i, i ≤ c' - lo0 ∧ Go (aI M' 62) s i (nI (5 * lo0)) (if w s = true then yes else no)) ∧ ∀ i, lo0 ≤ i → i < c' → ∀ k, (k = 5 * i + 3 ∨ k = 5 * i + 4) → (∃ j, lo0 ≤ j ∧ j < c' ∧ aI M' 62 k = nI (5 * j)) ∨ aI M' 62 k = yes ∨ aI M' 62 k = no
theorem TstC.after {M M1 M' : ej_Mem} {t : Nat} {tp : Nat → Nat} {lo0 : Nat} {yes no : Int32} {r : Nat ⊕ (Nat × Prd × Nat)} {x : Int32} (f : Fr (Pk lo0) M M1) (h : TstC M1 M' t tp lo0 yes no r x) : TstC M M' t tp lo0 yes no r x := ⟨f.trans h.1, h.2⟩
theorem flF_fr {M : ej_Mem} {lo0 c : Nat} {l : List Nat} (hl : ∀ x, x ∈ l → 5 * lo0 ≤ x ∧ x < 5 * c) (v : Int32) : Fr (fun o k => o = 62 ∧ 5 * lo0 ≤ k) M (setF M 62 (flF (aI M 62) l v)) := by
  refine ⟨rfl, rfl, rfl, rfl, rfl, rfl, rfl, fun _ _ _ => rfl, fun o k q => ?_⟩
  show (if o = 62 then flF (aI M 62) l v else aI M o) k = aI M o k
  by_cases e : o = 62
  · subst e
    rw [if_pos rfl]
    unfold flF
    rw [if_neg (fun z => by have := hl k z; omega)]
  · rw [if_neg e]
theorem e_good {D : Nat} (hD : 2 ≤ D) {M : ej_Mem} {t : Nat} {tp : Nat → Nat} {q dp c lo0 : Nat} {o a : Option Prd} {w : Prd} (h : CXk M t tp q dp 0 c (ops (o, a, 0) []) (w :: pcs (o, a, 0) []) lo0) (hq : q ≤ t) (hc : c ≤ 60) (yes no : Int32) : ∃ M' x, endT D yes no M = some (some (.int x), M') ∧ TstC M M' t tp lo0 yes no (.inr (q, orv o (andv a w), c)) x := by
  have H := h.1
  have a12 := h.2.1.2.2.2.1
  have ef : mI M 61 3 = 0 := H.2.2.2.2
  unfold endT
  simp only [SW.all H.1, a12, ef, MR, ckk_T, deR_s, deQ_s, deQ_n, bkV_s, bkI_s, bkJ_s, bkQ_s, bkQ_n, ckb0, ckb1, ckb2, ckb3, eq_self, Nat.reduceEqDiff, Nat.reduceLeDiff, Nat.reduceLT, reduceIte, true_or, or_true, not_false_eq_true, not_true_eq_false, and_self, and_true, true_and, LIT, Int32.reduceLT, Int32.reduceLE, Int32.reduceToNatClampNeg]
  rw [if_pos (show nI 0 ≤ 0 by decide)]
  rw [eo_k, ep_k] at h
  obtain ⟨M1, e1, F1, X1⟩ := c_jn1 hD a o h (fun x hx => by cases hx) (by decide) (by decide) hc
  rw [e1, bkV_s]
  obtain ⟨h1, ⟨a6, _, _, _, _⟩, _, lo, ys, ns, ⟨q0, q1⟩, q2, q3, q4, q5, q6⟩ := X1
  have q6 : lo = lo0 := q6
  subst q6
  have q2 : aI M1 65 0 = nI (5 * lo) := q2
  have q3 : chn (aI M1 62) (aI M1 66 0) ys := q3
  have q4 : chn (aI M1 62) (aI M1 67 0) ns := q4
  have W1 := h1.1
  simp only [SW.all W1, ckb0, MR, ckk_T, deR_s, deQ_s, deQ_n, bkV_s, bkI_s, bkJ_s, bkQ_s, bkQ_n, ckb0, ckb1, ckb2, ckb3, eq_self, Nat.reduceEqDiff, Nat.reduceLeDiff, Nat.reduceLT, reduceIte, true_or, or_true, not_false_eq_true, not_true_eq_false, and_self, and_true, true_and, LIT, Int32.reduceLT, Int32.reduceLE, Int32.reduceToNatClampNeg]
  rw [c_fill (by omega) (by omega : 5 * c ≤ 300) W1 a6 q3 q5.2.2.1.1 (fun x hx => by have := q5.1 x hx; omega), bkV_s]
  have F2 := flF_fr (M := M1) (l := ys) (c := c) (lo0 := lo) (fun x hx => by have := q5.1 x hx; omega) yes
  have u62 : aI (setF M1 62 (flF (aI M1 62) ys yes)) 62 = flF (aI M1 62) ys yes := rfl
  generalize setF M1 62 (flF (aI M1 62) ys yes) = M2 at *
  have W2 := F2.sw W1
  have u67 : aI M2 67 = aI M1 67 := F2.af (fun k => by omega)
  have u6 : mI M2 61 6 = nI (5 * c) := by rw [F2.i (by omega)]; exact a6
  simp only [SW.all W2, ckb0, MR, ckk_T, deR_s, deQ_s, deQ_n, bkV_s, bkI_s, bkJ_s, bkQ_s, bkQ_n, ckb0, ckb1, ckb2, ckb3, eq_self, Nat.reduceEqDiff, Nat.reduceLeDiff, Nat.reduceLT, reduceIte, true_or, or_true, not_false_eq_true, not_true_eq_false, and_self, and_true, true_and, LIT, Int32.reduceLT, Int32.reduceLE, Int32.reduceToNatClampNeg]
  have q4' : chn (aI M2 62) (aI M2 67 0) ns := by
    rw [u67, u62]
    exact chn_cg ns _ (fun x hx => by unfold flF; rw [if_neg (fun z => (q5.1 x z).2.2 hx)]) q4
  rw [c_fill (by omega) (by omega : 5 * c ≤ 300) W2 u6 q4' q5.2.2.1.2.1 (fun x hx => by have := q5.2.1 x hx; omega), bkV_s]
  have F3 := flF_fr (M := M2) (l := ns) (c := c) (lo0 := lo) (fun x hx => by have := q5.2.1 x hx; omega) no
  have w62 : aI (setF M2 62 (flF (aI M2 62) ns no)) 62 = flF (aI M2 62) ns no := rfl
  generalize setF M2 62 (flF (aI M2 62) ns no) = M3 at *
  have W3 := F3.sw W2
  simp only [SW.all W3, ckb0, MR, ckk_T, deR_s, deQ_s, deQ_n, bkV_s, bkI_s, bkJ_s, bkQ_s, bkQ_n, ckb0, ckb1, ckb2, ckb3, eq_self, Nat.reduceEqDiff, Nat.reduceLeDiff, Nat.reduceLT, reduceIte, true_or, or_true, not_false_eq_true, not_true_eq_false, and_self, and_true, true_and, LIT, Int32.reduceLT, Int32.reduceLE, Int32.reduceToNatClampNeg]
  have w65 : aI M3 65 0 = nI (5 * lo) := by rw [F3.a (by omega), F2.a (by omega)]; exact q2
  have val : ∀ x, aI M3 62 x = if x ∈ ys then yes else if x ∈ ns then no else aI M1 62 x := by
    intro x
    rw [w62, u62]
    unfold flF
    by_cases z : x ∈ ys
    · rw [if_pos z, if_neg (q5.1 x z).2.2, if_pos z]
    · rw [if_neg z, if_neg z]
  rw [w65]
  have K3 : CLk M3 t tp q 0 := (h1.keep F2 (fun o k z => by omega)).keep F3 (fun o k z => by omega)
  refine ⟨M3, _, rfl, (F1.trans (F2.mono (fun o k z => by unfold Pk; omega))).trans (F3.mono (fun o k z => by unfold Pk; omega)), rfl, K3, by rw [F3.i (by omega)]; exact u6, q1, hc, hq, q5.2.2.2.2 (aI M3 62) yes no (fun x _ _ => val x), fun i l u k hk => ?_⟩
  rw [val k]
  by_cases z : k ∈ ys
  · rw [if_pos z]; exact Or.inr (Or.inl rfl)
  · rw [if_neg z]
    by_cases y : k ∈ ns
    · rw [if_pos y]; exact Or.inr (Or.inr rfl)
    · rw [if_neg y]; exact Or.inl (q5.2.2.2.1 i l u k hk z y)
theorem c_readAnd {D : Nat} (hD : 3 ≤ D) {M : ej_Mem} {t : Nat} {tp : Nat → Nat} {q dp br c lo0 : Nat} {o a : Option Prd} {fs : List Frm} {w : Prd} (h : CXk M t tp q dp br c (ops (o, a, 0) fs) (w :: pcs (o, a, 0) fs) lo0) (hq : q ≤ t) (hw : stw tp t q (wd 11) = true) (hl : (ops (o, a, 0) fs).length < 39) (hp : (pcs (o, a, 0) fs).length < 38) (hc : c ≤ 60) : ∃ M', cal D jm_Clerk_readJoin [.ref 61, .int 2] M = some (none, M') ∧ Fr (Pk lo0) M M' ∧ CXk M' t tp (q + 3) dp br c (ops (o, some (andv a w), 0) fs) (pcs (o, some (andv a w), 0) fs) lo0 := by
  obtain ⟨d, rfl⟩ : ∃ d, D = d + 1 := ⟨D - 1, by omega⟩
  have H := h.1
  have t4 := H.2.2.1.1.1
  have L : lwk tp t q = q + 3 := stw_len hw
  rw [ca_Clerk_readJoin, eq_Clerk_readJoin_0]
  simp only [SW.all H.1, MR, ckk_T, deR_s, deQ_s, deQ_n, bkV_s, bkI_s, bkJ_s, bkQ_s, bkQ_n, ckb0, ckb1, ckb2, ckb3, eq_self, Nat.reduceEqDiff, Nat.reduceLeDiff, Nat.reduceLT, reduceIte, true_or, or_true, not_false_eq_true, not_true_eq_false, and_self, and_true, true_and, LIT, Int32.reduceLT, Int32.reduceLE, Int32.reduceToNatClampNeg]
  rw [c_skipWord (by omega) H (by omega), bkV_s, L]
  have X1 := h.pf (q + 3)
  rw [eo_k, ep_k] at X1
  have l1 : ((if o.isSome = true then [1] else []) ++ tlO fs).length ≤ (ops (o, a, 0) fs).length := by rw [eo_k]; rw [List.length_append (as := (if a.isSome = true then [2] else []))]; omega
  have l2 : (oL o ++ tlP fs).length ≤ (pcs (o, a, 0) fs).length := by rw [ep_k]; rw [List.length_append (as := oL a)]; omega
  obtain ⟨M2, e2, F2, X2⟩ := c_jn2 (by omega : 2 ≤ d) a X1 (fun x hx => by
    cases o with
    | none => have := tlO_h fs x hx; omega
    | some v => cases hx; decide) (by omega) (by omega) hc
  rw [ckk_t (SW.all X1.1.1).2.2.1, e2, bkV_s, ckk_t (SW.all X2.1.1).2.2.1, c_addWaiting (by omega) X2.1.1 X2.2.1.2.1 (by omega), bkV_s]
  refine ⟨_, rfl, ((pf_Pk lo0 _ _ _).trans F2).trans (awM_fr lo0 _ _ _), ?_⟩
  have X3 := X2.aw 2
  have e3 : ops (o, some (andv a w), 0) fs = 2 :: ((if o.isSome = true then [1] else []) ++ tlO fs) := by rw [eo_k]; rfl
  have e4 : pcs (o, some (andv a w), 0) fs = andv a w :: (oL o ++ tlP fs) := by rw [ep_k]; rfl
  rw [e3, e4]
  exact X3
theorem c_readOr {D : Nat} (hD : 3 ≤ D) {M : ej_Mem} {t : Nat} {tp : Nat → Nat} {q dp br c lo0 : Nat} {o a : Option Prd} {fs : List Frm} {w : Prd} (h : CXk M t tp q dp br c (ops (o, a, 0) fs) (w :: pcs (o, a, 0) fs) lo0) (hq : q ≤ t) (hw : stw tp t q (wd 12) = true) (hl : (ops (o, a, 0) fs).length < 38) (hp : (pcs (o, a, 0) fs).length < 37) (hc : c ≤ 60) : ∃ M', cal D jm_Clerk_readJoin [.ref 61, .int 1] M = some (none, M') ∧ Fr (Pk lo0) M M' ∧ CXk M' t tp (q + 2) dp br c (ops (some (orv o (andv a w)), none, 0) fs) (pcs (some (orv o (andv a w)), none, 0) fs) lo0 := by
  obtain ⟨d, rfl⟩ : ∃ d, D = d + 1 := ⟨D - 1, by omega⟩
  have H := h.1
  have t4 := H.2.2.1.1.1
  have L : lwk tp t q = q + 2 := stw_len hw
  rw [ca_Clerk_readJoin, eq_Clerk_readJoin_0]
  simp only [SW.all H.1, MR, ckk_T, deR_s, deQ_s, deQ_n, bkV_s, bkI_s, bkJ_s, bkQ_s, bkQ_n, ckb0, ckb1, ckb2, ckb3, eq_self, Nat.reduceEqDiff, Nat.reduceLeDiff, Nat.reduceLT, reduceIte, true_or, or_true, not_false_eq_true, not_true_eq_false, and_self, and_true, true_and, LIT, Int32.reduceLT, Int32.reduceLE, Int32.reduceToNatClampNeg]
  rw [c_skipWord (by omega) H (by omega), bkV_s, L]
  have X1 := h.pf (q + 2)
  rw [eo_k, ep_k] at X1
  have l1 := len_tl (o, a, 0) fs
  have l2 := tlP_len (o, a, 0) fs
  obtain ⟨M2, e2, F2, X2⟩ := c_jn1 (by omega : 2 ≤ d) a o X1 (tlO_h fs) (by omega) (by omega) hc
  rw [ckk_t (SW.all X1.1.1).2.2.1, e2, bkV_s, ckk_t (SW.all X2.1.1).2.2.1, c_addWaiting (by omega) X2.1.1 X2.2.1.2.1 (by omega), bkV_s]
  refine ⟨_, rfl, ((pf_Pk lo0 _ _ _).trans F2).trans (awM_fr lo0 _ _ _), ?_⟩
  have X3 := X2.aw 1
  have e3 : ops (some (orv o (andv a w)), none, 0) fs = 1 :: tlO fs := by rw [eo_k]; rfl
  have e4 : pcs (some (orv o (andv a w)), none, 0) fs = orv o (andv a w) :: tlP fs := by rw [ep_k]; rfl
  rw [e3, e4]
  exact X3
theorem c_close {D : Nat} (hD : 3 ≤ D) {M : ej_Mem} {t : Nat} {tp : Nat → Nat} {q c lo0 : Nat} {o a : Option Prd} {g : Frm} {gs : List Frm} {w : Prd} (h : CXk M t tp q (dpt (o, a, 0) (g :: gs)) (gs.length + 1) c (ops (o, a, 0) (g :: gs)) (w :: pcs (o, a, 0) (g :: gs)) lo0) (hl : (ops (o, a, 0) (g :: gs)).length < 38) (hp : (pcs (o, a, 0) (g :: gs)).length < 37) (hc : c ≤ 60) : ∃ M', cal D jm_Clerk_closeBracket [.ref 61] M = some (none, M') ∧ Fr (Pk lo0) M M' ∧ CXk M' t tp (q + 1) (dpt (g.1, g.2.1, 0) gs) gs.length c (ops (g.1, g.2.1, 0) gs) (negs g.2.2 (orv o (andv a w)) :: pcs (g.1, g.2.1, 0) gs) lo0 := by
  obtain ⟨d, rfl⟩ : ∃ d, D = d + 1 := ⟨D - 1, by omega⟩
  have H := h.1
  rw [ca_Clerk_closeBracket, eq_Clerk_closeBracket_0]
  simp only [SW.all H.1, H.2.2.2.1, nI_1, MR, ckk_T, deR_s, deQ_s, deQ_n, bkV_s, bkI_s, bkJ_s, bkQ_s, bkQ_n, ckb0, ckb1, ckb2, ckb3, eq_self, Nat.reduceEqDiff, Nat.reduceLeDiff, Nat.reduceLT, reduceIte, true_or, or_true, not_false_eq_true, not_true_eq_false, and_self, and_true, true_and, LIT, Int32.reduceLT, Int32.reduceLE, Int32.reduceToNatClampNeg]
  rw [pf_q H.2.2.2.2]
  have X1 := h.pf (q + 1)
  rw [eo_k, ep_k] at X1
  have l1 := len_tl (o, a, 0) (g :: gs)
  have l2 := tlP_len (o, a, 0) (g :: gs)
  obtain ⟨M2, e2, F2, X2⟩ := c_jn1 (by omega : 2 ≤ d) a o X1 (tlO_h (g :: gs)) (by omega) (by omega) hc
  rw [e2, bkV_s]
  have X2 : CXk M2 t tp (q + 1) (dpt (o, a, 0) (g :: gs)) (gs.length + 1) c (0 :: ops g gs) (orv o (andv a w) :: pcs g gs) lo0 := X2
  have d0 : dpt (o, a, 0) (g :: gs) = dpt g gs + 1 := by show 0 + 1 + dpt g gs = _; omega
  rw [d0] at X2
  have l1 : (ops g gs).length + 1 ≤ (ops (o, a, 0) (g :: gs)).length := l1
  have l2 : (pcs g gs).length ≤ (pcs (o, a, 0) (g :: gs)).length := l2
  obtain ⟨h1, ⟨a6, a10, a11, a12, a16⟩, h3, h4⟩ := X2
  have a10 : mI M2 61 10 = nI ((ops g gs).length + 1) := a10
  simp only [SW.all h1.1, a10, a11, a12, nI_pred, va_upe, MR, ckk_T, deR_s, deQ_s, deQ_n, bkV_s, bkI_s, bkJ_s, bkQ_s, bkQ_n, ckb0, ckb1, ckb2, ckb3, eq_self, Nat.reduceEqDiff, Nat.reduceLeDiff, Nat.reduceLT, reduceIte, true_or, or_true, not_false_eq_true, not_true_eq_false, and_self, and_true, true_and, LIT, Int32.reduceLT, Int32.reduceLE, Int32.reduceToNatClampNeg]
  rw [if_neg (nI_nle (by omega) (by omega))]
  have F3 : Fr (Pk lo0) M2 (setI (setI (setI M2 61 10 (nI (ops g gs).length)) 61 12 (nI gs.length)) 61 11 (nI (dpt g gs))) := ((Fr.setI (P := Pk lo0) M2 _ (by unfold Pk; omega)).trans (Fr.setI (P := Pk lo0) _ _ (by unfold Pk; omega))).trans (Fr.setI (P := Pk lo0) _ _ (by unfold Pk; omega))
  have X3 : CXk (setI (setI (setI M2 61 10 (nI (ops g gs).length)) 61 12 (nI gs.length)) 61 11 (nI (dpt g gs))) t tp (q + 1) (dpt g gs) gs.length c (ops g gs) (orv o (andv a w) :: pcs g gs) lo0 := ⟨h1.keep (((Fr.setI (P := fun o k => 62 ≤ o ∨ (o = 61 ∧ 4 ≤ k)) M2 _ (by omega)).trans (Fr.setI (P := fun o k => 62 ≤ o ∨ (o = 61 ∧ 4 ≤ k)) _ _ (by omega))).trans (Fr.setI (P := fun o k => 62 ≤ o ∨ (o = 61 ∧ 4 ≤ k)) _ _ (by omega))) (fun o k q => q), ⟨a6, rfl, rfl, rfl, a16⟩, h3.2, h4⟩
  generalize setI (setI (setI M2 61 10 (nI (ops g gs).length)) 61 12 (nI gs.length)) 61 11 (nI (dpt g gs)) = M3 at *
  have d1 := dpt_k g gs 0
  have ol : (ops g gs).length = g.2.2 + (ops (g.1, g.2.1, 0) gs).length := by rw [ops_k g, List.length_append, List.length_replicate]
  have X3' : CXk M3 t tp (q + 1) (dpt (g.1, g.2.1, 0) gs + g.2.2) gs.length c (List.replicate g.2.2 3 ++ ops (g.1, g.2.1, 0) gs) (orv o (andv a w) :: pcs g gs) lo0 := by rw [← ops_k g, d1]; exact X3
  obtain ⟨M4, e4, F4, X4⟩ := c_turnByNots (by omega : 1 ≤ d) (ops_h g.1 g.2.1 gs) (ops_le gs _) (by omega) X3' (by omega)
  rw [e4, bkV_s, pcs_k g gs 0]
  exact ⟨M4, rfl, (((pf_Pk lo0 _ _ _).trans F2).trans F3).trans F4, X4⟩
