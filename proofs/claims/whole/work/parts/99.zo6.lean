/-! the class: how a reading ends -/
theorem c_tldead {D : Nat} {M : ej_Mem} {t : Nat} {tp : Nat → Nat} {g wr : Nat} (h : CDd M t tp g) {l1 l2 : Int32} {o4 o5 : Option Value} : rn jm_Clerk_read (cal D) 161 [some (.ref 61), some (.int l1), some (.int l2), some (.ref wr), o4, o5] [] M = some (some .null, M) := by
  obtain ⟨g0, gb, p, hp, H⟩ := h
  have gn : ¬ nI g = 0 := nI_ne0 (by omega) (by omega)
  rw [eq_Clerk_read_161]
  simp only [SW.all H.1, H.2.2.2.2, MR, ckk_T, deR_s, deQ_s, deQ_n, bkV_s, bkI_s, bkJ_s, bkQ_s, bkQ_n, ckb0, ckb1, ckb2, ckb3, eq_self, Nat.reduceEqDiff, Nat.reduceLeDiff, Nat.reduceLT, reduceIte, true_or, or_true, not_false_eq_true, not_true_eq_false, and_self, and_true, true_and, LIT, Int32.reduceLT, Int32.reduceLE, Int32.reduceToNatClampNeg]
  rw [if_neg gn, if_neg gn]
theorem c_tlrest {D : Nat} (hD : 1 ≤ D) {M : ej_Mem} {t : Nat} {tp : Nat → Nat} {p wr : Nat} (H : CLk M t tp p 0) (hp : p ≤ t) (hb : blk tp t p < t) {l1 l2 : Int32} {o4 o5 : Option Value} : rn jm_Clerk_read (cal D) 161 [some (.ref 61), some (.int l1), some (.int l2), some (.ref wr), o4, o5] [] M = some (some .null, pf 61 M (blk tp t p) (flt 0 (blk tp t p))) := by
  have t4 := H.2.2.1.1.1
  have ef : mI M 61 3 = 0 := H.2.2.2.2
  have H1 := H.pf (blk tp t p) 0
  have sn : ¬ sI (sg tp t (blk tp t p)) = -1 := fun q => by
    have := ((sI_dec _ (sg_le H.2.2.1.1 _)).1).mp q
    unfold sg at this
    rw [if_pos hb] at this
    have := H.2.2.1.1.2 _ hb
    omega
  have fb : orF 0 (flt 0 (blk tp t p)) < 2 ^ 30 := orF_b (by decide) (by omega) (by decide)
  have fz : orF 0 (flt 0 (blk tp t p)) ≠ 0 := flt_pos 0 _
  have H2 := H1.pf (blk tp t p) (orF 0 (flt 0 (blk tp t p)))
  rw [eq_Clerk_read_161]
  simp only [SW.all H.1, ef, MR, ckk_T, deR_s, deQ_s, deQ_n, bkV_s, bkI_s, bkJ_s, bkQ_s, bkQ_n, ckb0, ckb1, ckb2, ckb3, eq_self, Nat.reduceEqDiff, Nat.reduceLeDiff, Nat.reduceLT, reduceIte, true_or, or_true, not_false_eq_true, not_true_eq_false, and_self, and_true, true_and, LIT, Int32.reduceLT, Int32.reduceLE, Int32.reduceToNatClampNeg]
  rw [c_look hD H (by omega), bkI_s, if_neg sn]
  simp only [SW.all H1.1, MR, ckk_T, deR_s, deQ_s, deQ_n, bkV_s, bkI_s, bkJ_s, bkQ_s, bkQ_n, ckb0, ckb1, ckb2, ckb3, eq_self, Nat.reduceEqDiff, Nat.reduceLeDiff, Nat.reduceLT, reduceIte, true_or, or_true, not_false_eq_true, not_true_eq_false, and_self, and_true, true_and, LIT, Int32.reduceLT, Int32.reduceLE, Int32.reduceToNatClampNeg]
  rw [c_fail hD H1 (by decide) (x := 0) (c := 0) rfl, bkV_s]
  simp only [SW.all H2.1, H2.2.2.2.2, MR, ckk_T, deR_s, deQ_s, deQ_n, bkV_s, bkI_s, bkJ_s, bkQ_s, bkQ_n, ckb0, ckb1, ckb2, ckb3, eq_self, Nat.reduceEqDiff, Nat.reduceLeDiff, Nat.reduceLT, reduceIte, true_or, or_true, not_false_eq_true, not_true_eq_false, and_self, and_true, true_and, LIT, Int32.reduceLT, Int32.reduceLE, Int32.reduceToNatClampNeg]
  rw [if_neg (nI_ne0 (by omega) (by omega)), pf_pf]
  rfl
/-- what a reading that ends well leaves -/
def RdW (M M' : ej_Mem) (wr c J : Nat) (T : Txt) : Prop := FrG (fun o k => (o = 61 ∧ (k = 2 ∨ k = 3)) ∨ (o = wr ∧ (k = 6 ∨ k = 7))) M M' ∧ (mZ M' = mZ M + 2 ∧ mS M' = mS M + 5 * c + 2 * J) ∧ WA M' wr ∧ cTxt M' wr = T ∧ wFc M' wr = mZ M ∧ wTn M' wr = mZ M + 1 ∧ mI M' 61 3 = 0
theorem c_tlend {D : Nat} (hD : 1 ≤ D) {M : ej_Mem} {t : Nat} {tp : Nat → Nat} {so wr J p n c : Nat} {sd sf : Bool} {T : Txt} (h : CCs M t tp so wr J (p, n, c, sd, sf, T)) (hb : ¬ blk tp t p < t) (hn : n ≤ 12) (hz : 122 ≤ mZ M) (hw : wr < mZ M) (b31 : bI (tGv T) 31 = false) {l1 l2 : Int32} {o4 o5 : Option Value} : ∃ M', rn jm_Clerk_read (cal D) 161 [some (.ref 61), some (.int l1), some (.int l2), some (.ref wr), o4, o5] [] M = some (some (.ref wr), M') ∧ RdW M M' wr c J T := by
  obtain ⟨H, ⟨h6, h8, hse⟩, ⟨B2, B3, BJ⟩, hC, ⟨w1, w2, w3, w4, w5, w6, w7⟩, hE, hTn⟩ := h
  have H : CLk M t tp p 0 := H
  have h6 : mI M 61 6 = nI (5 * c) := h6
  have B2 : c ≤ 60 := B2
  have B3 : p ≤ t := B3
  have BJ : J ≤ n := BJ
  have hC : CodeOK (aI M 62) c := hC
  have hE : CEn (aI M 62) c (mI M wr 5) (tTs T) := hE
  have hTn : TnR (aI M 62) (aI M 63) c J (tTu T) := hTn
  have t4 := H.2.2.1.1.1
  have ef : mI M 61 3 = 0 := H.2.2.2.2
  have H1 := H.pf (blk tp t p) 0
  have s2 : sg tp t (blk tp t p) = 256 := by unfold sg; rw [if_neg hb]
  have F1 := pf_fr 61 M (blk tp t p) 0
  rw [eq_Clerk_read_161]
  simp only [SW.all H.1, ef, MR, ckk_T, deR_s, deQ_s, deQ_n, bkV_s, bkI_s, bkJ_s, bkQ_s, bkQ_n, ckb0, ckb1, ckb2, ckb3, eq_self, Nat.reduceEqDiff, Nat.reduceLeDiff, Nat.reduceLT, reduceIte, true_or, or_true, not_false_eq_true, not_true_eq_false, and_self, and_true, true_and, LIT, Int32.reduceLT, Int32.reduceLE, Int32.reduceToNatClampNeg]
  rw [c_look hD H (by omega), bkI_s, s2, if_pos (by rfl)]
  have z1 : mZ (pf 61 M (blk tp t p) 0) = mZ M := F1.z
  have q6 : mI (pf 61 M (blk tp t p) 0) 61 6 = nI (5 * c) := by rw [F1.i (by unfold Ppf; omega)]; exact h6
  have q8 : mI (pf 61 M (blk tp t p) 0) 61 8 = nI (2 * J) := by rw [F1.i (by unfold Ppf; omega)]; exact h8
  have qw : ∀ k, mI (pf 61 M (blk tp t p) 0) wr k = mI M wr k := fun k => F1.i (by unfold Ppf; omega)
  have s1 : mS (pf 61 M (blk tp t p) 0) = mS M := rfl
  have a2 : aI (pf 61 M (blk tp t p) 0) 62 = aI M 62 := rfl
  have a3 : aI (pf 61 M (blk tp t p) 0) 63 = aI M 63 := rfl
  have c1 : mC (pf 61 M (blk tp t p) 0) wr = 7 := w2
  have G1 : FrG (fun o k => (o = 61 ∧ (k = 2 ∨ k = 3)) ∨ (o = wr ∧ (k = 6 ∨ k = 7))) M (pf 61 M (blk tp t p) 0) := F1.g.mono (fun o k _ q => by unfold Ppf at q; omega)
  generalize pf 61 M (blk tp t p) 0 = M1 at *
  have ef1 : mI M1 61 3 = 0 := H1.2.2.2.2
  simp only [SW.all H1.1, ef1, q6, MR, ckk_T, deR_s, deQ_s, deQ_n, bkV_s, bkI_s, bkJ_s, bkQ_s, bkQ_n, ckb0, ckb1, ckb2, ckb3, eq_self, Nat.reduceEqDiff, Nat.reduceLeDiff, Nat.reduceLT, reduceIte, true_or, or_true, not_false_eq_true, not_true_eq_false, and_self, and_true, true_and, LIT, Int32.reduceLT, Int32.reduceLE, Int32.reduceToNatClampNeg]
  obtain ⟨M2, e2, z2, m2, ⟨n1, n2, n3⟩, F2⟩ := c_copyOf hD (M := M1) (a := 62) (n := 5 * c) (L := 300) (SW.all H1.1).2.2.2.1 (by have := SW.all H1.1; simp only [this]) (by omega) (by decide) (by omega)
  rw [e2, bkQ_s]
  have G2 := F2 (fun _ _ => False)
  have o2 : ∀ o, o < mZ M1 → mI M2 o = mI M1 o ∧ mL M2 o = mL M1 o ∧ mR M2 o = mR M1 o ∧ aI M2 o = aI M1 o ∧ aR M2 o = aR M1 o := fun o ho => G2.all ⟨ho, fun _ q => q⟩
  have W2 : SW M2 := H1.1.g G2 (by omega) (fun o k _ _ q => q.elim)
  have c2 : mC M2 wr = 7 := by rw [(G2.2.1 wr (by omega)).1]; exact c1
  rw [ckk_t c2, eq_Clerk_read_205]
  have r3 : ∀ o k, ¬ (o = wr ∧ k = 6) → mR (setR M2 wr 6 (some (mZ M1))) o k = mR M2 o k := fun o k q => gR_n q
  have W3 : SW (setR M2 wr 6 (some (mZ M1))) := W2.g (FrG.setR (P := fun o k => o = wr ∧ k = 6) _ _ ⟨rfl, rfl⟩) (by omega) (fun o k a b q => by omega)
  have i3 : mI (setR M2 wr 6 (some (mZ M1))) = mI M2 := rfl
  have e8 : mI (setR M2 wr 6 (some (mZ M1))) 61 8 = nI (2 * J) := by rw [i3, (o2 61 (by omega)).1]; exact q8
  simp only [SW.all W3, e8, MR, ckk_T, deR_s, deQ_s, deQ_n, bkV_s, bkI_s, bkJ_s, bkQ_s, bkQ_n, ckb0, ckb1, ckb2, ckb3, eq_self, Nat.reduceEqDiff, Nat.reduceLeDiff, Nat.reduceLT, reduceIte, true_or, or_true, not_false_eq_true, not_true_eq_false, and_self, and_true, true_and, LIT, Int32.reduceLT, Int32.reduceLE, Int32.reduceToNatClampNeg]
  obtain ⟨M4, e4, z4, m4, ⟨k1, k2, k3⟩, F4⟩ := c_copyOf hD (M := setR M2 wr 6 (some (mZ M1))) (a := 63) (n := 2 * J) (L := 24) (SW.all W3).2.2.2.2.1 (by have := SW.all W3; simp only [this]) (by omega) (by decide) (by show 63 < mZ M2; omega)
  have zz : mZ (setR M2 wr 6 (some (mZ M1))) = mZ M1 + 1 := z2
  rw [zz] at e4 z4 k1 k2 k3
  rw [e4, bkQ_s]
  have G4 := F4 (fun _ _ => False)
  have o4' : ∀ o, o < mZ M1 + 1 → mI M4 o = mI M2 o ∧ mR M4 o = mR (setR M2 wr 6 (some (mZ M1))) o ∧ aI M4 o = aI M2 o := fun o ho => by
    have := G4.all (o := o) ⟨by rw [zz]; exact ho, fun _ q => q⟩
    exact ⟨this.1, this.2.2.1, this.2.2.2.1⟩
  have cn4 : ∀ o, o < mZ M1 + 1 → mC M4 o = mC M2 o ∧ mN M4 o = mN M2 o := fun o ho => G4.2.1 o (by rw [zz]; exact ho)
  have c4 : mC M4 wr = 7 := by rw [(cn4 wr (by omega)).1]; exact c2
  rw [ckk_t c4, eq_Clerk_read_220]
  have iw : ∀ k, mI (setR M4 wr 7 (some (mZ M1 + 1))) wr k = mI M wr k := fun k => by
    show mI M4 wr k = _
    rw [(o4' wr (by omega)).1, (o2 wr (by omega)).1]; exact qw k
  have R6 : mR (setR M4 wr 7 (some (mZ M1 + 1))) wr 6 = some (mZ M) := by
    rw [gR_n (by omega), (o4' wr (by omega)).2.1, gR_s, z1]
  have R7 : mR (setR M4 wr 7 (some (mZ M1 + 1))) wr 7 = some (mZ M + 1) := by rw [gR_s, z1]
  have WT := wr_txt (M := setR M4 wr 7 (some (mZ M1 + 1))) (wr := wr) (f := mZ M) (u := mZ M + 1) (c := c) (J := J) (T := T) (F := aI M 62) (U := aI M 63) c4 R6 R7 ⟨by show mC M4 (mZ M) = 100; rw [← z1, (cn4 _ (by omega)).1]; exact n1, by show mN M4 (mZ M) = _; rw [← z1, (cn4 _ (by omega)).2]; exact n2, fun x hx => by
    show aI M4 (mZ M) x = _
    rw [← z1, (o4' _ (by omega)).2.2, n3 x hx, a2]⟩ ⟨by show mC M4 (mZ M + 1) = 100; rw [← z1]; exact k1, by show mN M4 (mZ M + 1) = _; rw [← z1]; exact k2, fun x hx => by
    show aI M4 (mZ M + 1) x = _
    rw [← z1, k3 x hx]
    show aI M2 63 x = _
    rw [(o2 63 (by omega)).2.2.2.1, a3]⟩ B2 (by omega) hC (by rw [iw]; exact hE) hTn (by rw [iw]; exact w3) (by rw [iw]; exact w4) (by rw [iw]; exact w5) (by rw [iw]; exact w6) (by rw [iw]; exact w7) b31
  refine ⟨_, rfl, ?_, ⟨by show mZ M4 = _; omega, by show mS M4 = _; have : mS (setR M2 wr 6 (some (mZ M1))) = mS M2 := rfl; omega⟩, WT.1, WT.2, by unfold wFc; rw [R6]; rfl, by unfold wTn; rw [R7]; rfl, by show mI M4 61 3 = 0; rw [(o4' 61 (by omega)).1, (o2 61 (by omega)).1]; exact ef1⟩
  exact (((G1.trans (F2 _)).trans (FrG.setR (P := fun o k => (o = 61 ∧ (k = 2 ∨ k = 3)) ∨ (o = wr ∧ (k = 6 ∨ k = 7))) _ _ (Or.inr ⟨rfl, Or.inl rfl⟩))).trans (F4 _)).trans (FrG.setR _ _ (Or.inr ⟨rfl, Or.inr rfl⟩))
