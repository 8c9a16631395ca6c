/-! the class joins pieces by or -/
theorem c_join1 {D : Nat} (hD : 1 ≤ D) {M : ej_Mem} {t : Nat} {tp : Nat → Nat} {p dp br c lo0 : Nat} {xs : List Nat} {wa wb : Prd} {ps : List Prd} (h : CXk M t tp p dp br c (1 :: xs) (wb :: wa :: ps) lo0) {k : Nat} (hk : k ≤ 1) (hx : xs.length < 40) (hp : ps.length + 1 < 40) (hc : c ≤ 60) : ∃ M', rn jm_Clerk_joinDownTo (cal D) 0 [some (.ref 61), some (.int (nI k))] [] M = rn jm_Clerk_joinDownTo (cal D) 0 [some (.ref 61), some (.int (nI k))] [] M' ∧ Fr (Pk lo0) M M' ∧ CXk M' t tp p dp br c xs ((fun s => wa s || wb s) :: ps) lo0 := by
  obtain ⟨h1, ⟨a6, a10, a11, a12, a16⟩, h3, mid, nb, yb, ⟨b0, b1⟩, b2, b4, b3, b5, lo, na, ya, ⟨q0, q1⟩, q2, q4, q3, q5, q6⟩ := h
  have q5 := q5.swap
  have b5 := b5.swap
  have hW := h1.1
  have a10 : mI M 61 10 = nI (xs.length + 1) := a10
  have a16 : mI M 61 16 = nI (ps.length + 1 + 1) := a16
  have s0 : aI M 64 xs.length = nI 1 := h3.1
  have b2 : aI M 65 (ps.length + 1) = nI (5 * mid) := b2
  have b3 : chn (aI M 62) (aI M 67 (ps.length + 1)) yb := b3
  have b4 : chn (aI M 62) (aI M 66 (ps.length + 1)) nb := b4
  have q3 : chn (aI M 62) (aI M 67 ps.length) ya := q3
  have q4 : chn (aI M 62) (aI M 66 ps.length) na := q4
  have cx := ckb_n (show xs.length < 40 by omega) (show 40 < 2 ^ 31 by decide)
  have cp := ckb_n (show ps.length < 40 by omega) (show 40 < 2 ^ 31 by decide)
  have cp1 := ckb_n (show ps.length + 1 < 40 by omega) (show 40 < 2 ^ 31 by decide)
  have nx : (nI xs.length).toNatClampNeg = xs.length := nI_clamp (by omega)
  have np : (nI ps.length).toNatClampNeg = ps.length := nI_clamp (by omega)
  have np1 : (nI (ps.length + 1)).toNatClampNeg = ps.length + 1 := nI_clamp (by omega)
  have lb := last_mem b5.2.2.1.2.2.2
  have lbr := b5.2.1 _ lb
  rw [eq_Clerk_joinDownTo_0]
  simp only [SW.all hW, a10, a16, nI_pred, cx, nx, MR, ckk_T, deR_s, deQ_s, deQ_n, bkV_s, bkI_s, bkJ_s, bkQ_s, bkQ_n, ckb0, ckb1, ckb2, ckb3, eq_self, Nat.reduceEqDiff, Nat.reduceLeDiff, Nat.reduceLT, reduceIte, true_or, or_true, not_false_eq_true, not_true_eq_false, and_self, and_true, true_and, LIT, Int32.reduceLT, Int32.reduceLE, Int32.reduceToNatClampNeg]
  rw [if_neg (nI_nle (by omega) (by omega)), if_neg (show ¬ nI (ps.length + 1 + 1) ≤ 1 from nI_ge (b := ps.length + 1 + 1) (a := 1) (by omega) (by omega)), s0, if_neg (nI_nlt hk (by decide)), eq_Clerk_joinDownTo_40]
  simp only [SW.all hW, a16, nI_pred, va_upe, MR, ckk_T, deR_s, deQ_s, deQ_n, bkV_s, bkI_s, bkJ_s, bkQ_s, bkQ_n, ckb0, ckb1, ckb2, ckb3, eq_self, Nat.reduceEqDiff, Nat.reduceLeDiff, Nat.reduceLT, reduceIte, true_or, or_true, not_false_eq_true, not_true_eq_false, and_self, and_true, true_and, LIT, Int32.reduceLT, Int32.reduceLE, Int32.reduceToNatClampNeg]
  rw [eq_Clerk_joinDownTo_50]
  have W2 : SW (setI (setI M 61 10 (nI xs.length)) 61 16 (nI (ps.length + 1))) := hW
  have F2 : Fr (fun o k => o = 61 ∧ (k = 10 ∨ k = 16)) M (setI (setI M 61 10 (nI xs.length)) 61 16 (nI (ps.length + 1))) := (Fr.setI (P := fun o k => o = 61 ∧ (k = 10 ∨ k = 16)) M _ (by omega)).trans (Fr.setI (P := fun o k => o = 61 ∧ (k = 10 ∨ k = 16)) _ _ (by omega))
  have v10 : mI (setI (setI M 61 10 (nI xs.length)) 61 16 (nI (ps.length + 1))) 61 10 = nI xs.length := rfl
  have v16 : mI (setI (setI M 61 10 (nI xs.length)) 61 16 (nI (ps.length + 1))) 61 16 = nI (ps.length + 1) := rfl
  have vA : aI (setI (setI M 61 10 (nI xs.length)) 61 16 (nI (ps.length + 1))) = aI M := rfl
  generalize setI (setI M 61 10 (nI xs.length)) 61 16 (nI (ps.length + 1)) = M2 at *
  have v6 : mI M2 61 6 = nI (5 * c) := by rw [F2.i (by omega)]; exact a6
  simp only [SW.all W2, v10, v16, vA, cx, nx, cp, np, cp1, np1, nI_pred, MR, ckk_T, deR_s, deQ_s, deQ_n, bkV_s, bkI_s, bkJ_s, bkQ_s, bkQ_n, ckb0, ckb1, ckb2, ckb3, eq_self, Nat.reduceEqDiff, Nat.reduceLeDiff, Nat.reduceLT, reduceIte, true_or, or_true, not_false_eq_true, not_true_eq_false, and_self, and_true, true_and, LIT, Int32.reduceLT, Int32.reduceLE, Int32.reduceToNatClampNeg]
  rw [s0, if_neg (show ¬ nI 1 = 2 by decide), b2, c_fill hD (by omega : 5 * c ≤ 300) W2 v6 (by rw [vA]; exact q3) q5.2.2.1.1 (fun x hx => by have := q5.1 x hx; omega), bkV_s, vA]
  -- the holes of the first are filled
  have W3 : SW (setF M2 62 (flF (aI M 62) ya (nI (5 * mid)))) := W2
  have F3 : Fr (fun o k => o = 62 ∧ 5 * lo0 ≤ k) M2 (setF M2 62 (flF (aI M 62) ya (nI (5 * mid)))) := by
    refine ⟨rfl, rfl, rfl, rfl, rfl, rfl, rfl, fun _ _ _ => rfl, fun o k q => ?_⟩
    show (if o = 62 then flF (aI M 62) ya (nI (5 * mid)) else aI M2 o) k = aI M2 o k
    by_cases e : o = 62
    · subst e
      rw [if_pos rfl, vA]
      unfold flF
      rw [if_neg (fun z => by have := q5.1 k z; omega)]
    · rw [if_neg e]
  have u62 : aI (setF M2 62 (flF (aI M 62) ya (nI (5 * mid)))) 62 = flF (aI M 62) ya (nI (5 * mid)) := rfl
  have uo : ∀ o, o ≠ 62 → aI (setF M2 62 (flF (aI M 62) ya (nI (5 * mid)))) o = aI M o := fun o q => by
    show (if o = 62 then flF (aI M 62) ya (nI (5 * mid)) else aI M2 o) = _
    rw [if_neg q, vA]
  have u16 : mI (setF M2 62 (flF (aI M 62) ya (nI (5 * mid)))) 61 16 = nI (ps.length + 1) := v16
  have u6 : mI (setF M2 62 (flF (aI M 62) ya (nI (5 * mid)))) 61 6 = nI (5 * c) := v6
  generalize setF M2 62 (flF (aI M 62) ya (nI (5 * mid))) = M3 at *
  simp only [SW.all W3, u16, cp, np, cp1, np1, nI_pred, MR, ckk_T, deR_s, deQ_s, deQ_n, bkV_s, bkI_s, bkJ_s, bkQ_s, bkQ_n, ckb0, ckb1, ckb2, ckb3, eq_self, Nat.reduceEqDiff, Nat.reduceLeDiff, Nat.reduceLT, reduceIte, true_or, or_true, not_false_eq_true, not_true_eq_false, and_self, and_true, true_and, LIT, Int32.reduceLT, Int32.reduceLE, Int32.reduceToNatClampNeg]
  rw [uo 67 (by decide), eq_Clerk_joinDownTo_189]
  have W4 : SW (setA M3 67 ps.length (aI M 67 (ps.length + 1))) := W3
  have F4 : Fr (fun o k => o = 67) M3 (setA M3 67 ps.length (aI M 67 (ps.length + 1))) := Fr.setA (P := fun o k => o = 67) M3 _ rfl
  have w67 : aI (setA M3 67 ps.length (aI M 67 (ps.length + 1))) 67 = va_up (aI M 67) ps.length (aI M 67 (ps.length + 1)) := by
    show va_up (aI M3 67) _ _ = _
    rw [uo 67 (by decide)]
  generalize setA M3 67 ps.length (aI M 67 (ps.length + 1)) = M4 at *
  have w16 : mI M4 61 16 = nI (ps.length + 1) := by rw [F4.i (by omega)]; exact u16
  have w6 : mI M4 61 6 = nI (5 * c) := by rw [F4.i (by omega)]; exact u6
  have w66 : aI M4 66 = aI M 66 := by rw [F4.af (fun k => by omega)]; exact uo 66 (by decide)
  have w62 : aI M4 62 = flF (aI M 62) ya (nI (5 * mid)) := by rw [F4.af (fun k => by omega)]; exact u62
  have w65 : aI M4 65 = aI M 65 := by rw [F4.af (fun k => by omega)]; exact uo 65 (by decide)
  have w64 : aI M4 64 = aI M 64 := by rw [F4.af (fun k => by omega)]; exact uo 64 (by decide)
  simp only [SW.all W4, w16, w66, cp, np, cp1, np1, nI_pred, MR, ckk_T, deR_s, deQ_s, deQ_n, bkV_s, bkI_s, bkJ_s, bkQ_s, bkQ_n, ckb0, ckb1, ckb2, ckb3, eq_self, Nat.reduceEqDiff, Nat.reduceLeDiff, Nat.reduceLT, reduceIte, true_or, or_true, not_false_eq_true, not_true_eq_false, and_self, and_true, true_and, LIT, Int32.reduceLT, Int32.reduceLE, Int32.reduceToNatClampNeg]
  have G0 : ∀ x, x ∉ ya → aI M4 62 x = aI M 62 x := fun x z => by rw [w62]; unfold flF; rw [if_neg z]
  have nbya : ∀ x, x ∈ nb → x ∉ ya := fun x z y => by have := b5.2.1 x z; have := q5.1 x y; omega
  have naya : ∀ x, x ∈ na → x ∉ ya := fun x z y => (q5.1 x y).2.2 z
  have ybya : ∀ x, x ∈ yb → x ∉ ya := fun x z y => by have := b5.1 x z; have := q5.1 x y; omega
  have cnb : chn (aI M4 62) (aI M 66 (ps.length + 1)) nb := chn_cg nb _ (fun x hx => G0 x (nbya x hx)) b4
  rw [c_chained hD (by omega : 5 * c ≤ 300) W4 w6 b5.2.2.1.2.2.2 cnb b5.2.2.1.2.1 (fun x hx => (b5.2.1 x hx).2), bkI_s]
  have W5 : SW (setA M4 62 nb.getLast! (aI M 66 ps.length)) := W4
  have F5 : Fr (fun o k => o = 62 ∧ 5 * lo0 ≤ k) M4 (setA M4 62 nb.getLast! (aI M 66 ps.length)) := Fr.setA (P := fun o k => o = 62 ∧ 5 * lo0 ≤ k) M4 _ ⟨rfl, by omega⟩
  have x62 : aI (setA M4 62 nb.getLast! (aI M 66 ps.length)) 62 = va_up (aI M4 62) nb.getLast! (aI M 66 ps.length) := rfl
  generalize setA M4 62 nb.getLast! (aI M 66 ps.length) = M5 at *
  simp only [SW.all W4, SW.all W5, cp, np, MR, ckk_T, deR_s, deQ_s, deQ_n, bkV_s, bkI_s, bkJ_s, bkQ_s, bkQ_n, ckb0, ckb1, ckb2, ckb3, eq_self, Nat.reduceEqDiff, Nat.reduceLeDiff, Nat.reduceLT, reduceIte, true_or, or_true, not_false_eq_true, not_true_eq_false, and_self, and_true, true_and, LIT, Int32.reduceLT, Int32.reduceLE, Int32.reduceToNatClampNeg]
  rw [eq_Clerk_joinDownTo_224]
  have x66 : aI M5 66 = aI M 66 := by rw [F5.af (fun k => by omega)]; exact w66
  have F6 : Fr (fun o k => o = 66) M5 (setA M5 66 ps.length (aI M 66 (ps.length + 1))) := Fr.setA (P := fun o k => o = 66) M5 _ rfl
  have y66 : aI (setA M5 66 ps.length (aI M 66 (ps.length + 1))) 66 = va_up (aI M 66) ps.length (aI M 66 (ps.length + 1)) := by
    show va_up (aI M5 66) _ _ = _
    rw [x66]
  refine ⟨setA M5 66 ps.length (aI M 66 (ps.length + 1)), rfl, ?_, ?_⟩
  · exact ((((F2.mono (fun o k q => by unfold Pk; omega)).trans (F3.mono (fun o k q => by unfold Pk; omega))).trans (F4.mono (fun o k q => by unfold Pk; omega))).trans (F5.mono (fun o k q => by unfold Pk; omega))).trans (F6.mono (fun o k q => by unfold Pk; omega))
  · generalize setA M5 66 ps.length (aI M 66 (ps.length + 1)) = M6 at *
    have y62 : aI M6 62 = va_up (aI M4 62) nb.getLast! (aI M 66 ps.length) := by rw [F6.af (fun k => by omega)]; exact x62
    have y67 : aI M6 67 = va_up (aI M 67) ps.length (aI M 67 (ps.length + 1)) := by rw [F6.af (fun k => by omega), F5.af (fun k => by omega)]; exact w67
    have y65 : aI M6 65 = aI M 65 := by rw [F6.af (fun k => by omega), F5.af (fun k => by omega)]; exact w65
    have y64 : aI M6 64 = aI M 64 := by rw [F6.af (fun k => by omega), F5.af (fun k => by omega)]; exact w64
    have FK : Fr (fun o k => 62 ≤ o ∨ (o = 61 ∧ 4 ≤ k)) M M6 := ((((F2.mono (fun o k q => by omega)).trans (F3.mono (fun o k q => by omega))).trans (F4.mono (fun o k q => by omega))).trans (F5.mono (fun o k q => by omega))).trans (F6.mono (fun o k q => by omega))
    have fI : ∀ k, k ≠ 10 → k ≠ 16 → mI M6 61 k = mI M 61 k := fun k k1 k2 => by rw [F6.i (by omega), F5.i (by omega), F4.i (by omega), F3.i (by omega), F2.i (by omega)]
    have f10 : mI M6 61 10 = nI xs.length := by rw [F6.i (by omega), F5.i (by omega), F4.i (by omega), F3.i (by omega)]; exact v10
    have f16 : mI M6 61 16 = nI (ps.length + 1) := by rw [F6.i (by omega), F5.i (by omega)]; exact w16
    have g : ∀ x, x ∉ ya → x ≠ nb.getLast! → aI M6 62 x = aI M 62 x := fun x z1 z2 => by rw [y62, up_n z2, G0 x z1]
    refine ⟨Pk_keep h1 FK, ⟨by rw [fI 6 (by decide) (by decide)]; exact a6, f10, by rw [fI 11 (by decide) (by decide)]; exact a11, by rw [fI 12 (by decide) (by decide)]; exact a12, f16⟩, by rw [y64]; exact h3.2, lo, nb ++ na, yb, ⟨q0, by omega⟩, by rw [y65]; exact q2, ?_, ?_, ?_, ?_⟩
    · rw [y66, up_s]
      refine chn_app (F := aI M4 62) (v := aI M 66 ps.length) nb _ b5.2.2.1.2.2.2 b5.2.2.1.2.1 (fun x z y => by have := b5.2.1 x z; have := q5.2.1 x y; omega) cnb (chn_cg na _ (fun x hx => G0 x (naya x hx)) q4) (fun x hx => ?_) (fun x hx z => by rw [y62, up_n z]) (by rw [y62, up_s])
      rw [y62, up_n (fun z => by have := q5.2.1 x hx; omega)]
    · rw [y67, up_s]
      exact chn_cg yb _ (fun x hx => g x (ybya x hx) (fun z => (b5.1 x hx).2.2 (by rw [z]; exact lb))) b3
    · have e : (fun s => !((!(wa s)) && (!(wb s)))) = fun s => wa s || wb s := by
        funext s
        cases wa s <;> cases wb s <;> rfl
      rw [← e]
      refine (Pce.and q5 b5 (by omega) b1 (fun x l u => ?_) (fun x l u z => ?_)).swap
      · rw [y62, up_n (by omega), w62]; rfl
      · exact g x (fun y => by have := q5.1 x y; omega) (fun y => z (by rw [y]; exact lb))
    · exact PSt_cg ps lo (fun x l u => g x (fun y => by have := q5.1 x y; omega) (by omega)) (fun i hi => ⟨by rw [y65], by rw [y66, up_n (by omega)], by rw [y67, up_n (by omega)]⟩) q6
