/-! text of the reference, from its call on -/
theorem p_mostOf {D : Nat} (hD : 1 ≤ D) {so : Nat} (hs : so < 4) (M : ej_Mem) : cal D jm_Ref_mostOf [.int (nI so)] M = some (some (.int (nI (mst so))), M) := by
  obtain ⟨d, rfl⟩ : ∃ d, D = d + 1 := ⟨D - 1, by omega⟩
  rw [ca_Ref_mostOf, eq_Ref_mostOf_0]
  have a : so = 0 ∨ so = 1 ∨ so = 2 ∨ so = 3 := by omega
  rcases a with rfl | rfl | rfl | rfl <;> rfl
theorem p_slot {D : Nat} (hD : 1 ≤ D) {so : Nat} (hs : so < 4) (n : Nat) (M : ej_Mem) : cal D jm_Ref_slotOf [.int (nI so), .int (nI n)] M = some (some (.int (nI (pl so + n))), M) := by
  rw [p_slotOf hD]
  have a : so = 0 ∨ so = 1 ∨ so = 2 ∨ so = 3 := by omega
  rcases a with rfl | rfl | rfl | rfl
  · rw [if_pos (by rfl), Nat.add_comm]; exact congrArg (fun z => some (some (Value.int z), M)) (nI_add n 0)
  · rw [if_neg (by decide), if_pos (by rfl), Nat.add_comm]; exact congrArg (fun z => some (some (Value.int z), M)) (nI_add n 40)
  · rw [if_neg (by decide), if_neg (by decide), if_pos (by rfl), Nat.add_comm]; exact congrArg (fun z => some (some (Value.int z), M)) (nI_add n 48)
  · rw [if_neg (by decide), if_neg (by decide), if_neg (by decide), Nat.add_comm]; exact congrArg (fun z => some (some (Value.int z), M)) (nI_add n 64)
def PrT (o k : Nat) : Prop := P8 o k ∨ (o = 90 ∧ k = 1)
theorem Prd1_T {sl : Nat} {M M' : ej_Mem} (f : Fr (Prd1 sl) M M') : FrG PrT M M' := f.g.mono (fun o k _ q => by unfold Prd1 Pcl Pt at q; unfold PrT P8; omega)
/-- the reference is ready to read -/
def rdM (M : ej_Mem) (sl : Nat) : ej_Mem := setI (setI (setI (setI (setI (setI M 90 4 (nI sl)) 90 2 0) 90 3 0) 90 5 0) 90 6 0) 90 7 0
theorem rdM_fr {P : Nat → Nat → Prop} (M : ej_Mem) (sl : Nat) (hp : ∀ k, 2 ≤ k → k ≤ 7 → P 90 k) : Fr P M (rdM M sl) := (((((Fr.setI (P := P) M _ (hp _ (by decide) (by decide))).trans (Fr.setI (P := P) _ _ (hp _ (by decide) (by decide)))).trans (Fr.setI (P := P) _ _ (hp _ (by decide) (by decide)))).trans (Fr.setI (P := P) _ _ (hp _ (by decide) (by decide)))).trans (Fr.setI (P := P) _ _ (hp _ (by decide) (by decide)))).trans (Fr.setI (P := P) _ _ (hp _ (by decide) (by decide)))
/-- what a read text leaves, both sorts -/
def RdG (M M' : ej_Mem) (so sl : Nat) (x : Int32) (r : Nat ⊕ (Nat × Nat × Txt)) : Prop := Fr (Prd1 sl) M M' ∧ mI M' 90 1 = 0 ∧ RW M' ∧ mI M' 90 4 = nI sl ∧ match r with
  | .inl g => g ≠ 0 ∧ g < 2 ^ 30 ∧ mI M' 90 3 = nI g
  | .inr (n, _, T) => x = nI n ∧ mI M' 90 3 = 0 ∧ n ≤ 12 ∧ (48 ≤ sl → n = 1) ∧ (∀ i, i < n → clOK (aI M') sl (12 * sl + i) ∧ (sl < 40 → aI M' 96 (12 * sl + i) = 0 → aI M' 98 (12 * sl + i) ≠ aI M' 99 (12 * sl + i)) ∧ (40 ≤ sl → sl < 48 → aI M' 96 (12 * sl + i) = 1 → aI M' 98 (12 * sl + i) ≠ aI M' 99 (12 * sl + i)) ∧ (48 ≤ sl → aI M' 98 (12 * sl + i) ≠ aI M' 99 (12 * sl + i))) ∧ ∀ A : Arr, (∀ o, 93 ≤ o → o ≤ 99 → o ≠ 95 → A o = aI M' o) → A 95 sl = nI n → rTx A so (sl - pl so) = T
theorem r_read {D : Nat} (hD : 12 ≤ D) {M : ej_Mem} {t : Nat} {tp : Nat → Nat} {so sl : Nat} (hs : so < 4) (hi : ∃ i, i < mst so ∧ sl = pl so + i) (H : RL M t tp 0 0) (h4 : mI M 90 4 = nI sl) (h5 : mI M 90 5 = 0) (h6 : mI M 90 6 = 0) (h7 : mI M 90 7 = 0) : ∃ M' x, rn jm_Ref_text (cal D) 66 [some (.ref 90), some (.int (nI so)), none] [] M = rn jm_Ref_text (cal D) 151 [some (.ref 90), some (.int (nI so)), some (.int x)] [] M' ∧ RdG M M' so sl x (ptx tp t so) := by
  obtain ⟨i, hi, rfl⟩ := hi
  have hsl : pl so + i < 72 := pl_mst hs hi
  have t4 := H.2.2.1.1.1
  rw [eq_Ref_text_66]
  unfold ptx
  by_cases z : so < 2
  · rw [if_neg (show ¬ (2 : Int32) ≤ nI so from nI_ge (b := 2) z (by decide)), if_pos z]
    simp only [RW.all H.1, MR, ckk_T, deR_s, deQ_s, deQ_n, bkV_s, bkI_s, bkJ_s, bkQ_s, bkQ_n, ckb0, ckb1, ckb2, ckb3, eq_self, Nat.reduceEqDiff, Nat.reduceLeDiff, Nat.reduceLT, reduceIte, true_or, or_true, not_false_eq_true, not_true_eq_false, and_self, and_true, true_and, LIT, Int32.reduceLT, Int32.reduceLE, Int32.reduceToNatClampNeg]
    have s01 : so = 0 ∨ so = 1 := by omega
    have hs0 : so = 0 → pl so + i < 40 := fun q => by subst q; simp [pl, mst] at *; omega
    have C0 : RCs M t tp so (pl so + i) 0 (0, 0, 0, false, false, T0 so) := ⟨H, ⟨h4, h5, h6, h7⟩, fun j hj => absurd hj (Nat.not_lt_zero j), rTxn_0 _ _ _, ⟨by show 3 * 0 ≤ 0 + 3 * 0; omega, by show 0 ≤ 60; omega, Nat.zero_le _⟩, fun _ => ⟨⟨fun q => absurd q Bool.false_ne_true, fun ⟨j, q, _⟩ => absurd q (Nat.not_lt_zero j)⟩, ⟨fun q => absurd q Bool.false_ne_true, fun ⟨j, q, _⟩ => absurd q (Nat.not_lt_zero j)⟩⟩⟩
    obtain ⟨d, rfl⟩ : ∃ d, D = d + 1 := ⟨D - 1, by omega⟩
    rw [ca_Ref_clausesOf, eq_Ref_clausesOf_0]
    obtain ⟨M1, x, e1, F1, G1⟩ := r_clsloop (by omega : 10 ≤ d) z hsl hs0 14 M 0 0 0 0 false false (T0 so) (by omega) (by omega) C0
    have e1' : rn jm_Ref_clausesOf (cal d) 4 [some (.ref 90), some (.int (nI so)), some (.int 0), some (.int 1)] [] M = _ := e1
    rw [e1', bkI_s]
    have F2 : Fr (Prd1 (pl so + i)) M1 (setI M1 90 1 0) := Fr.setI (P := Prd1 (pl so + i)) M1 _ (Or.inr ⟨rfl, Or.inl rfl⟩)
    have F12 : Fr (Prd1 (pl so + i)) M (setI M1 90 1 0) := (F1.mono (fun _ _ q => Or.inl q)).trans F2
    have W1 : RW M1 := F1.rw H.1
    rw [ckk_t W1.1]
    have k4 : mI M1 90 4 = nI (pl so + i) := by rw [F1.i (by unfold Pcl Pt; omega)]; exact h4
    cases hr : clrun tp t so 14 (0, 0, 0, false, false, T0 so) with
    | inl g =>
      rw [hr] at G1
      obtain ⟨g0, gb, p, _, H1⟩ := G1
      exact ⟨_, x, rfl, F12, rfl, F2.rw W1, k4, g0, gb, H1.2.2.2.2⟩
    | inr y =>
      obtain ⟨n, c, T⟩ := y
      rw [hr] at G1
      obtain ⟨rfl, n12, n1, f0, j4, e, he, R, tx⟩ := G1
      refine ⟨_, _, rfl, F12, rfl, F2.rw W1, k4, rfl, f0, n12, fun q => ?_, fun j hj => ?_, fun A hA h95 => ?_⟩
      · rcases s01 with rfl | rfl <;> simp [pl, mst] at * <;> omega
      · obtain ⟨⟨a, b, r1, r2, r3, r4, r5⟩, r6, r7⟩ := R j hj
        refine ⟨⟨a, b, r1, r2, r3, by omega, r5⟩, fun q w => ?_, fun q q2 w => ?_, fun q => ?_⟩
        · rcases s01 with rfl | rfl
          · exact r6 rfl w
          · simp [pl] at q; omega
        · rcases s01 with rfl | rfl
          · have := hs0 rfl; omega
          · exact r7 rfl w
        · rcases s01 with rfl | rfl <;> simp [pl, mst] at * <;> omega
      · have S : SAg (aI M1) A (pl so + i) n e := ⟨fun j hj => ⟨by rw [hA 96 (by omega) (by omega) (by omega)]; rfl, by rw [hA 97 (by omega) (by omega) (by omega)]; rfl, by rw [hA 98 (by omega) (by omega) (by omega)]; rfl, by rw [hA 99 (by omega) (by omega) (by omega)]; rfl⟩, fun x _ _ => ⟨by rw [hA 93 (by omega) (by omega) (by omega)]; rfl, by rw [hA 94 (by omega) (by omega) (by omega)]; rfl⟩⟩
        have c95 : rC A (pl so + i) = n := by unfold rC; rw [h95, nI_clamp (by omega)]
        have e2 := rTxn_sa R S n12 he
        rw [tx] at e2
        rcases s01 with rfl | rfl
        · have := rTx_n (A := A) (so := 0) (sl := pl 0 + i) (n := n) (by decide) (by simp [pl]) c95
          rw [← e2, ← this]; rfl
        · have := rTx_n (A := A) (so := 1) (sl := pl 1 + i) (n := n) (by decide) (by simp [pl]) c95
          rw [← e2, ← this]; rfl
  · rw [if_pos (show (2 : Int32) ≤ nI so from nI_le (a := 2) (by omega) (by omega)), if_neg z]
    simp only [RW.all H.1, h4, mul12, MR, ckk_T, deR_s, deQ_s, deQ_n, bkV_s, bkI_s, bkJ_s, bkQ_s, bkQ_n, ckb0, ckb1, ckb2, ckb3, eq_self, Nat.reduceEqDiff, Nat.reduceLeDiff, Nat.reduceLT, reduceIte, true_or, or_true, not_false_eq_true, not_true_eq_false, and_self, and_true, true_and, LIT, Int32.reduceLT, Int32.reduceLE, Int32.reduceToNatClampNeg]
    rw [ckb_n (by omega) (by decide), nI_clamp (by omega), eq_Ref_text_95]
    have s48 : 48 ≤ pl so + i := by
      have : so = 2 ∨ so = 3 := by omega
      rcases this with rfl | rfl <;> simp [pl] <;> omega
    have FA : Fr (fun o j => o = 98 ∧ j = 12 * (pl so + i)) M (setA M 98 (12 * (pl so + i)) 0) := Fr.setA (P := fun o j => o = 98 ∧ j = 12 * (pl so + i)) M _ ⟨rfl, rfl⟩
    have HA : RL (setA M 98 (12 * (pl so + i)) 0) t tp 0 0 := H.keep FA (fun o j q => by omega)
    have v98 : aI (setA M 98 (12 * (pl so + i)) 0) 98 (12 * (pl so + i)) = 0 := gA_s _ _ _ _
    have iA : ∀ j, mI (setA M 98 (12 * (pl so + i)) 0) 90 j = mI M 90 j := fun j => rfl
    generalize setA M 98 (12 * (pl so + i)) 0 = MA at *
    obtain ⟨M1, e1, F1, G1⟩ := r_test (by omega : 9 ≤ D) HA ((iA 4).trans h4) ((iA 5).trans h5) ((iA 6).trans h6) ((iA 7).trans h7) (c := 0) (e0 := 0) hsl (by omega) (by omega) (Nat.zero_le _)
    rw [ckk_t HA.1.1, e1, bkV_s]
    have W1 := F1.rw HA.1
    have k4 : mI M1 90 4 = nI (pl so + i) := by rw [F1.i (by unfold Pt; omega), iA]; exact h4
    simp only [RW.all W1, k4, mul12, MR, ckk_T, deR_s, deQ_s, deQ_n, bkV_s, bkI_s, bkJ_s, bkQ_s, bkQ_n, ckb0, ckb1, ckb2, ckb3, eq_self, Nat.reduceEqDiff, Nat.reduceLeDiff, Nat.reduceLT, reduceIte, true_or, or_true, not_false_eq_true, not_true_eq_false, and_self, and_true, true_and, LIT, Int32.reduceLT, Int32.reduceLE, Int32.reduceToNatClampNeg]
    rw [ckb_n (by omega) (by decide), nI_clamp (by omega), eq_Ref_text_115]
    have FB : Fr (fun o j => o = 99 ∧ j = 12 * (pl so + i)) M1 (setA M1 99 (12 * (pl so + i)) (mI M1 90 5)) := Fr.setA (P := fun o j => o = 99 ∧ j = 12 * (pl so + i)) M1 _ ⟨rfl, rfl⟩
    have v99 : aI (setA M1 99 (12 * (pl so + i)) (mI M1 90 5)) 99 (12 * (pl so + i)) = mI M1 90 5 := gA_s _ _ _ _
    have W2 := FB.rw W1
    generalize setA M1 99 (12 * (pl so + i)) (mI M1 90 5) = M2 at *
    have F2 : Fr (Prd1 (pl so + i)) M M2 := ((FA.mono (fun o j q => Or.inl (Or.inr ⟨by omega, by omega, by omega⟩))).trans (F1.mono (fun o j q => Or.inl (Or.inl q)))).trans (FB.mono (fun o j q => Or.inl (Or.inr ⟨by omega, by omega, by omega⟩)))
    have k4b : mI M2 90 4 = nI (pl so + i) := by rw [FB.i (by omega)]; exact k4
    have S0 : ∀ (M3 : ej_Mem), RW M3 → Fr (Prd1 (pl so + i)) M2 M3 → Fr (Prd1 (pl so + i)) M (setI M3 90 1 0) := fun M3 W F => (F2.trans F).trans (Fr.setI (P := Prd1 (pl so + i)) _ _ (Or.inr ⟨rfl, Or.inl rfl⟩))
    have dead : ∀ g, (g ≠ 0 ∧ g < 2 ^ 30 ∧ ∃ p, p ≤ t + 1 ∧ RL M2 t tp p g) → ∃ M' x, (ckk (mC M2 90 = 9) (bkV (cal D jm_Ref_blanks [.ref 90] M2) fun M1 => ckk (mC M1 90 = 9) (if mI M1 90 3 = 0 then ckk (mC M1 90 = 9) (ckk (mC M1 90 = 9) (if mI M1 90 1 ≤ mI M1 90 2 then ckk (mC M1 90 = 9) (rn jm_Ref_text (cal D) 151 [some (.ref 90), some (.int (nI so)), some (.int 1)] [] (setI M1 90 1 0)) else ckk (mC M1 90 = 9) (ckk (mC M1 90 = 9) (bkV (cal D jm_Ref_fails [.ref 90, .int 0, .int (mI M1 90 2)] M1) fun M2 => ckk (mC M2 90 = 9) (rn jm_Ref_text (cal D) 151 [some (.ref 90), some (.int (nI so)), some (.int 1)] [] (setI M2 90 1 0)))))) else ckk (mC M1 90 = 9) (rn jm_Ref_text (cal D) 151 [some (.ref 90), some (.int (nI so)), some (.int 1)] [] (setI M1 90 1 0)))) = rn jm_Ref_text (cal D) 151 [some (.ref 90), some (.int (nI so)), some (.int x)] [] M' ∧ RdG M M' so (pl so + i) x (.inl g)) := by
      rintro g ⟨g0, gb, p, hp, H2⟩
      rw [ckk_t W2.1, r_blanks (by omega) H2 (by omega), bkV_s]
      have H3 := H2.pf (blk tp t p) g
      have F3 : Fr (Prd1 (pl so + i)) M2 (pf 90 M2 (blk tp t p) g) := (pf_Pt (pl so + i) 0 M2 _ _).mono (fun o j q => Or.inl (Or.inl q))
      have k4' : mI (pf 90 M2 (blk tp t p) g) 90 4 = nI (pl so + i) := by rw [(pf_fr 90 M2 _ _).i (by unfold Ppf; omega)]; exact k4b
      generalize pf 90 M2 (blk tp t p) g = M3 at *
      rw [ckk_t H3.1.1, H3.2.2.2.2, if_neg (nI_ne0 (by omega) (by omega)), ckk_t H3.1.1]
      exact ⟨_, 1, rfl, S0 M3 H3.1 F3, rfl, H3.1, k4', g0, gb, H3.2.2.2.2⟩
    cases hr : tst tp t 0 0 with
    | inl g =>
      rw [hr] at G1
      obtain ⟨g0, gb, p, hp, H1⟩ := G1
      exact dead g ⟨g0, gb, p, hp, H1.keep FB (fun o j q => by omega)⟩
    | inr y =>
      obtain ⟨p', w, c'⟩ := y
      rw [hr] at G1
      obtain ⟨e', X, b1, b2, b3, b4⟩ := G1
      have H2 : RL M2 t tp p' 0 := X.1.keep FB (fun o j q => by omega)
      rw [ckk_t W2.1, r_blanks (by omega) H2 (by omega), bkV_s]
      have q1 : p' ≤ blk tp t p' := bl_ge tp t 401 p'
      have q2 : blk tp t p' ≤ t := bl_le tp t 401 p' b3
      have H3 := H2.pf (blk tp t p') 0
      have F3 : Fr (Prd1 (pl so + i)) M2 (pf 90 M2 (blk tp t p') 0) := (pf_Pt (pl so + i) 0 M2 _ _).mono (fun o j q => Or.inl (Or.inl q))
      have k4' : mI (pf 90 M2 (blk tp t p') 0) 90 4 = nI (pl so + i) := by rw [(pf_fr 90 M2 _ _).i (by unfold Ppf; omega)]; exact k4b
      have a3 : aI (pf 90 M2 (blk tp t p') 0) = aI M2 := rfl
      generalize pf 90 M2 (blk tp t p') 0 = M3 at *
      have ef : mI M3 90 3 = 0 := H3.2.2.2.2
      rw [ckk_t H3.1.1, ef, if_pos rfl, ckk_t H3.1.1, ckk_t H3.1.1, H3.2.2.1.2.2.1, H3.2.2.2.1]
      dsimp only
      by_cases y : blk tp t p' < t
      · rw [if_neg (nI_ge y (by omega)), ckk_t H3.1.1, ckk_t H3.1.1, r_fails (by omega) H3 (by decide) (x := 0) (c := 0) rfl, bkV_s, if_pos y]
        have H4 := H3.pf (blk tp t p') (orF 0 (flt 0 (blk tp t p')))
        have F4 : Fr (Prd1 (pl so + i)) M3 (pf 90 M3 (blk tp t p') (orF 0 (flt 0 (blk tp t p')))) := (pf_Pt (pl so + i) 0 M3 _ _).mono (fun o j q => Or.inl (Or.inl q))
        have k4q : mI (pf 90 M3 (blk tp t p') (orF 0 (flt 0 (blk tp t p')))) 90 4 = nI (pl so + i) := by rw [(pf_fr 90 M3 _ _).i (by unfold Ppf; omega)]; exact k4'
        generalize pf 90 M3 (blk tp t p') (orF 0 (flt 0 (blk tp t p'))) = M4 at *
        rw [ckk_t H4.1.1]
        exact ⟨_, 1, rfl, S0 M4 H4.1 (F3.trans F4), rfl, H4.1, k4q, flt_pos 0 _, by unfold flt; omega, H4.2.2.2.2⟩
      · rw [if_pos (nI_le (by omega) (by omega)), ckk_t H3.1.1, if_neg y]
        have w93 : ∀ o, o ≠ 99 → aI M2 o = aI M1 o := fun o q => FB.af (fun k z => q z.1)
        have v98' : aI M2 98 (12 * (pl so + i)) = nI 0 := by rw [w93 98 (by decide), F1.a (by unfold Pt; omega)]; exact v98
        have v99' : aI M2 99 (12 * (pl so + i)) = nI e' := by rw [v99]; exact X.2.1.2.1
        have ne : aI M2 98 (12 * (pl so + i)) ≠ aI M2 99 (12 * (pl so + i)) := by
          rw [v98', v99']
          exact fun z => by have := (nI_eq (by omega) (by omega)).mp z; omega
        have RQ1 : RQ (aI M2 93) (aI M2 94) (200 * (pl so + i) + 0) (e' - 0) [w] := by rw [w93 93 (by decide), w93 94 (by decide)]; exact X.2.2.2.1
        refine ⟨_, 1, rfl, S0 M3 H3.1 F3, rfl, H3.1, k4', rfl, ef, by omega, fun _ => rfl, fun j hj => ?_, fun A hA h95 => ?_⟩
        · have : j = 0 := by omega
          subst this
          rw [Nat.add_zero]
          show clOK (aI M3) _ _ ∧ (_ → aI M3 96 _ = 0 → aI M3 98 _ ≠ aI M3 99 _) ∧ (_ → _ → aI M3 96 _ = 1 → aI M3 98 _ ≠ aI M3 99 _) ∧ (_ → aI M3 98 _ ≠ aI M3 99 _)
          rw [a3]
          exact ⟨⟨0, e', v98', v99', by omega, by omega, fun _ => RQ1.one.1⟩, fun _ _ => ne, fun _ _ _ => ne, fun _ => ne⟩
        · have hA' : ∀ o, 93 ≤ o → o ≤ 99 → o ≠ 95 → A o = aI M2 o := fun o l u q => by rw [hA o l u q]; exact congrFun a3 o
          have r2 : rTs A (12 * (pl so + i)) = w := by
            have := rTs_at (A := A) (sl := pl so + i) (n := 0) (e := 0) (e' := e') (by decide) (by omega) (by rw [Nat.add_zero, hA' 98 (by decide) (by decide) (by decide)]; exact v98') (by rw [Nat.add_zero, hA' 99 (by decide) (by decide) (by decide)]; exact v99') (by omega) (w := w) (by rw [hA' 93 (by decide) (by decide) (by decide), hA' 94 (by decide) (by decide) (by decide)]; exact RQ1)
            rwa [Nat.add_zero] at this
          have s23 : so = 2 ∨ so = 3 := by omega
          unfold rTx
          rcases s23 with rfl | rfl
          · rw [if_neg (by decide), if_neg (by decide), if_pos rfl]
            have e2 : 48 + (pl 2 + i - pl 2) = pl 2 + i := by simp [pl]
            rw [e2, r2]
          · rw [if_neg (by decide), if_neg (by decide), if_neg (by decide)]
            have e2 : 64 + (pl 3 + i - pl 3) = pl 3 + i := by simp [pl]
            rw [e2, r2]
