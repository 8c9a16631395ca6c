def cD (dn : Nat → Bool) : Nat → Nat
  | 0 => 0
  | n + 1 => cD dn n + (if dn n = true then 1 else 0)
theorem cD_le (dn : Nat → Bool) : ∀ n, cD dn n ≤ n
  | 0 => Nat.le_refl _
  | n + 1 => by have := cD_le dn n; unfold cD; split <;> omega
theorem cD_all {dn : Nat → Bool} : ∀ n, cD dn n = n → ∀ i, i < n → dn i = true
  | 0, _, i, hi => absurd hi (Nat.not_lt_zero i)
  | n + 1, h, i, hi => by
    have l := cD_le dn n
    unfold cD at h
    cases hd : dn n with
    | false => rw [hd, if_neg (by decide)] at h; omega
    | true =>
      rw [hd, if_pos rfl] at h
      by_cases q : i = n
      · rw [q]; exact hd
      · exact cD_all n (by omega) i (by omega)
theorem cD_cg {dn dn' : Nat → Bool} : ∀ n, (∀ i, i < n → dn' i = dn i) → cD dn' n = cD dn n
  | 0, _ => rfl
  | n + 1, h => by unfold cD; rw [cD_cg n (fun i hi => h i (by omega)), h n (by omega)]
theorem cD_up {dn : Nat → Bool} {p : Nat} (hd : dn p = false) : ∀ n, p < n → cD (va_up dn p true) n = cD dn n + 1
  | 0, h => absurd h (Nat.not_lt_zero p)
  | n + 1, h => by
    unfold cD
    by_cases q : p = n
    · subst q
      rw [up_s, hd, cD_cg p (fun i hi => up_n (by omega)), if_pos rfl, if_neg (by decide)]
    · rw [cD_up hd n (by omega), up_n (fun z => q z.symm)]; omega
theorem cD_ext {dn : Nat → Bool} {n : Nat} (h : ∀ i, n ≤ i → dn i = false) : ∀ k, cD dn (n + k) = cD dn n
  | 0 => rfl
  | k + 1 => by
    show cD dn (n + k) + (if dn (n + k) = true then 1 else 0) = _
    rw [cD_ext h k, h (n + k) (by omega), if_neg (by decide)]; rfl
theorem bstI_m2 {o : Option Nat} (h : ∀ v, o = some v → v < 2 ^ 31) : bstI o = -2 ↔ o = none := by
  cases o with
  | none => exact ⟨fun _ => rfl, fun _ => rfl⟩
  | some v => exact ⟨fun e => absurd e (fun e => nI_pos (h v rfl) (by have : nI v = -2 := e; rw [this]; decide)), fun e => by cases e⟩
theorem p_lightestOpen {D : Nat} (hD : 1 ≤ D) {M : ej_Mem} (hS : SW M) {b : BS} {wt : Nat → Option Nat} {dn : Nat → Bool} {B : Nat} (hB : B < 2 ^ 31) (h : SC M b wt dn B) : ∃ r, cal D jm_Scal_lightestOpen [.ref 85, .int (nI b.1.length)] M = some (some (.int r), M) ∧ lo wt dn b.1.length r := by
  obtain ⟨d, rfl⟩ : ∃ d, D = d + 1 := ⟨D - 1, by omega⟩
  rw [ca_Scal_lightestOpen, eq_Scal_lightestOpen_0]
  exact lo_loop (cal d) hS hB h b.1.length 0 (-1) (by omega) (Or.inl ⟨rfl, fun i hi => absurd hi (Nat.not_lt_zero i)⟩)
theorem p_weighMoves {D : Nat} (hD : 5 ≤ D) {own : Nat → Nat} {V : View} {gi wi : Nat} {y l5 : Int32} {dy : Bool} (hdy : l5 = b2i dy) {p ap B : Nat} (hB : B + 9999 < 2 ^ 31) (hap : ap ≤ B) {dn : Nat → Bool} {M : ej_Mem} {b : BS} {wt : Nat → Option Nat} (hq : QC M own V gi wi y) (hs : SC M b wt dn (B + 9999)) (h1 : b.2.2.2 = 1) (hj : DJm (vN V 0) (nxQ V gi y) (cstQ V dy) (tGv (vT V 1 gi)) b.1 wt dn p ap 0) :
    WMG V gi y dy p ap B dn M b wt (cal D jm_Scal_weighMoves [.ref 85, .ref 68, .ref 80, .ref 81, .int (nI p), .int l5] M) := by
  obtain ⟨d, rfl⟩ : ∃ d, D = d + 1 := ⟨D - 1, by omega⟩
  have hp := hj.2.2.2.2.1
  have h500 := hs.1.2.2.1
  rw [ca_Scal_weighMoves, eq_Scal_weighMoves_0]
  simp only [hs.1.1.1, hs.1.1.2.1, hs.1.1.2.2, MR, ckk_T, deR_s, deQ_s, deQ_n, bkV_s, bkI_s, bkJ_s, bkQ_s, bkQ_n, ckb0, ckb1, ckb2, ckb3, eq_self, Nat.reduceEqDiff, Nat.reduceLeDiff, Nat.reduceLT, reduceIte, true_or, or_true, not_false_eq_true, not_true_eq_false, and_self, and_true, true_and, LIT, Int32.reduceLT, Int32.reduceLE, Int32.reduceToNatClampNeg]
  rw [ckb_n (by omega) (by decide), nI_clamp (by omega), hs.1.2.2.2.2.1 p hp]
  exact wm_loop (by omega : 4 ≤ d) hdy hB hap (vN V 0) 0 M b wt _ _ _ _ (by omega) hq hs h1 hj rfl
/-- what the class answers -/
def LTG (V : View) (gi wi : Nat) (y : Int32) (dy : Bool) (M : ej_Mem) (r : Option ej_R) : Prop := ∃ M' b' v, r = some (some (.int v), M') ∧ Fr Psc M M' ∧ HR M' 81 500 1024 22 b' ∧ LeastS (vN V 0) (nxQ V gi y) (cstQ V dy) (tTs (vT V 2 wi)) (tGv (vT V 1 gi)) v
theorem LTG.after {V : View} {gi wi : Nat} {y : Int32} {dy : Bool} {M M1 : ej_Mem} {r : Option ej_R} (h : LTG V gi wi y dy M1 r) (f : Fr Psc M M1) : LTG V gi wi y dy M r := by
  obtain ⟨M', b', v, h1, h2, h3, h4⟩ := h
  exact ⟨M', b', v, h1, f.trans h2, h3, h4⟩
theorem lt_loop {D : Nat} (hD : 5 ≤ D) {own : Nat → Nat} {V : View} {gi wi : Nat} {y l5 : Int32} {dy : Bool} (hdy : l5 = b2i dy) : ∀ (n k : Nat) (M : ej_Mem) (b : BS) (wt : Nat → Option Nat) (dn : Nat → Bool) (o : Option Nat) (o7 : Option Value), k + n = 500 → QC M own V gi wi y → SC M b wt dn (9999 * k) → b.2.2.2 = 1 → DJ (vN V 0) (nxQ V gi y) (cstQ V dy) (tGv (vT V 1 gi)) b.1 wt dn → DJb (tTs (vT V 2 wi)) b.1 wt dn o → cD dn b.1.length = k →
    LTG V gi wi y dy M (rn jm_Scal_lightest (cal D) 50 [some (.ref 85), some (.ref 68), some (.ref 80), some (.ref 81), some (.int l5), some (.int (bstI o)), some (.int (nI k)), o7] [] M)
  | 0, k, M, b, wt, dn, o, o7, hk, hq, hs, h1, hj, hb, hc => by
    have h500 := hs.1.2.2.1
    have hl := cD_le dn b.1.length
    obtain rfl : k = 500 := by omega
    rw [eq_Scal_lightest_50, if_pos (show (500 : Int32) ≤ nI 500 by decide)]
    exact ⟨M, b, _, rfl, Fr.refl _ M, hs.1, hj.ended (cD_all _ (by omega)) h500 hb⟩
  | n + 1, k, M, b, wt, dn, o, o7, hk, hq, hs, h1, hj, hb, hc => by
    have h500 := hs.1.2.2.1
    have hv := hq.1.2.2.2.2.2.1
    rw [eq_Scal_lightest_50, if_neg (show ¬ (500 : Int32) ≤ nI k from nI_ge (a := k) (b := 500) (by omega) (by decide))]
    simp only [SW.all hq.1.1, hs.1.2.1, MR, ckk_T, deR_s, deQ_s, deQ_n, bkV_s, bkI_s, bkJ_s, bkQ_s, bkQ_n, ckb0, ckb1, ckb2, ckb3, eq_self, Nat.reduceEqDiff, Nat.reduceLeDiff, Nat.reduceLT, reduceIte, true_or, or_true, not_false_eq_true, not_true_eq_false, and_self, and_true, true_and, LIT, Int32.reduceLT, Int32.reduceLE, Int32.reduceToNatClampNeg]
    obtain ⟨r, er, hr⟩ := p_lightestOpen (by omega : 1 ≤ D) hq.1.1 (by omega) hs
    rw [er, bkI_s]
    rcases hr with ⟨rfl, ha⟩ | ⟨p, p1, rfl, p3, p4⟩
    · rw [if_pos rfl]
      exact ⟨M, b, _, rfl, Fr.refl _ M, hs.1, hj.ended ha h500 hb⟩
    · rw [if_neg (nI_nm (by omega))]
      simp only [SW.all hq.1.1, MR, ckk_T, deR_s, deQ_s, deQ_n, bkV_s, bkI_s, bkJ_s, bkQ_s, bkQ_n, ckb0, ckb1, ckb2, ckb3, eq_self, Nat.reduceEqDiff, Nat.reduceLeDiff, Nat.reduceLT, reduceIte, true_or, or_true, not_false_eq_true, not_true_eq_false, and_self, and_true, true_and, LIT, Int32.reduceLT, Int32.reduceLE, Int32.reduceToNatClampNeg]
      rw [ckb_n (by omega) (by decide), nI_clamp (by omega), nar_1]
      obtain ⟨ap, wp, ep, bp⟩ := hs.2.1 p p1
      have DM := hj.start p1 p3 wp (fun j x hj' q w => p4 j ap x hj' q wp w)
      have f2 : Fr (fun o j => o = 87) M (setA M 87 p 1) := Fr.setA (P := fun o j => o = 87) M _ rfl
      have v87 : aI (setA M 87 p 1) 87 = va_up (aI M 87) p 1 := rfl
      have c2 : mC (setA M 87 p 1) = mC M ∧ mN (setA M 87 p 1) = mN M ∧ mR (setA M 87 p 1) = mR M := ⟨rfl, rfl, rfl⟩
      generalize setA M 87 p 1 = M2 at *
      have z122 := hq.1.2.2.1
      have F2 : Fr Psc M M2 := f2.mono (fun o j q => Or.inr (Or.inr q))
      have H2 : HR M2 81 500 1024 22 b := hs.1.g f2.g (fun o u v => ⟨by omega, fun j q => by omega⟩)
      have a86 : aI M2 86 = aI M 86 := f2.af (fun j q => by omega)
      have S2 : SC M2 b wt (va_up dn p true) (9999 * k) := by
        refine ⟨H2, fun i hi => by rw [a86]; exact hs.2.1 i hi, fun i hi => ?_, fun i hi => by rw [up_n (by omega)]; exact hs.2.2.2 i hi⟩
        by_cases q : i = p
        · subst q; rw [v87, up_s, up_s]; rfl
        · rw [v87, up_n q, up_n q]; exact hs.2.2.1 i hi
      have Q2 := hq.sc F2 H2
      have W2 := p_weighMoves hD hdy (B := 9999 * k) (by omega) bp Q2 (S2.mono (by omega)) h1 DM
      -- what follows the weighing
      have go : ∀ (o' : Option Nat), DJb (tTs (vT V 2 wi)) b.1 wt (va_up dn p true) o' → ∀ (K : ej_Mem → Option ej_R), (∀ M', K M' = ckk (mC M' 81 = 1) (if mI M' 81 7 = 4 then some (some (.int (-3)), M') else rn jm_Scal_lightest (cal D) 50 [some (.ref 85), some (.ref 68), some (.ref 80), some (.ref 81), some (.int l5), some (.int (bstI o')), some (.int (nI (k + 1))), some (.int (nI p))] [] M')) → LTG V gi wi y dy M2 (bkV (cal D jm_Scal_weighMoves [.ref 85, .ref 68, .ref 80, .ref 81, .int (nI p), .int l5] M2) K) := by
        intro o' hb' K hK
        obtain ⟨M3, b3, wt3, e3, f3, s3, x3, w3, g3⟩ := W2
        rw [e3, bkV_s, hK, ckk_t s3.1.1.1.1, s3.1.2.1.2.2]
        rcases g3 with ⟨t3, d3⟩ | ⟨t3, d3⟩
        · rw [t3, if_neg (by decide)]
          refine LTG.after ?_ f3
          refine lt_loop hD hdy n (k + 1) M3 b3 wt3 _ o' _ (by omega) (Q2.sc f3 s3.1) (by rw [show 9999 * (k + 1) = 9999 * k + 9999 by omega]; exact s3) t3 d3.fin ?_ ?_
          · have fw : ∀ i, va_up dn p true i = true → i < b.1.length := fun i q => by
              rcases Nat.lt_or_ge i b.1.length with z | z
              · exact z
              · rw [S2.2.2.2 i z] at q; cases q
            cases o' with
            | none => exact fun i hi q => by rw [x3.2 i (fw i q)]; exact hb' i (fw i q) q
            | some v =>
              obtain ⟨⟨i, i1, i2, i3, i4⟩, m⟩ := hb'
              exact ⟨⟨i, by have := x3.1; omega, i2, by rw [x3.2 i i1]; exact i3, by rw [w3 i i2]; exact i4⟩, fun j z hj' q u w => m j z (fw j q) q (by rw [← x3.2 j (fw j q)]; exact u) (by rw [← w3 j q]; exact w)⟩
          · obtain ⟨z, hz⟩ := Nat.le.dest x3.1
            rw [← hz, cD_ext S2.2.2.2, cD_up p3 _ p1, hc]
        · rw [t3, if_pos (show nI 4 = 4 by decide)]
          exact ⟨M3, b3, _, rfl, f3, s3.1, Or.inl ⟨d3, rfl⟩⟩
      refine LTG.after ?_ F2
      have ob : ∀ v, o = some v → v < 2 ^ 31 := fun v e => by
        subst e
        obtain ⟨⟨i, i1, i2, i3, i4⟩, _⟩ := hb
        obtain ⟨u, u1, u2, u3⟩ := hs.2.1 i i1
        rw [i4] at u1
        cases u1
        omega
      cases o with
      | some v =>
        rw [if_neg (fun e => by cases (bstI_m2 ob).mp e), nI_1]
        refine go (some v) ?_ _ (fun M' => rfl)
        obtain ⟨⟨i, i1, i2, i3, i4⟩, m⟩ := hb
        have ip : i ≠ p := fun z => by rw [z, p3] at i2; cases i2
        refine ⟨⟨i, i1, by rw [up_n ip]; exact i2, i3, i4⟩, fun j z hj' q u w => ?_⟩
        by_cases e : j = p
        · subst e
          exact hj.2.2.2 i j v z i1 p1 i2 p3 i4 w
        · rw [up_n e] at q; exact m j z hj' q u w
      | none =>
        rw [if_pos (show bstI none = -2 from rfl), hq.2.2.2.1.2.1]
        have hv2 := Q2.1.2.2.2.2.2.1
        have hwi : wi < nL M2 68 2 := by rw [hv2.2.2.1 2 (by decide)]; exact hq.2.2.1
        have wl : wL M2 68 2 wi = wL M 68 2 wi := by unfold wL; rw [f2.ar]
        have hW := ((hv2.2.1 2 (by decide)).2.2 wi hwi).2
        rw [wl] at hW
        have hWM := ((hv.2.1 2 (by decide)).2.2 wi (by rw [hv.2.2.1 2 (by decide)]; exact hq.2.2.1)).2
        simp only [hWM.1, hs.1.1.1, hs.1.1.2.1, hs.1.1.2.2, MR, ckk_T, deR_s, deQ_s, deQ_n, bkV_s, bkI_s, bkJ_s, bkQ_s, bkQ_n, ckb0, ckb1, ckb2, ckb3, eq_self, Nat.reduceEqDiff, Nat.reduceLeDiff, Nat.reduceLT, reduceIte, true_or, or_true, not_false_eq_true, not_true_eq_false, and_self, and_true, true_and, LIT, Int32.reduceLT, Int32.reduceLE, Int32.reduceToNatClampNeg]
        rw [ckb_n (by omega) (by decide)]
        have E := p_isTrueC (by omega : 2 ≤ D) hW hW.ent (b.1.getD p 0)
        have tt := hv2.tst (k := 2) (i := wi) (by decide) hq.2.2.1 (b.1.getD p 0)
        rw [wl] at tt
        rw [tt] at E
        have i5 : mI M2 (wL M 68 2 wi) 5 = mI M (wL M 68 2 wi) 5 := by
          have o1 := hq.1.2.2.2.2.1.2.1 2 (by decide) wi (by rw [hv.2.2.1 2 (by decide)]; exact hq.2.2.1)
          have o7 := hq.1.2.2.2.1.2.2.2.2.1 87 (by omega) (by omega)
          exact f2.i (fun z => by rw [z] at o1; omega)
        rw [i5] at E
        rw [hs.1.2.2.2.2.1 p p1, E, bkI_s]
        have hbp : ∀ i, i < b.1.length → va_up dn p true i = true → i ≠ p → tTs (vT V 2 wi) (b.1.getD i 0) = false := fun i hi q z => by
          rw [up_n z] at q; exact hb i hi q
        cases hw : tTs (vT V 2 wi) (b.1.getD p 0) with
        | false =>
          rw [if_pos (show b2i false = 0 from rfl), nI_1]
          simp only [SW.all Q2.1.1, MR, ckk_T, deR_s, deQ_s, deQ_n, bkV_s, bkI_s, bkJ_s, bkQ_s, bkQ_n, ckb0, ckb1, ckb2, ckb3, eq_self, Nat.reduceEqDiff, Nat.reduceLeDiff, Nat.reduceLT, reduceIte, true_or, or_true, not_false_eq_true, not_true_eq_false, and_self, and_true, true_and, LIT, Int32.reduceLT, Int32.reduceLE, Int32.reduceToNatClampNeg]
          refine go none (fun i hi q => ?_) _ (fun M' => rfl)
          by_cases z : i = p
          · rw [z]; exact hw
          · exact hbp i hi q z
        | true =>
          rw [if_neg (show ¬ b2i true = 0 by decide), nI_1]
          simp only [SW.all Q2.1.1, MR, ckk_T, deR_s, deQ_s, deQ_n, bkV_s, bkI_s, bkJ_s, bkQ_s, bkQ_n, ckb0, ckb1, ckb2, ckb3, eq_self, Nat.reduceEqDiff, Nat.reduceLeDiff, Nat.reduceLT, reduceIte, true_or, or_true, not_false_eq_true, not_true_eq_false, and_self, and_true, true_and, LIT, Int32.reduceLT, Int32.reduceLE, Int32.reduceToNatClampNeg]
          rw [ckb_n (by omega) (by decide), a86, ep]
          refine go (some ap) ⟨⟨p, p1, up_s _ _ _, hw, wp⟩, fun j z hj' q u w => ?_⟩ _ (fun M' => rfl)
          by_cases e : j = p
          · subst e; rw [wp] at w; cases w; exact Nat.le_refl _
          · rw [hbp j hj' q e] at u; cases u
theorem p_lightest {D : Nat} (hD : 6 ≤ D) {own : Nat → Nat} {V : View} {gi wi : Nat} {y l5 : Int32} {dy : Bool} (hdy : l5 = b2i dy) {M : ej_Mem} (hq : QC M own V gi wi y) : LTG V gi wi y dy M (cal D jm_Scal_lightest [.ref 85, .ref 68, .ref 80, .ref 81, .int l5] M) := by
  obtain ⟨d, rfl⟩ : ∃ d, D = d + 1 := ⟨D - 1, by omega⟩
  have hv := hq.1.2.2.2.2.2.1
  obtain ⟨b0, hb0⟩ := hq.1.2.2.2.2.2.2.2
  have hG := ((hv.2.1 1 (by decide)).2.2 gi (by rw [hv.2.2.1 1 (by decide)]; exact hq.2.1)).2
  have hz := hq.1.2.2.1
  rw [ca_Scal_lightest, eq_Scal_lightest_0]
  simp only [SW.all hq.1.1, hq.2.2.2.1.1, hq.2.2.2.1.2.1, hG.1, MR, ckk_T, deR_s, deQ_s, deQ_n, bkV_s, bkI_s, bkJ_s, bkQ_s, bkQ_n, ckb0, ckb1, ckb2, ckb3, eq_self, Nat.reduceEqDiff, Nat.reduceLeDiff, Nat.reduceLT, reduceIte, true_or, or_true, not_false_eq_true, not_true_eq_false, and_self, and_true, true_and, LIT, Int32.reduceLT, Int32.reduceLE, Int32.reduceToNatClampNeg]
  rw [firstC_v hv hq.2.1]
  obtain ⟨M1, e1, f1, H1⟩ := p_beginN (by omega : 4 ≤ d) hz5 hb0 (tGv (vT V 1 gi))
  rw [e1, bkV_s]
  have F1 : Fr Psc M M1 := f1.mono (fun o j q => Or.inl q)
  have Q1 := hq.sc F1 H1
  simp only [SW.all Q1.1.1, MR, ckk_T, deR_s, deQ_s, deQ_n, bkV_s, bkI_s, bkJ_s, bkQ_s, bkQ_n, ckb0, ckb1, ckb2, ckb3, eq_self, Nat.reduceEqDiff, Nat.reduceLeDiff, Nat.reduceLT, reduceIte, true_or, or_true, not_false_eq_true, not_true_eq_false, and_self, and_true, true_and, LIT, Int32.reduceLT, Int32.reduceLE, Int32.reduceToNatClampNeg]
  rw [nar_0]
  have f2 : Fr (fun o j => o = 86 ∨ o = 87) M1 (setA (setA M1 86 0 0) 87 0 0) := (Fr.setA (P := fun o j => o = 86 ∨ o = 87) M1 _ (Or.inl rfl)).trans (Fr.setA (P := fun o j => o = 86 ∨ o = 87) _ _ (Or.inr rfl))
  have v86 : aI (setA (setA M1 86 0 0) 87 0 0) 86 0 = 0 := rfl
  have v87 : aI (setA (setA M1 86 0 0) 87 0 0) 87 0 = 0 := rfl
  generalize setA (setA M1 86 0 0) 87 0 0 = M2 at *
  have z1 := Q1.1.2.2.1
  have H2 : HR M2 81 500 1024 22 (b_new (fun _ => false) (tGv (vT V 1 gi))) := H1.g f2.g (fun o u v => ⟨by omega, fun j q => by omega⟩)
  have F2 : Fr Psc M1 M2 := f2.mono (fun o j q => Or.inr q)
  refine LTG.after ?_ (F1.trans F2)
  have len : (b_new (fun _ => false) (tGv (vT V 1 gi))).1.length = 1 := rfl
  have i0 : ∀ i, i < (b_new (fun _ => false) (tGv (vT V 1 gi))).1.length → i = 0 := fun i hi => by rw [len] at hi; omega
  have S2 : SC M2 (b_new (fun _ => false) (tGv (vT V 1 gi))) (fun _ => some 0) (fun _ => false) (9999 * 0) := by
    refine ⟨H2, fun i hi => ⟨0, rfl, ?_, Nat.le_refl _⟩, fun i hi => ?_, fun _ _ => rfl⟩
    · rw [i0 i hi]; exact v86
    · rw [i0 i hi]; exact v87
  have J2 : DJ (vN V 0) (nxQ V gi y) (cstQ V dy) (tGv (vT V 1 gi)) (b_new (fun _ => false) (tGv (vT V 1 gi))).1 (fun _ => some 0) (fun _ => false) := by
    refine ⟨⟨by rw [len]; omega, rfl, rfl⟩, fun i hi v e => ?_, fun i _ q => absurd q Bool.false_ne_true, fun i j a b _ _ q => absurd q Bool.false_ne_true⟩
    rw [i0 i hi]
    cases e
    exact Pth.nil
  exact lt_loop (by omega : 5 ≤ d) hdy 500 0 M2 _ _ _ none _ (by omega) (Q1.sc F2 H2) S2 rfl J2 (fun i _ q => absurd q Bool.false_ne_true) rfl
/-- least: what it must answer -/
def leastR (V : View) (g w y x : Int32) (r : Int32) : Prop := if (inB x 0 1 && askB V g w y) = true then LeastS (vN V 0) (nxQ V g.toNatClampNeg y) (cstQ V (decide (x = 1))) (tTs (vT V 2 w.toNatClampNeg)) (tGv (vT V 1 g.toNatClampNeg)) r else r = -1
theorem leastR.one {V : View} {g w y x r r' : Int32} (h : leastR V g w y x r) (h' : leastR V g w y x r') : r = r' := by
  unfold leastR at h h'
  split at h
  · rename_i q
    rw [if_pos q] at h'
    exact h.one h'
  · rename_i q
    rw [if_neg q] at h'
    rw [h, h']
theorem inB01q {x : Int32} : inB x 0 1 = true ↔ ¬ x < 0 ∧ ¬ 1 < x := by
  unfold inB
  rw [decide_eq_true_iff]
  exact ⟨fun h => ⟨Int32.not_lt.mpr h.1, Int32.not_lt.mpr h.2⟩, fun h => ⟨Int32.not_lt.mp h.1, Int32.not_lt.mp h.2⟩⟩
theorem inB01q_c {x : Int32} (h : inB x 0 1 = true) : x = 0 ∨ x = 1 := by
  have : hasB 2 x = true := by
    unfold inB at h
    unfold hasB
    have h := of_decide_eq_true h
    exact decide_eq_true ⟨h.1, Int32.lt_of_le_of_lt h.2 (by decide)⟩
  obtain ⟨j, hj, rfl⟩ := (hasB_iff (by decide)).mp this
  have : j = 0 ∨ j = 1 := by omega
  rcases this with rfl | rfl
  · exact Or.inl rfl
  · exact Or.inr rfl
theorem c_least {D : Nat} (hD : 7 ≤ D) {M : ej_Mem} {own : Nat → Nat} {V : View} (h : KC M own V) (g w y x : Int32) : ∃ M' r, cal D jm_Suit_least [.ref 59, .int g, .int w, .int y, .int x] M = some (some (.int r), M') ∧ FrG (P7 own) M M' ∧ KC M' own V ∧ leastR V g w y x r := by
  obtain ⟨d, rfl⟩ : ∃ d, D = d + 1 := ⟨D - 1, by omega⟩
  rw [ca_Suit_least, eq_Suit_least_0]
  unfold leastR
  cases hx : inB x 0 1
  · have nn : ∀ r : Int32, r = -1 → (if (false && askB V g w y) = true then LeastS (vN V 0) (nxQ V g.toNatClampNeg y) (cstQ V (decide (x = 1))) (tTs (vT V 2 w.toNatClampNeg)) (tGv (vT V 1 g.toNatClampNeg)) r else r = -1) := fun r e => by rw [Bool.false_and, if_neg Bool.false_ne_true]; exact e
    have hn : x < 0 ∨ 1 < x := by
      by_cases a : x < 0
      · exact Or.inl a
      · by_cases b : 1 < x
        · exact Or.inr b
        · rw [inB01q.mpr ⟨a, b⟩] at hx; cases hx
    by_cases a : x < 0
    · rw [if_pos a]; exact ⟨M, _, rfl, FrG.refl _ M, h, nn _ rfl⟩
    · rw [if_neg a, if_pos (by rcases hn with z | z; exact absurd z a; exact z)]; exact ⟨M, _, rfl, FrG.refl _ M, h, nn _ rfl⟩
  · obtain ⟨x1, x2⟩ := inB01q.mp hx
    obtain ⟨M1, e1, f1, t1⟩ := p_setTerms (by omega : 2 ≤ d) h g w y
    have K1 := Pq80 h f1
    have G1 := g80 h.2.2.2.1 f1
    rw [if_neg x1, if_neg x2]
    simp only [SW.all h.1, MR, ckk_T, deR_s, deQ_s, deQ_n, bkV_s, bkI_s, bkJ_s, bkQ_s, bkQ_n, ckb0, ckb1, ckb2, ckb3, eq_self, Nat.reduceEqDiff, Nat.reduceLeDiff, Nat.reduceLT, reduceIte, true_or, or_true, not_false_eq_true, not_true_eq_false, and_self, and_true, true_and, LIT, Int32.reduceLT, Int32.reduceLE, Int32.reduceToNatClampNeg]
    rw [e1]
    simp only [MR, ckk_T, deR_s, deQ_s, deQ_n, bkV_s, bkI_s, bkJ_s, bkQ_s, bkQ_n, ckb0, ckb1, ckb2, ckb3, eq_self, Nat.reduceEqDiff, Nat.reduceLeDiff, Nat.reduceLT, reduceIte, true_or, or_true, not_false_eq_true, not_true_eq_false, and_self, and_true, true_and, LIT, Int32.reduceLT, Int32.reduceLE, Int32.reduceToNatClampNeg]
    cases ha : askB V g w y
    · exact ⟨M1, _, rfl, G1, K1, rfl⟩
    · obtain ⟨gi, wi, hg, hw, rfl, rfl, c1, c2, hy, T⟩ := t1.ts h.2.2.2.2.2.2.1 f1 h.2.2.1 ha
      have Q1 : QC M1 own V gi wi y := ⟨K1, hg, hw, T, fun m hm => t1.op h.2.2.2.2.2.2.1 hm⟩
      simp only [SW.all K1.1, MR, ckk_T, deR_s, deQ_s, deQ_n, bkV_s, bkI_s, bkJ_s, bkQ_s, bkQ_n, ckb0, ckb1, ckb2, ckb3, eq_self, Nat.reduceEqDiff, Nat.reduceLeDiff, Nat.reduceLT, reduceIte, true_or, or_true, not_false_eq_true, not_true_eq_false, and_self, and_true, true_and, LIT, Int32.reduceLT, Int32.reduceLE, Int32.reduceToNatClampNeg, b2i_t]
      rw [c1, c2, Bool.true_and]
      simp only [reduceIte]
      rcases inB01q_c hx with rfl | rfl
      · obtain ⟨M', b', v, e2, f2, H2, L⟩ := p_lightest (by omega : 6 ≤ d) (l5 := 0) (dy := false) rfl Q1
        rw [if_neg (by decide), e2]
        exact ⟨M', v, rfl, G1.trans (f2.g.mono (fun o j _ q => by unfold Psc Ph at q; unfold P7; omega)), K1.sc f2 H2, L⟩
      · obtain ⟨M', b', v, e2, f2, H2, L⟩ := p_lightest (by omega : 6 ≤ d) (l5 := 1) (dy := true) rfl Q1
        rw [if_pos rfl, e2]
        exact ⟨M', v, rfl, G1.trans (f2.g.mono (fun o j _ q => by unfold Psc Ph at q; unfold P7; omega)), K1.sc f2 H2, L⟩
