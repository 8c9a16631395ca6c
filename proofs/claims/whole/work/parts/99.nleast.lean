/-! least of the reference: all passes -/
def LRG (V : View) (gi wi : Nat) (y : Int32) (dy : Bool) (s : Int32) (M : ej_Mem) (r : Option ej_R) : Prop := ∃ M' v, r = some (some (.int v), M') ∧ Fr Plr M M' ∧ LeastS (vN V 0) (nxQ V gi y) (cstQ V dy) (tTs (vT V 2 wi)) s v
theorem rl_loop {D : Nat} (hD : 6 ≤ D) {V : View} {mk gi wi : Nat} {xs : List Int32} {y x : Int32} {dy : Bool} (hx : x = b2i dy) {s : Int32} (hcl : ∀ i, i < xs.length → ∀ m, m < vN V 0 → ∀ t, nxQ V gi y m (xs.getD i 0) = some t → t ∈ xs) (hf : ∃ xs : List Int32, xs.length ≤ 500 ∧ ∀ t, Rch (vN V 0) (nxQ V gi y) s t → t ∈ xs) : ∀ (n k : Nat) (M : ej_Mem) (wt : Nat → Option Nat) (dn : Nat → Bool) (r : Int32) (o6 o7 o8 : Option Value), k + n = xs.length → cD dn xs.length = k → QR M V mk gi wi xs → SR M xs wt dn (9999 * k) → DJ (vN V 0) (nxQ V gi y) (cstQ V dy) s xs wt dn → (∀ i, i < xs.length → dn i = true → tTs (vT V 2 wi) (xs.getD i 0) = false) → lr wt dn xs.length r →
    LRG V gi wi y dy s M (rn jm_Ref_least (cal D) 83 [some (.ref 90), some (.int (nI gi)), some (.int (nI wi)), some (.int y), some (.int x), some (.int r), o6, o7, o8] [] M)
  | n, k, M, wt, dn, r, o6, o7, o8, hk, hc, hq, hs, hj, hn, hl => by
    have h5 := hq.2.2.2.2.2.2
    have hV := hq.1.2.2.1
    have m2 := hV.1 2 (by decide)
    have m2' : mst 2 = 16 := rfl
    have hw16 := hq.2.2.1
    rw [eq_Ref_least_83]
    rcases hl with ⟨e, a⟩ | ⟨p, ap, p1, rfl, p3, p4, p5⟩
    · rw [if_pos e, if_pos e]
      exact ⟨M, _, rfl, Fr.refl _ M, hj.nothing a hn hf⟩
    · obtain ⟨ep, bp⟩ := hs.1 p p1
      have aB := bp ap p4
      rw [if_neg (nI_nm (by omega))]
      simp only [RW.all hq.1.1, MR, ckk_T, deR_s, deQ_s, deQ_n, bkV_s, bkI_s, bkJ_s, bkQ_s, bkQ_n, ckb0, ckb1, ckb2, ckb3, eq_self, Nat.reduceEqDiff, Nat.reduceLeDiff, Nat.reduceLT, reduceIte, true_or, or_true, not_false_eq_true, not_true_eq_false, and_self, and_true, true_and, LIT, Int32.reduceLT, Int32.reduceLE, Int32.reduceToNatClampNeg]
      rw [ckb_n (by omega) (by decide), nI_clamp (by omega), hq.2.2.2.2.2.1 p p1]
      obtain ⟨g1, e1⟩ := (p_isWished (by omega : 4 ≤ D) hq.1.1 (by omega) (hq.1.sl (k := 2) (by decide) hw16) (xs.getD p 0)).self
      rw [e1, bkI_s, rTs_2 hq.1.2.1 hw16]
      have Q1 := hq.fr (fr4 M g1)
      cases hy : tTs (vT V 2 wi) (xs.getD p 0) with
      | true =>
        rw [if_neg (show ¬ b2i true = 0 by decide), if_neg (nI_nm (by omega))]
        simp only [RW.all hq.1.1, MR, ckk_T, deR_s, deQ_s, deQ_n, bkV_s, bkI_s, bkJ_s, bkQ_s, bkQ_n, ckb0, ckb1, ckb2, ckb3, eq_self, Nat.reduceEqDiff, Nat.reduceLeDiff, Nat.reduceLT, reduceIte, true_or, or_true, not_false_eq_true, not_true_eq_false, and_self, and_true, true_and, LIT, Int32.reduceLT, Int32.reduceLE, Int32.reduceToNatClampNeg]
        rw [ckb_n (by omega) (by decide)]
        have w113 : aI M 113 p = nI ap := by rw [ep, p4]; rfl
        rw [w113]
        exact ⟨_, _, rfl, fr4 M g1, hj.found p1 p4 p5 hy hn hf⟩
      | false =>
        rw [if_pos (show b2i false = 0 from rfl)]
        simp only [RW.all hq.1.1, MR, ckk_T, deR_s, deQ_s, deQ_n, bkV_s, bkI_s, bkJ_s, bkQ_s, bkQ_n, ckb0, ckb1, ckb2, ckb3, eq_self, Nat.reduceEqDiff, Nat.reduceLeDiff, Nat.reduceLT, reduceIte, true_or, or_true, not_false_eq_true, not_true_eq_false, and_self, and_true, true_and, LIT, Int32.reduceLT, Int32.reduceLE, Int32.reduceToNatClampNeg]
        rw [ckb_n (by omega) (by decide), nar_1]
        cases n with
        | zero => exact absurd (cD_all (dn := dn) xs.length (by omega) p p1) (by rw [p3]; exact Bool.false_ne_true)
        | succ n =>
          have f2 : Fr Plr (setF M 104 g1) (setA (setF M 104 g1) 114 p 1) := Fr.setA (P := Plr) _ _ (Or.inr (Or.inr rfl))
          have S2 : SR (setA (setF M 104 g1) 114 p 1) xs wt (va_up dn p true) (9999 * k + 9999) := by
            refine ⟨fun i hi => ⟨(hs.1 i hi).1, fun v e => by have := (hs.1 i hi).2 v e; omega⟩, fun i hi => ?_⟩
            have e3 : aI (setA (setF M 104 g1) 114 p 1) 114 = va_up (aI M 114) p 1 := rfl
            rw [e3]
            by_cases z : i = p
            · subst z; rw [up_s, up_s]; rfl
            · rw [up_n z, up_n z]; exact hs.2 i hi
          have Q2 := Q1.fr f2
          generalize setA (setF M 104 g1) 114 p 1 = M2 at *
          obtain ⟨M3, wt3, a7, a8, e3, f3, S3, J3⟩ := rm_loop hD hx (B := 9999 * k) (by omega) aB (hcl p p1) (vN V 0) 0 M2 wt o7 o8 (by omega) Q2 S2 (hj.start p1 p3 p4 p5)
          have e3' : rn jm_Ref_least (cal D) 115 [some (.ref 90), some (.int (nI gi)), some (.int (nI wi)), some (.int y), some (.int x), some (.int (nI p)), some (.int 0), o7, o8] [] M2 = _ := e3
          rw [e3']
          have Q3 := Q2.fr f3
          obtain ⟨r', a6, e4, L4⟩ := lr_loop (cal D) (l1 := nI gi) (l2 := nI wi) (l3 := y) (l4 := x) (o7 := a7) (o8 := a8) Q3 (B := 9999 * k + 9999) (by omega) S3 xs.length 0 (-1) (by omega) (Or.inl ⟨rfl, fun i hi => absurd hi (Nat.not_lt_zero i)⟩)
          rw [e4]
          obtain ⟨M', v, e5, f5, L⟩ := rl_loop hD hx hcl hf n (k + 1) M3 wt3 (va_up dn p true) r' a6 a7 a8 (by omega) (by rw [cD_up p3 _ p1, hc]) Q3 (by rw [show 9999 * (k + 1) = 9999 * k + 9999 by omega]; exact S3) J3.fin (fun i hi q => by
            by_cases z : i = p
            · rw [z]; exact hy
            · rw [up_n z] at q; exact hn i hi q) L4
          exact ⟨M', v, e5, (((fr4 M g1).trans f2).trans f3).trans f5, L⟩
theorem b_nw {nM : Nat} {nx : Nat → Int32 → Option Int32} {s : Int32} (hM : nM ≤ 40) : (b_all nM nx 500 (fun _ => false) s).2.2.2 = 3 ∨ (b_all nM nx 500 (fun _ => false) s).2.2.2 = 4 := by
  obtain ⟨⟨_, _, g3, _⟩, _⟩ := b_all_in (nx := nx) (w := fun _ => false) (s := s) (cap := 500) hM (by decide)
  obtain ⟨k, k1⟩ := b_all_end (nx := nx) (w := fun _ => false) (s := s) (cap := 500) hM (by decide)
  have k8 := k.2.2.2.2.2.2.2
  have n2 : (b_all nM nx 500 (fun _ => false) s).2.2.2 ≠ 2 := fun e => Bool.false_ne_true (g3 e)
  omega
theorem Plr8 {M M' : ej_Mem} (f : Fr Plr M M') : FrG P8 M M' := f.g.mono (fun o k _ q => by unfold Plr at q; unfold P8; omega)
theorem r_least {D : Nat} (hD : 8 ≤ D) {M : ej_Mem} {V : View} {mk : Nat} (h : KR M V mk) (hmk : mk < 2 ^ 29) (g w y x : Int32) : ∃ M' mk' r, cal D jm_Ref_least [.ref 90, .int g, .int w, .int y, .int x] M = some (some (.int r), M') ∧ FrG P8 M M' ∧ KR M' V mk' ∧ mk' ≤ mk + 1 ∧ leastR V g w y x r := by
  obtain ⟨d, rfl⟩ : ∃ d, D = d + 1 := ⟨D - 1, by omega⟩
  have hV := h.2.2.1
  have l0 := hV.1 0 (by decide)
  have l0' : mst 0 = 40 := rfl
  have l3 := hV.1 3 (by decide)
  have m3 : mst 3 = 8 := rfl
  unfold leastR
  rw [ca_Ref_least, eq_Ref_least_0]
  simp only [RW.all h.1, MR, ckk_T, deR_s, deQ_s, deQ_n, bkV_s, bkI_s, bkJ_s, bkQ_s, bkQ_n, ckb0, ckb1, ckb2, ckb3, eq_self, Nat.reduceEqDiff, Nat.reduceLeDiff, Nat.reduceLT, reduceIte, true_or, or_true, not_false_eq_true, not_true_eq_false, and_self, and_true, true_and, LIT, Int32.reduceLT, Int32.reduceLE, Int32.reduceToNatClampNeg]
  rw [p_isAsked (by omega) h, bkI_s]
  cases ha : askB V g w y
  · rw [if_pos (show b2i false = 0 from rfl)]
    exact ⟨M, mk, _, rfl, FrG.refl _ M, h, by omega, by rw [Bool.and_false, if_neg Bool.false_ne_true]⟩
  · rw [if_neg (show ¬ b2i true = 0 by decide)]
    have E := p_inI (by omega : 1 ≤ d) x 0 1 M
    rw [show Int32.toInt64 0 = 0 from by decide, show Int32.toInt64 1 = 1 from by decide] at E
    rw [E, bkI_s]
    cases hx : inB x 0 1
    · rw [if_pos (show b2i false = 0 from rfl)]
      exact ⟨M, mk, _, rfl, FrG.refl _ M, h, by omega, by rw [Bool.false_and, if_neg Bool.false_ne_true]⟩
    · rw [if_neg (show ¬ b2i true = 0 by decide)]
      simp only [RW.all h.1, MR, ckk_T, deR_s, deQ_s, deQ_n, bkV_s, bkI_s, bkJ_s, bkQ_s, bkQ_n, ckb0, ckb1, ckb2, ckb3, eq_self, Nat.reduceEqDiff, Nat.reduceLeDiff, Nat.reduceLT, reduceIte, true_or, or_true, not_false_eq_true, not_true_eq_false, and_self, and_true, true_and, LIT, Int32.reduceLT, Int32.reduceLE, Int32.reduceToNatClampNeg]
      obtain ⟨gi, wi, hg, hw, rfl, rfl, eg, ew, _⟩ := ask_get hV ha
      rw [eg, ew, Bool.true_and]
      simp only [reduceIte]
      obtain ⟨dy, hdy, hdx⟩ : ∃ dy, x = b2i dy ∧ decide (x = 1) = dy := by
        rcases inB01q_c hx with rfl | rfl
        · exact ⟨false, rfl, by decide⟩
        · exact ⟨true, rfl, by decide⟩
      rw [hdx]
      have X : RX M gi none := ⟨h.1, h.2.1.1, by rw [h.2.1.2.1 1 (by decide)]; exact hg, fun i e => by cases e⟩
      obtain ⟨M1, e1, f1, R1, k1⟩ := p_reaches (by omega : 7 ≤ d) y X h.2.2.2.2 (by omega)
      have e1' : cal d jm_Ref_reaches [.ref 90, .int (nI gi), .int (-1), .int y] M = _ := e1
      rw [h.2.1.2.1 0 (by decide), nxR_v h.2.1 (by omega) hg, first_v h.2.1 hg, h.2.2.2.1.1, h.2.2.2.1.2.1, h.2.2.2.1.2.2, show wsR M none = fun _ => false from rfl, nxV_congr (ok' := fun m _ => vOp V y m) (fun m hm s => by rw [tol_none hV hm, Bool.true_and])] at e1' R1
      have e1q : cal d jm_Ref_reaches [.ref 90, .int (nI gi), .int (-1), .int y] M = some (some (.int (nI (b_all (vN V 0) (nxQ V gi y) 500 (fun _ => false) (tGv (vT V 1 gi))).2.2.2)), M1) := e1'
      have R1q : RS M1 (b_all (vN V 0) (nxQ V gi y) 500 (fun _ => false) (tGv (vT V 1 gi))) := R1
      rw [e1q, bkI_s]
      have K1 := h.back f1 (h.ks.fr f1 k1)
      have st := b_nw (nx := nxQ V gi y) (s := tGv (vT V 1 gi)) (show vN V 0 ≤ 40 by omega)
      obtain ⟨⟨g1, g2, g3, g4, g5, g6, g7⟩, h3⟩ := b_all_in (nx := nxQ V gi y) (w := fun _ => false) (s := tGv (vT V 1 gi)) (cap := 500) (show vN V 0 ≤ 40 by omega) (by decide)
      obtain ⟨bk, _⟩ := b_all_end (nx := nxQ V gi y) (w := fun _ => false) (s := tGv (vT V 1 gi)) (cap := 500) (show vN V 0 ≤ 40 by omega) (by decide)
      have b3 := b_all_3 (nx := nxQ V gi y) (w := fun _ => false) (s := tGv (vT V 1 gi)) (cap := 500) (show vN V 0 ≤ 40 by omega) (by decide)
      generalize b_all (vN V 0) (nxQ V gi y) 500 (fun _ => false) (tGv (vT V 1 gi)) = b at *
      rcases st with st | st
      · rw [st, if_neg (show ¬ nI 3 = 4 by decide)]
        obtain ⟨xs, x1, x2, _⟩ := b3 st
        have Q1 : QR M1 V (mk + 1) gi wi b.1 := ⟨K1, hg, hw, R1q.2.2.2.2, R1q.1, R1q.2.1, bk.2.1⟩
        obtain ⟨M2, e2, f2, z2⟩ := li_loop (cal d) (l1 := nI gi) (l2 := nI wi) (l3 := y) (l4 := x) (o6 := none) (o7 := none) (o8 := none) b.1.length 0 M1 (by omega) Q1 (fun i hi => absurd hi (Nat.not_lt_zero i))
        have e2' : rn jm_Ref_least (cal d) 40 [some (.ref 90), some (.int (nI gi)), some (.int (nI wi)), some (.int y), some (.int x), some (.int 0), none, none, none] [] M1 = _ := e2
        rw [e2']
        have Q2 := Q1.fr f2
        have S2 : SR M2 b.1 (fun i => if i = 0 then some 0 else none) (fun _ => false) (9999 * 0) := by
          refine ⟨fun i hi => ?_, fun i hi => (z2 i hi).2⟩
          rw [(z2 i hi).1]
          by_cases q : i = 0
          · subst q; exact ⟨rfl, fun v e => by cases e; exact Nat.le_refl _⟩
          · rw [if_neg q]; simp only [if_neg q]; exact ⟨rfl, fun v e => by cases e⟩
        have J2 : DJ (vN V 0) (nxQ V gi y) (cstQ V dy) (tGv (vT V 1 gi)) b.1 (fun i => if i = 0 then some 0 else none) (fun _ => false) := by
          refine ⟨⟨bk.1, g1, rfl⟩, fun i hi v e => ?_, fun i _ q => absurd q Bool.false_ne_true, fun i j a b _ _ q => absurd q Bool.false_ne_true⟩
          by_cases q : i = 0
          · subst q
            cases e
            rw [g1]; exact Pth.nil
          · have e : (if i = 0 then some 0 else none) = some v := e
            rw [if_neg q] at e; cases e
        obtain ⟨M3, v, e3, f3, L⟩ := rl_loop (by omega : 6 ≤ d) hdy (s := tGv (vT V 1 gi)) (fun i hi m hm t e => g6 (Or.inr st) i (by rw [h3 st]; exact hi) m hm t e) ⟨xs, x1, x2⟩ b.1.length 0 M2 _ _ 0 none none none (by omega) (by
          have : ∀ n, cD (fun _ => false) n = 0 := fun n => by
            induction n with
            | zero => rfl
            | succ n ih => unfold cD; rw [ih]; rfl
          exact this _) Q2 S2 J2 (fun i _ q => absurd q Bool.false_ne_true) (Or.inr ⟨0, 0, bk.1, rfl, rfl, rfl, fun j b hj _ e => Nat.zero_le _⟩)
        rw [e3]
        exact ⟨M3, mk + 1, v, rfl, ((grc f1).trans (Plr8 f2)).trans (Plr8 f3), (Q2.fr f3).1, Nat.le_refl _, L⟩
      · rw [st, if_pos (show nI 4 = 4 by decide)]
        obtain ⟨c1, t, c2, c3⟩ := g5 st
        refine ⟨M1, mk + 1, _, rfl, grc f1, K1, Nat.le_refl _, Or.inl ⟨fun ⟨xs, x1, x2⟩ => ?_, rfl⟩⟩
        have := nodup_sub_len (t :: b.1) xs (List.nodup_cons.mpr ⟨c2, bk.2.2.2.2.1⟩) (fun u hu => by
          rcases List.mem_cons.mp hu with rfl | hu
          · exact x2 _ c3
          · exact x2 u (g2 u hu))
        rw [List.length_cons] at this
        omega
