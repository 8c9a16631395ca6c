/-! least of the reference -/
def Plr (o k : Nat) : Prop := o = 104 ∨ o = 113 ∨ o = 114
def wI (o : Option Nat) : Int32 := match o with | none => -1 | some v => nI v
def QR (M : ej_Mem) (V : View) (mk gi wi : Nat) (xs : List Int32) : Prop := KR M V mk ∧ gi < vN V 1 ∧ wi < vN V 2 ∧ RT M xs ∧ mI M 90 44 = nI xs.length ∧ (∀ k, k < xs.length → aI M 111 k = xs.getD k 0) ∧ xs.length ≤ 500
theorem QR.fr {M M' : ej_Mem} {V : View} {mk gi wi : Nat} {xs : List Int32} (h : QR M V mk gi wi xs) (f : Fr Plr M M') : QR M' V mk gi wi xs := by
  obtain ⟨⟨k1, k2, k3, k4, k5⟩, h2, h3, h4, h5, h6, h7⟩ := h
  refine ⟨⟨f.rw k1, k2.fr k3 f (fun o k q z => by unfold Plr at z; omega) (fun k q z => by unfold Plr at z; omega), k3, ⟨by rw [f.i (by unfold Plr; omega)]; exact k4.1, by rw [f.i (by unfold Plr; omega)]; exact k4.2.1, by rw [f.i (by unfold Plr; omega)]; exact k4.2.2⟩, k5.fr f (fun k => by unfold Plr; omega) (by unfold Plr; omega)⟩, h2, h3, h4.fr f (fun k => by unfold Plr; omega) (by unfold Plr; omega), by rw [f.i (by unfold Plr; omega)]; exact h5, fun k hk => by rw [f.a (by unfold Plr; omega)]; exact h6 k hk, h7⟩
def SR (M : ej_Mem) (xs : List Int32) (wt : Nat → Option Nat) (dn : Nat → Bool) (B : Nat) : Prop := (∀ i, i < xs.length → aI M 113 i = wI (wt i) ∧ ∀ v, wt i = some v → v ≤ B) ∧ ∀ i, i < xs.length → aI M 114 i = b2i (dn i)
theorem SR.f104 {M : ej_Mem} {xs : List Int32} {wt : Nat → Option Nat} {dn : Nat → Bool} {B : Nat} (h : SR M xs wt dn B) (g : Nat → Int32) : SR (setF M 104 g) xs wt dn B := h
theorem fr4 (M : ej_Mem) (g : Nat → Int32) : Fr Plr M (setF M 104 g) := (fr104 M g).mono (fun o k q => Or.inl q)
theorem wI_m1 {o : Option Nat} {B : Nat} (hB : B < 2 ^ 31) (h : ∀ v, o = some v → v ≤ B) : wI o = -1 ↔ o = none := by
  cases o with
  | none => exact ⟨fun _ => rfl, fun _ => rfl⟩
  | some v => exact ⟨fun e => absurd e (nI_nm (by have := h v rfl; omega)), fun e => by cases e⟩
/-- at first -/
theorem li_loop (cl : Nat → List Value → ej_Mem → Option ej_R) {V : View} {mk gi wi : Nat} {xs : List Int32} {l1 l2 l3 l4 : Int32} {o6 o7 o8 : Option Value} : ∀ (n k : Nat) (M : ej_Mem), k + n = xs.length → QR M V mk gi wi xs → (∀ i, i < k → aI M 113 i = (if i = 0 then 0 else -1) ∧ aI M 114 i = 0) →
    ∃ M', rn jm_Ref_least cl 40 [some (.ref 90), some (.int l1), some (.int l2), some (.int l3), some (.int l4), some (.int (nI k)), o6, o7, o8] [] M = rn jm_Ref_least cl 83 [some (.ref 90), some (.int l1), some (.int l2), some (.int l3), some (.int l4), some (.int 0), o6, o7, o8] [] M' ∧ Fr Plr M M' ∧ ∀ i, i < xs.length → aI M' 113 i = (if i = 0 then 0 else -1) ∧ aI M' 114 i = 0
  | 0, k, M, hk, hq, hi => by
    have h5 := hq.2.2.2.2.2.2
    refine ⟨M, ?_, Fr.refl _ M, fun i h => hi i (by omega)⟩
    rw [eq_Ref_least_40]
    simp only [RW.all hq.1.1, hq.2.2.2.2.1, MR, ckk_T, deR_s, deQ_s, deQ_n, bkV_s, bkI_s, bkJ_s, bkQ_s, bkQ_n, ckb0, ckb1, ckb2, ckb3, eq_self, Nat.reduceEqDiff, Nat.reduceLeDiff, Nat.reduceLT, reduceIte, true_or, or_true, not_false_eq_true, not_true_eq_false, and_self, and_true, true_and, LIT, Int32.reduceLT, Int32.reduceLE, Int32.reduceToNatClampNeg]
    rw [if_pos (nI_le (by omega) (by omega))]
  | n + 1, k, M, hk, hq, hi => by
    have h5 := hq.2.2.2.2.2.2
    have st : ∀ v : Int32, v = (if k = 0 then 0 else -1) → ∃ M', rn jm_Ref_least cl 40 [some (.ref 90), some (.int l1), some (.int l2), some (.int l3), some (.int l4), some (.int (nI (k + 1))), o6, o7, o8] [] (setA (setA M 113 k v) 114 k 0) = rn jm_Ref_least cl 83 [some (.ref 90), some (.int l1), some (.int l2), some (.int l3), some (.int l4), some (.int 0), o6, o7, o8] [] M' ∧ Fr Plr M M' ∧ ∀ i, i < xs.length → aI M' 113 i = (if i = 0 then 0 else -1) ∧ aI M' 114 i = 0 := by
      intro v hv
      have f : Fr Plr M (setA (setA M 113 k v) 114 k 0) := (Fr.setA (P := Plr) M _ (Or.inr (Or.inl rfl))).trans (Fr.setA (P := Plr) _ _ (Or.inr (Or.inr rfl)))
      obtain ⟨M', e, g, z⟩ := li_loop cl (l1 := l1) (l2 := l2) (l3 := l3) (l4 := l4) (o6 := o6) (o7 := o7) (o8 := o8) n (k + 1) _ (by omega) (hq.fr f) (fun i h => by
        have e3 : aI (setA (setA M 113 k v) 114 k 0) 113 = va_up (aI M 113) k v := rfl
        have e4 : aI (setA (setA M 113 k v) 114 k 0) 114 = va_up (aI M 114) k 0 := rfl
        rw [e3, e4]
        by_cases q : i = k
        · subst q; rw [up_s, up_s]; exact ⟨hv, rfl⟩
        · rw [up_n q, up_n q]; exact hi i (by omega))
      exact ⟨M', e, f.trans g, z⟩
    rw [eq_Ref_least_40]
    simp only [RW.all hq.1.1, hq.2.2.2.2.1, MR, ckk_T, deR_s, deQ_s, deQ_n, bkV_s, bkI_s, bkJ_s, bkQ_s, bkQ_n, ckb0, ckb1, ckb2, ckb3, eq_self, Nat.reduceEqDiff, Nat.reduceLeDiff, Nat.reduceLT, reduceIte, true_or, or_true, not_false_eq_true, not_true_eq_false, and_self, and_true, true_and, LIT, Int32.reduceLT, Int32.reduceLE, Int32.reduceToNatClampNeg]
    simp only [ckb_n (show k < 500 by omega) (show 500 < 2 ^ 31 by decide), nI_clamp (show k < 2 ^ 31 by omega), nI_1, nar_0]
    rw [if_neg (nI_ge (by omega) (by omega))]
    by_cases q : k = 0
    · rw [if_pos (by rw [q]; rfl)]; exact st 0 (by rw [if_pos q])
    · rw [if_neg (nI_ne0 (by omega) (by omega))]; exact st (-1) (by rw [if_neg q])
/-- the lightest that is weighed and not gone through -/
def lr (wt : Nat → Option Nat) (dn : Nat → Bool) (k : Nat) (r : Int32) : Prop := (r = -1 ∧ ∀ i, i < k → dn i = false → wt i = none) ∨ ∃ p a, p < k ∧ r = nI p ∧ dn p = false ∧ wt p = some a ∧ ∀ j b, j < k → dn j = false → wt j = some b → a ≤ b
theorem lr_loop (cl : Nat → List Value → ej_Mem → Option ej_R) {V : View} {mk gi wi : Nat} {xs : List Int32} {l1 l2 l3 l4 : Int32} {o7 o8 : Option Value} {M : ej_Mem} (hq : QR M V mk gi wi xs) {wt : Nat → Option Nat} {dn : Nat → Bool} {B : Nat} (hB : B < 2 ^ 31) (hs : SR M xs wt dn B) : ∀ (n k : Nat) (r : Int32), k + n = xs.length → lr wt dn k r →
    ∃ r' o6', rn jm_Ref_least cl 240 [some (.ref 90), some (.int l1), some (.int l2), some (.int l3), some (.int l4), some (.int r), some (.int (nI k)), o7, o8] [] M = rn jm_Ref_least cl 83 [some (.ref 90), some (.int l1), some (.int l2), some (.int l3), some (.int l4), some (.int r'), o6', o7, o8] [] M ∧ lr wt dn xs.length r'
  | 0, k, r, hk, hl => by
    have h5 := hq.2.2.2.2.2.2
    refine ⟨r, some (.int (nI k)), ?_, by rw [← hk, Nat.add_zero]; exact hl⟩
    rw [eq_Ref_least_240]
    simp only [RW.all hq.1.1, hq.2.2.2.2.1, MR, ckk_T, deR_s, deQ_s, deQ_n, bkV_s, bkI_s, bkJ_s, bkQ_s, bkQ_n, ckb0, ckb1, ckb2, ckb3, eq_self, Nat.reduceEqDiff, Nat.reduceLeDiff, Nat.reduceLT, reduceIte, true_or, or_true, not_false_eq_true, not_true_eq_false, and_self, and_true, true_and, LIT, Int32.reduceLT, Int32.reduceLE, Int32.reduceToNatClampNeg]
    rw [if_pos (nI_le (by omega) (by omega))]
  | n + 1, k, r, hk, hl => by
    have h5 := hq.2.2.2.2.2.2
    obtain ⟨a3, b3⟩ := hs.1 k (by omega)
    rw [eq_Ref_least_240]
    simp only [RW.all hq.1.1, hq.2.2.2.2.1, MR, ckk_T, deR_s, deQ_s, deQ_n, bkV_s, bkI_s, bkJ_s, bkQ_s, bkQ_n, ckb0, ckb1, ckb2, ckb3, eq_self, Nat.reduceEqDiff, Nat.reduceLeDiff, Nat.reduceLT, reduceIte, true_or, or_true, not_false_eq_true, not_true_eq_false, and_self, and_true, true_and, LIT, Int32.reduceLT, Int32.reduceLE, Int32.reduceToNatClampNeg]
    simp only [ckb_n (show k < 500 by omega) (show 500 < 2 ^ 31 by decide), nI_clamp (show k < 2 ^ 31 by omega), nI_1]
    rw [if_neg (nI_ge (by omega) (by omega)), a3, hs.2 k (by omega)]
    have IH := fun r' => lr_loop cl (l1 := l1) (l2 := l2) (l3 := l3) (l4 := l4) (o7 := o7) (o8 := o8) hq hB hs n (k + 1) r' (by omega)
    have old : (dn k = true ∨ wt k = none) → lr wt dn (k + 1) r := by
      intro hx
      rcases hl with ⟨e, a⟩ | ⟨p, a, p1, p2, p3, p4, p5⟩
      · refine Or.inl ⟨e, fun i hi q => ?_⟩
        by_cases z : i = k
        · subst z
          rcases hx with y | y
          · rw [y] at q; cases q
          · exact y
        · exact a i (by omega) q
      · refine Or.inr ⟨p, a, by omega, p2, p3, p4, fun j b hj q w => ?_⟩
        by_cases z : j = k
        · subst z
          rcases hx with y | y
          · rw [y] at q; cases q
          · rw [y] at w; cases w
        · exact p5 j b (by omega) q w
    cases hd : dn k with
    | true => rw [if_neg (show ¬ b2i true = 0 by decide)]; exact IH _ (old (Or.inl hd))
    | false =>
      rw [if_pos (show b2i false = 0 from rfl)]
      cases hw : wt k with
      | none => rw [if_pos (show wI none = -1 from rfl)]; exact IH _ (old (Or.inr hw))
      | some v =>
        have vB := b3 v hw
        rw [if_neg (show ¬ wI (some v) = -1 from nI_nm (by omega))]
        rcases hl with ⟨e, a⟩ | ⟨p, a, p1, p2, p3, p4, p5⟩
        · rw [if_pos e]
          refine IH _ (Or.inr ⟨k, v, by omega, rfl, hd, hw, fun j b hj q w => ?_⟩)
          by_cases z : j = k
          · subst z; rw [hw] at w; cases w; exact Nat.le_refl _
          · rw [a j (by omega) q] at w; cases w
        · subst p2
          obtain ⟨ap, bp⟩ := hs.1 p (by omega)
          have aB := bp a p4
          simp only [ckb_n (show p < 500 by omega) (show 500 < 2 ^ 31 by decide), nI_clamp (show p < 2 ^ 31 by omega)]
          rw [if_neg (nI_nm (by omega)), ap, p4]
          show ∃ r' o6', (if nI a ≤ nI v then _ else _) = _ ∧ _
          by_cases q : a ≤ v
          · rw [if_pos (nI_le q (by omega))]
            refine IH _ (Or.inr ⟨p, a, by omega, rfl, p3, p4, fun j b hj q' w => ?_⟩)
            by_cases z : j = k
            · subst z; rw [hw] at w; cases w; exact q
            · exact p5 j b (by omega) q' w
          · rw [if_neg (nI_ge (by omega) (by omega))]
            refine IH _ (Or.inr ⟨k, v, by omega, rfl, hd, hw, fun j b hj q' w => ?_⟩)
            by_cases z : j = k
            · subst z; rw [hw] at w; cases w; exact Nat.le_refl _
            · have := p5 j b (by omega) q' w; omega
theorem cst_dy {V : View} {x : Int32} {dy : Bool} (hx : x = b2i dy) (m : Nat) : cst V x m = costI V dy m := by
  subst hx
  unfold cst costI
  cases dy
  · rw [if_pos (show b2i false = 0 from rfl), if_neg Bool.false_ne_true]
  · rw [if_neg (show ¬ b2i true = 0 by decide), if_pos rfl]
theorem KR.fr4 {M : ej_Mem} {V : View} {mk : Nat} (h : KR M V mk) (g : Nat → Int32) : KR (setF M 104 g) V mk := h.f104 g
/-- the moves of a place are weighed -/
theorem rm_loop {D : Nat} (hD : 6 ≤ D) {V : View} {mk gi wi : Nat} {xs : List Int32} {y x : Int32} {dy : Bool} (hx : x = b2i dy) {p ap B : Nat} (hB : B + 9999 < 2 ^ 31) (hap : ap ≤ B) {dn : Nat → Bool} {s : Int32} (hcl : ∀ m, m < vN V 0 → ∀ t, nxQ V gi y m (xs.getD p 0) = some t → t ∈ xs) : ∀ (n m : Nat) (M : ej_Mem) (wt : Nat → Option Nat) (o7 o8 : Option Value), m + n = vN V 0 → QR M V mk gi wi xs → SR M xs wt dn (B + 9999) → DJm (vN V 0) (nxQ V gi y) (cstQ V dy) s xs wt dn p ap m →
    ∃ M' wt' o7' o8', rn jm_Ref_least (cal D) 115 [some (.ref 90), some (.int (nI gi)), some (.int (nI wi)), some (.int y), some (.int x), some (.int (nI p)), some (.int (nI m)), o7, o8] [] M = rn jm_Ref_least (cal D) 240 [some (.ref 90), some (.int (nI gi)), some (.int (nI wi)), some (.int y), some (.int x), some (.int (-1)), some (.int (nI 0)), o7', o8'] [] M' ∧ Fr Plr M M' ∧ SR M' xs wt' dn (B + 9999) ∧ DJm (vN V 0) (nxQ V gi y) (cstQ V dy) s xs wt' dn p ap (vN V 0)
  | 0, m, M, wt, o7, o8, hm, hq, hs, hj => by
    have l0 := hq.1.2.2.1.le (show 0 < 4 by decide)
    have a92 : aI M 92 0 = nI (vN V 0) := by rw [← hq.1.2.1.2.1 0 (by decide)]; exact (hq.1.2.1.1 0 (by decide)).1
    obtain rfl : m = vN V 0 := by omega
    refine ⟨M, wt, o7, o8, ?_, Fr.refl _ M, hs, hj⟩
    rw [eq_Ref_least_115]
    simp only [RW.all hq.1.1, MR, ckk_T, deR_s, deQ_s, deQ_n, bkV_s, bkI_s, bkJ_s, bkQ_s, bkQ_n, ckb0, ckb1, ckb2, ckb3, eq_self, Nat.reduceEqDiff, Nat.reduceLeDiff, Nat.reduceLT, reduceIte, true_or, or_true, not_false_eq_true, not_true_eq_false, and_self, and_true, true_and, LIT, Int32.reduceLT, Int32.reduceLE, Int32.reduceToNatClampNeg]
    rw [a92, if_pos (nI_le (by omega) (by omega))]
    rfl
  | n + 1, m, M, wt, o7, o8, hm, hq, hs, hj => by
    have hV := hq.1.2.2.1
    have l0 := hV.le (show 0 < 4 by decide)
    have l1 := hV.le (show 1 < 4 by decide)
    have l3 := hV.1 3 (by decide)
    have m3 : mst 3 = 8 := rfl
    have m1 := hV.1 1 (by decide)
    have m1' : mst 1 = 8 := rfl
    have h5 := hq.2.2.2.2.2.2
    have a92 : aI M 92 0 = nI (vN V 0) := by rw [← hq.1.2.1.2.1 0 (by decide)]; exact (hq.1.2.1.1 0 (by decide)).1
    have hp := hj.2.2.2.2
    have hmV : m < vN V 0 := by omega
    have hsl := hq.1.sl0 hmV
    have hog : slOK (aI M) (40 + gi) := hq.1.sl (k := 1) (by decide) hq.2.1
    have hst := hq.1.stops
    have IH := fun M1 wt1 o7 o8 => rm_loop (V := V) (mk := mk) (gi := gi) (wi := wi) (xs := xs) (y := y) hD hx (p := p) hB hap (dn := dn) (s := s) hcl n (m + 1) M1 wt1 o7 o8 (by omega)
    rw [eq_Ref_least_115]
    simp only [RW.all hq.1.1, MR, ckk_T, deR_s, deQ_s, deQ_n, bkV_s, bkI_s, bkJ_s, bkQ_s, bkQ_n, ckb0, ckb1, ckb2, ckb3, eq_self, Nat.reduceEqDiff, Nat.reduceLeDiff, Nat.reduceLT, reduceIte, true_or, or_true, not_false_eq_true, not_true_eq_false, and_self, and_true, true_and, LIT, Int32.reduceLT, Int32.reduceLE, Int32.reduceToNatClampNeg]
    simp only [ckb_n (show p < 500 by omega) (show 500 < 2 ^ 31 by decide), nI_clamp (show p < 2 ^ 31 by omega)]
    rw [a92, if_neg (nI_ge (by omega) (by omega)), hq.2.2.2.2.2.1 p hp.1]
    generalize hfr : xs.getD p 0 = fr at *
    obtain ⟨g1, e1⟩ := (p_mayBe (by omega : 5 ≤ D) hq.1.1 (by omega) hsl (show gi < 8 by have := hq.2.1; omega) hog hst.1 hst.2.1 hst.2.2 y fr).self
    rw [e1, bkI_s]
    have hN : nxG M gi y = nxQ V gi y := nxG_v hq.1.2.1 (by omega) hq.2.1 y
    have Q1 := hq.fr (fr4 M g1)
    have S1 := hs.f104 g1
    cases hmy : rMay (aI M) (mI M 90 9) (rN (aI M) 3) gi y m fr with
    | false =>
      rw [if_pos (show b2i false = 0 from rfl), nI_1]
      have nn : nxQ V gi y m fr = none := by rw [← hN]; unfold nxG; rw [if_neg (fun z => by rw [hmy] at z; cases z.2)]
      obtain ⟨M', wt', a7, a8, e, f, s', d'⟩ := IH _ wt o7 o8 Q1 S1 (hj.skip (fun t e => by rw [hfr, nn] at e; cases e))
      exact ⟨M', wt', a7, a8, e, (fr4 M g1).trans f, s', d'⟩
    | true =>
      have nn : nxQ V gi y m fr = some (rBeh (aI M) m fr) := by rw [← hN]; unfold nxG; rw [if_pos ⟨by rw [hq.1.2.1.2.1 0 (by decide)]; exact hmV, hmy⟩]
      rw [if_neg (show ¬ b2i true = 0 by decide)]
      simp only [RW.all hq.1.1, MR, ckk_T, deR_s, deQ_s, deQ_n, bkV_s, bkI_s, bkJ_s, bkQ_s, bkQ_n, ckb0, ckb1, ckb2, ckb3, eq_self, Nat.reduceEqDiff, Nat.reduceLeDiff, Nat.reduceLT, reduceIte, true_or, or_true, not_false_eq_true, not_true_eq_false, and_self, and_true, true_and, LIT, Int32.reduceLT, Int32.reduceLE, Int32.reduceToNatClampNeg, nI_1]
      rw [ckb_n (by omega) (by decide)]
      show ∃ M' wt' o7' o8', bkI (cal D jm_Ref_behind [.ref 90, .int (nI m), .int (aI M 111 p)] (setF M 104 g1)) _ = _ ∧ _
      rw [hq.2.2.2.2.2.1 p hp.1, hfr, p_behind (by omega) hq.1.1 (by omega) hsl fr g1, bkI_s]
      generalize ht : rBeh (aI M) m fr = t at *
      obtain ⟨k, hk, ek⟩ := mem_getD (hcl m hmV t nn)
      obtain ⟨i, hi, _, pl2, _, e2⟩ := p_placeOf (by omega : 1 ≤ D) Q1.1.1 Q1.2.2.2.1 t
      have plt := prb_lt (by decide : 0 < 16384) hR t i
      rw [e2, bkI_s]
      generalize hpr : prb 16384 hR t i = q at *
      have r107 : aI (setF M 104 g1) 107 q = nI k := by
        have := pl2 k hk ek
        unfold rsl at this
        split at this
        · rename_i z
          obtain ⟨k', hk', e', _⟩ := Q1.2.2.2.1.2.2.2 q plt z
          rw [e'] at this ⊢
          rw [nI_clamp (by omega)] at this
          rw [show k' = k by omega]
        · omega
      simp only [RW.all hq.1.1, MR, ckk_T, deR_s, deQ_s, deQ_n, bkV_s, bkI_s, bkJ_s, bkQ_s, bkQ_n, ckb0, ckb1, ckb2, ckb3, eq_self, Nat.reduceEqDiff, Nat.reduceLeDiff, Nat.reduceLT, reduceIte, true_or, or_true, not_false_eq_true, not_true_eq_false, and_self, and_true, true_and, LIT, Int32.reduceLT, Int32.reduceLE, Int32.reduceToNatClampNeg, ckb_n plt (show 16384 < 2 ^ 31 by decide), nI_clamp (show q < 2 ^ 31 by omega), ckb_n (show p < 500 by omega) (show 500 < 2 ^ 31 by decide)]
      have r107' : aI M 107 q = nI k := r107
      simp only [r107', nI_clamp (show k < 2 ^ 31 by omega)]
      have C := p_costOf (by omega : 2 ≤ D) Q1.1 hmV x
      rw [C, bkI_s]
      obtain ⟨c1, c2⟩ := cstQ_ok hV dy hmV
      have w113 : aI (setF M 104 g1) 113 = aI M 113 := rfl
      simp only [RW.all hq.1.1, MR, ckk_T, deR_s, deQ_s, deQ_n, bkV_s, bkI_s, bkJ_s, bkQ_s, bkQ_n, ckb0, ckb1, ckb2, ckb3, eq_self, Nat.reduceEqDiff, Nat.reduceLeDiff, Nat.reduceLT, reduceIte, true_or, or_true, not_false_eq_true, not_true_eq_false, and_self, and_true, true_and, LIT, Int32.reduceLT, Int32.reduceLE, Int32.reduceToNatClampNeg, ckb_n (show k < 500 by omega) (show 500 < 2 ^ 31 by decide), nI_clamp (show k < 2 ^ 31 by omega)]
      rw [(hs.1 p hp.1).1, hp.2.2, (hs.1 k hk).1]
      have ev : wI (some ap) + cst V x m = nI (ap + cstQ V dy m) := by
        rw [cst_dy hx, c1]; exact nI_add _ _
      rw [ev]
      have dk : ∀ b, wt k = some b → ap + cstQ V dy m < b → dn k = false := fun b wb lt => by
        cases hd : dn k with
        | false => rfl
        | true =>
          obtain ⟨a, a1, a2, _⟩ := hj.2.2.1 k hk hd
          rw [wb] at a1; cases a1; omega
      have upd : dn k = false → (wt k = none ∨ ∃ b, wt k = some b ∧ ap + cstQ V dy m ≤ b) → ∃ M' wt' o7' o8', rn jm_Ref_least (cal D) 115 [some (.ref 90), some (.int (nI gi)), some (.int (nI wi)), some (.int y), some (.int x), some (.int (nI p)), some (.int (nI (m + 1))), some (.int (nI k)), some (.int (nI (ap + cstQ V dy m)))] [] (setA (setF M 104 g1) 113 k (nI (ap + cstQ V dy m))) = rn jm_Ref_least (cal D) 240 [some (.ref 90), some (.int (nI gi)), some (.int (nI wi)), some (.int y), some (.int x), some (.int (-1)), some (.int (nI 0)), o7', o8'] [] M' ∧ Fr Plr M M' ∧ SR M' xs wt' dn (B + 9999) ∧ DJm (vN V 0) (nxQ V gi y) (cstQ V dy) s xs wt' dn p ap (vN V 0) := by
        intro hd ho
        have f2 : Fr Plr (setF M 104 g1) (setA (setF M 104 g1) 113 k (nI (ap + cstQ V dy m))) := Fr.setA (P := Plr) _ _ (Or.inr (Or.inl rfl))
        have S2 : SR (setA (setF M 104 g1) 113 k (nI (ap + cstQ V dy m))) xs (va_up wt k (some (ap + cstQ V dy m))) dn (B + 9999) := by
          refine ⟨fun i hi => ?_, hs.2⟩
          have e3 : aI (setA (setF M 104 g1) 113 k (nI (ap + cstQ V dy m))) 113 = va_up (aI M 113) k (nI (ap + cstQ V dy m)) := rfl
          rw [e3]
          by_cases z : i = k
          · subst z; rw [up_s, up_s]; exact ⟨rfl, fun v e => by cases e; omega⟩
          · rw [up_n z, up_n z]; exact hs.1 i hi
        have J2 := hj.upd (xs' := xs) (dn' := dn) hmV (by rw [hfr]; exact nn) ⟨Nat.le_refl _, fun _ _ => rfl, fun i a b => absurd b (Nat.not_lt.mpr a)⟩ hk ek ⟨hd, fun _ _ => rfl⟩ (fun _ => ⟨hd, ho⟩)
        obtain ⟨M', wt', a7, a8, e, f, s', d'⟩ := IH _ _ (some (.int (nI k))) (some (.int (nI (ap + cstQ V dy m)))) (Q1.fr f2) S2 J2
        exact ⟨M', wt', a7, a8, e, ((fr4 M g1).trans f2).trans f, s', d'⟩
      cases hw : wt k with
      | none =>
        rw [if_pos (show wI none = -1 from rfl)]
        refine upd ?_ (Or.inl hw)
        cases hd : dn k with
        | false => rfl
        | true => obtain ⟨a, a1, _⟩ := hj.2.2.1 k hk hd; rw [hw] at a1; cases a1
      | some b =>
        have bB := (hs.1 k hk).2 b hw
        rw [if_neg (show ¬ wI (some b) = -1 from nI_nm (by omega))]
        show ∃ M' wt' o7' o8', (if nI b ≤ nI (ap + cstQ V dy m) then _ else _) = _ ∧ _
        by_cases lt : b ≤ ap + cstQ V dy m
        · rw [if_pos (nI_le lt (by omega))]
          have same : setA (setF M 104 g1) 113 k (wI (some b)) = setF M 104 g1 := by
            have e3 : (wI (some b)) = aI (setF M 104 g1) 113 k := by rw [w113, (hs.1 k hk).1, hw]
            rw [e3]
            unfold setA up2
            rw [show (setF M 104 g1).2.2.2.2.2.1 = aI (setF M 104 g1) from rfl, up_self, up_self]
            rfl
          rw [same]
          obtain ⟨M', wt', a7, a8, e, f, s', d'⟩ := IH _ wt (some (.int (nI k))) (some (.int (nI (ap + cstQ V dy m)))) Q1 S1 (hj.skip (fun t' e => by rw [hfr, nn] at e; cases e; exact ⟨k, b, hk, ek, hw, lt⟩))
          exact ⟨M', wt', a7, a8, e, (fr4 M g1).trans f, s', d'⟩
        · rw [if_neg (nI_ge (by omega) (by omega))]
          exact upd (dk b hw (by omega)) (Or.inr ⟨b, hw, by omega⟩)
