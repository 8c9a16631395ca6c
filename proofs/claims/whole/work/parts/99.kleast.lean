def nxQ (V : View) (gi : Nat) (y : Int32) : Nat → Int32 → Option Int32 := nxV V gi (vF V) (fun m _ => vOp V y m)
def costI (V : View) (dy : Bool) (m : Nat) : Int32 := if dy = true then tDy (vT V 0 m) else tFe (vT V 0 m)
def cstQ (V : View) (dy : Bool) (m : Nat) : Nat := (costI V dy m).toNatClampNeg
theorem cstQ_ok {V : View} (h : VOK V) (dy : Bool) {m : Nat} (hm : m < vN V 0) : costI V dy m = nI (cstQ V dy m) ∧ cstQ V dy m ≤ 9999 := by
  obtain ⟨_, _, _, ⟨f1, f2⟩, d1, d2⟩ := h.2.1 m hm
  have key : ∀ x : Int32, 0 ≤ x → x ≤ 9999 → x = nI x.toNatClampNeg ∧ x.toNatClampNeg ≤ 9999 := fun x a b => by
    have : hasB 10000 x = true := by unfold hasB; exact decide_eq_true ⟨a, Int32.lt_of_le_of_lt b (by decide)⟩
    obtain ⟨j, hj, rfl⟩ := (hasB_iff (by decide)).mp this
    rw [nI_clamp (by omega)]
    exact ⟨rfl, by omega⟩
  unfold cstQ costI
  cases dy
  · exact key _ f1 f2
  · exact key _ d1 (Int32.le_trans d2 (by decide))
theorem pth_pos {V : View} (hV : VOK V) {gi : Nat} (hg : gi < vN V 1) {y : Int32} {c : Nat → Nat} {t : Int32} {v : Nat} (h : Pth (vN V 0) (nxQ V gi y) c (tGv (vT V 1 gi)) t v) : bI t 31 = false :=
  h (fun t _ => bI t 31 = false) (hV.2.2.1 gi hg) (fun x y' _ m _ hx e => nxV_pos hV m x y' hx e)
theorem b31_nm {t : Int32} (h : bI t 31 = false) : ¬ t = -1 := fun e => by rw [e] at h; exact absurd h (by decide)
def Ext (xs xs' : List Int32) : Prop := xs.length ≤ xs'.length ∧ ∀ i, i < xs.length → xs'.getD i 0 = xs.getD i 0
theorem Ext.refl (xs : List Int32) : Ext xs xs := ⟨Nat.le_refl _, fun _ _ => rfl⟩
theorem Ext.trans {xs ys zs : List Int32} (h : Ext xs ys) (g : Ext ys zs) : Ext xs zs := ⟨Nat.le_trans h.1 g.1, fun i hi => (g.2 i (Nat.lt_of_lt_of_le hi h.1)).trans (h.2 i hi)⟩
/-- what weighing the moves of one place comes to -/
def WMG (V : View) (gi : Nat) (y : Int32) (dy : Bool) (p ap B : Nat) (dn : Nat → Bool) (M : ej_Mem) (b : BS) (wt : Nat → Option Nat) (r : Option ej_R) : Prop :=
  ∃ M' b' wt', r = some (none, M') ∧ Fr Psc M M' ∧ SC M' b' wt' dn (B + 9999) ∧ Ext b.1 b'.1 ∧ (∀ i, dn i = true → wt' i = wt i) ∧
    ((b'.2.2.2 = 1 ∧ DJm (vN V 0) (nxQ V gi y) (cstQ V dy) (tGv (vT V 1 gi)) b'.1 wt' dn p ap (vN V 0)) ∨ (b'.2.2.2 = 4 ∧ ¬ ∃ xs : List Int32, xs.length ≤ 500 ∧ ∀ t, Rch (vN V 0) (nxQ V gi y) (tGv (vT V 1 gi)) t → t ∈ xs))
theorem WMG.after {V : View} {gi : Nat} {y : Int32} {dy : Bool} {p ap B : Nat} {dn : Nat → Bool} {M M1 : ej_Mem} {b b1 : BS} {wt wt1 : Nat → Option Nat} {r : Option ej_R} (h : WMG V gi y dy p ap B dn M1 b1 wt1 r) (f : Fr Psc M M1) (e : Ext b.1 b1.1) (w : ∀ i, dn i = true → wt1 i = wt i) : WMG V gi y dy p ap B dn M b wt r := by
  obtain ⟨M', b', wt', h1, h2, h3, h4, h5, h6⟩ := h
  exact ⟨M', b', wt', h1, f.trans h2, h3, e.trans h4, fun i hi => (h5 i hi).trans (w i hi), h6⟩
theorem wm_loop {D : Nat} (hD : 4 ≤ D) {own : Nat → Nat} {V : View} {gi wi : Nat} {y l5 : Int32} {dy : Bool} (hdy : l5 = b2i dy) {p ap B : Nat} {fr : Int32} (hB : B + 9999 < 2 ^ 31) (hap : ap ≤ B) {dn : Nat → Bool} : ∀ (n m : Nat) (M : ej_Mem) (b : BS) (wt : Nat → Option Nat) (o8 o9 o10 o11 : Option Value), m + n = vN V 0 → QC M own V gi wi y → SC M b wt dn (B + 9999) → b.2.2.2 = 1 → DJm (vN V 0) (nxQ V gi y) (cstQ V dy) (tGv (vT V 1 gi)) b.1 wt dn p ap m → b.1.getD p 0 = fr →
    WMG V gi y dy p ap B dn M b wt (rn jm_Scal_weighMoves (cal D) 12 [some (.ref 85), some (.ref 68), some (.ref 80), some (.ref 81), some (.int (nI p)), some (.int l5), some (.int fr), some (.int (nI m)), o8, o9, o10, o11] [] M)
  | 0, m, M, b, wt, o8, o9, o10, o11, hm, hq, hs, h1, hj, hp => by
    have hV := hq.1.2.2.2.2.2.2.1
    have hv := hq.1.2.2.2.2.2.1
    have l0 := hV.le (show 0 < 4 by decide)
    have a70 : aI M 70 0 = nI (vN V 0) := by rw [← hv.2.2.1 0 (by decide)]; exact (hv.2.1 0 (by decide)).1
    rw [eq_Scal_weighMoves_12]
    simp only [SW.all hq.1.1, MR, ckk_T, deR_s, deQ_s, deQ_n, bkV_s, bkI_s, bkJ_s, bkQ_s, bkQ_n, ckb0, ckb1, ckb2, ckb3, eq_self, Nat.reduceEqDiff, Nat.reduceLeDiff, Nat.reduceLT, reduceIte, true_or, or_true, not_false_eq_true, not_true_eq_false, and_self, and_true, true_and, LIT, Int32.reduceLT, Int32.reduceLE, Int32.reduceToNatClampNeg]
    rw [a70, if_pos (nI_le (by omega) (by omega)), eq_Scal_weighMoves_181]
    obtain rfl : m = vN V 0 := by omega
    exact ⟨M, b, wt, rfl, Fr.refl _ M, hs, Ext.refl _, fun _ _ => rfl, Or.inl ⟨h1, hj⟩⟩
  | n + 1, m, M, b, wt, o8, o9, o10, o11, hm, hq, hs, h1, hj, hp => by
    have hV := hq.1.2.2.2.2.2.2.1
    have hv := hq.1.2.2.2.2.2.1
    have hB1 := hq.1.2.2.2.1
    have l0 := hV.le (show 0 < 4 by decide)
    have a70 : aI M 70 0 = nI (vN V 0) := by rw [← hv.2.2.1 0 (by decide)]; exact (hv.2.1 0 (by decide)).1
    have H := hs.1
    have h500 := H.2.2.1
    have hmn : m < nL M 68 0 := by rw [hv.2.2.1 0 (by decide)]; omega
    have hw := ((hv.2.1 0 (by decide)).2.2 m hmn).2
    obtain ⟨⟨j1, j2, j3⟩, j4, j5, j6, j7, j8, j9⟩ := hj
    have hjm : DJm (vN V 0) (nxQ V gi y) (cstQ V dy) (tGv (vT V 1 gi)) b.1 wt dn p ap m := ⟨⟨j1, j2, j3⟩, j4, j5, j6, j7, j8, j9⟩
    obtain ⟨vp, wp, ep, bp⟩ := hs.2.1 p j7
    rw [j9] at wp
    cases wp
    have cok := cstQ_ok hV dy (show m < vN V 0 by omega)
    have tx : cTxt M (wL M 68 0 m) = vT V 0 m := hv.txt (by decide) (by omega)
    have i7 : mI M 81 7 = 1 := by rw [H.2.1.2.2, h1]; rfl
    have IH := fun M1 b1 wt1 a8 a9 a10 a11 => wm_loop (V := V) (gi := gi) (y := y) hD hdy (p := p) hB hap (dn := dn) (own := own) (wi := wi) (fr := fr) n (m + 1) M1 b1 wt1 a8 a9 a10 a11 (by omega)
    have skip : (∀ t, nxQ V gi y m fr = some t → ∃ j v, j < b.1.length ∧ b.1.getD j 0 = t ∧ wt j = some v ∧ v ≤ ap + cstQ V dy m) → ∀ a9 a10 a11, WMG V gi y dy p ap B dn M b wt (rn jm_Scal_weighMoves (cal D) 175 [some (.ref 85), some (.ref 68), some (.ref 80), some (.ref 81), some (.int (nI p)), some (.int l5), some (.int fr), some (.int (nI m)), some (.ref (wL M 68 0 m)), a9, a10, a11] [] M) := by
      intro hsk a9 a10 a11
      rw [eq_Scal_weighMoves_175, nI_1]
      exact IH M b wt _ a9 a10 a11 hq hs h1 (hjm.skip (by rw [hp]; exact hsk)) hp
    have upd : ∀ (M1 : ej_Mem) (b1 : BS) (k : Nat) (t : Int32) (a11 : Int32), Fr (Ph 81) M M1 → HR M1 81 500 1024 22 b1 → b1.2.2.2 = 1 → (b.1.length ≤ b1.1.length ∧ (∀ i, i < b.1.length → b1.1.getD i 0 = b.1.getD i 0) ∧ ∀ i, b.1.length ≤ i → i < b1.1.length → i = k) → k < b1.1.length → b1.1.getD k 0 = t → nxQ V gi y m fr = some t → dn k = false → (k < b.1.length → ∃ v, wt k = some v ∧ ap + cstQ V dy m ≤ v) → WMG V gi y dy p ap B dn M b wt (rn jm_Scal_weighMoves (cal D) 150 [some (.ref 85), some (.ref 68), some (.ref 80), some (.ref 81), some (.int (nI p)), some (.int l5), some (.int fr), some (.int (nI m)), some (.ref (wL M 68 0 m)), some (.int (nI (ap + cstQ V dy m))), some (.int (nI k)), some (.int a11)] [] M1) := by
      intro M1 b1 k t a11 f1 H1 s1 hx hk ht e hd ho
      have k500 := H1.2.2.1
      rw [eq_Scal_weighMoves_150, if_neg (show ¬ (500 : Int32) ≤ nI k from nI_ge (a := k) (b := 500) (by omega) (by decide))]
      have S1 := f1.sw hq.1.1
      simp only [SW.all S1, MR, ckk_T, deR_s, deQ_s, deQ_n, bkV_s, bkI_s, bkJ_s, bkQ_s, bkQ_n, ckb0, ckb1, ckb2, ckb3, eq_self, Nat.reduceEqDiff, Nat.reduceLeDiff, Nat.reduceLT, reduceIte, true_or, or_true, not_false_eq_true, not_true_eq_false, and_self, and_true, true_and, LIT, Int32.reduceLT, Int32.reduceLE, Int32.reduceToNatClampNeg]
      rw [ckb_n (by omega) (by decide), ckb_n (by omega) (by decide), nI_clamp (by omega), nar_0]
      have f2 : Fr (fun o j => o = 86 ∨ o = 87) M1 (setA (setA M1 86 k (nI (ap + cstQ V dy m))) 87 k 0) := (Fr.setA (P := fun o j => o = 86 ∨ o = 87) M1 _ (Or.inl rfl)).trans (Fr.setA (P := fun o j => o = 86 ∨ o = 87) _ _ (Or.inr rfl))
      have v86 : aI (setA (setA M1 86 k (nI (ap + cstQ V dy m))) 87 k 0) 86 = va_up (aI M1 86) k (nI (ap + cstQ V dy m)) := rfl
      have v87 : aI (setA (setA M1 86 k (nI (ap + cstQ V dy m))) 87 k 0) 87 = va_up (aI M1 87) k 0 := rfl
      generalize setA (setA M1 86 k (nI (ap + cstQ V dy m))) 87 k 0 = M2 at *
      have F1 : Fr Psc M M1 := f1.mono (fun o j q => Or.inl q)
      have F2 : Fr Psc M M2 := F1.trans (f2.mono (fun o j q => Or.inr q))
      have z122 := hq.1.2.2.1
      have H2 : HR M2 81 500 1024 22 b1 := H1.g f2.g (fun o u v => ⟨by rw [f1.z]; omega, fun j q => by omega⟩)
      have a86 : aI M1 86 = aI M 86 := f1.af (fun j q => by unfold Ph at q; omega)
      have a87 : aI M1 87 = aI M 87 := f1.af (fun j q => by unfold Ph at q; omega)
      have old : ∀ i, i < b1.1.length → i ≠ k → i < b.1.length := fun i hi q => by
        rcases Nat.lt_or_ge i b.1.length with z | z
        · exact z
        · exact absurd (hx.2.2 i z hi) q
      have S2 : SC M2 b1 (va_up wt k (some (ap + cstQ V dy m))) dn (B + 9999) := by
        refine ⟨H2, fun i hi => ?_, fun i hi => ?_, fun i hi => hs.2.2.2 i (by omega)⟩
        · by_cases q : i = k
          · subst q
            exact ⟨_, up_s _ _ _, by rw [v86, up_s], by omega⟩
          · obtain ⟨v, u1, u2, u3⟩ := hs.2.1 i (old i hi q)
            exact ⟨v, by rw [up_n q]; exact u1, by rw [v86, up_n q, a86]; exact u2, u3⟩
        · by_cases q : i = k
          · subst q; rw [v87, up_s, hd]; rfl
          · rw [v87, up_n q, a87]; exact hs.2.2.1 i (old i hi q)
      have dj := hjm.upd (dn' := dn) (k := k) (show m < vN V 0 by omega) (by rw [hp]; exact e) hx hk ht ⟨hd, fun _ _ => rfl⟩ (fun z => ⟨hd, Or.inr (ho z)⟩)
      rw [eq_Scal_weighMoves_175, nI_1]
      refine (IH M2 b1 _ _ _ _ _ (hq.sc F2 H2) S2 s1 dj (by rw [hx.2.1 p j7]; exact hp)).after F2 ⟨hx.1, hx.2.1⟩ (fun i hi => ?_)
      rw [up_n (fun z => by rw [z, hd] at hi; cases hi)]
    have ech : cal D jm_Writ_changed [.ref (wL M 68 0 m), .int fr] M = some (some (.int (vCh V m fr)), M) := by
      rw [← chC_v hv (show m < vN V 0 by omega)]; exact p_changed (by omega) hw.1 fr
    have hG := ((hv.2.1 1 (by decide)).2.2 gi (by rw [hv.2.2.1 1 (by decide)]; exact hq.2.1)).2
    have eLed : cal D jm_Land_ledTo [.ref 68, .int (nI m), .int fr, .ref 80] M = some (some (.int ((nxQ V gi y m fr).getD (-1))), M) := by
      have := p_ledTo hD hq.1.2.1 hv.1 hv.2.1 (t := 80) (g := wL M 68 1 gi) (by unfold TA; exact (SW.all hq.1.1).2.2.2.2.2.2.2.2.2.2.2.2.2.2.2.2.2.2.2.2.2.1) hq.2.2.2.1.1 hG hmn fr
      rw [this, ledC_v hv hq.2.1 _ _ (by omega), hq.2.2.2.1.2.2]
      unfold nxQ
      rw [nxV_congr (ok := fun m _ => bJ (mL M 80 2) m) (ok' := fun m _ => vOp V y m) (fun m' hm' _ => hq.2.2.2.2 m' hm')]
    obtain ⟨v, ev, hv1, hv2⟩ := p_placeOfC (by omega : 2 ≤ D) hz5 H (vCh V m fr)
    have key : ∀ o9 o10 o11, WMG V gi y dy p ap B dn M b wt (rn jm_Scal_weighMoves (cal D) 73 [some (.ref 85), some (.ref 68), some (.ref 80), some (.ref 81), some (.int (nI p)), some (.int l5), some (.int fr), some (.int (nI m)), some (.ref (wL M 68 0 m)), o9, o10, o11] [.int (nI (cstQ V dy m)), .int (nI ap)] M) := by
      intro o9 o10 o11
      rw [eq_Scal_weighMoves_73]
      simp only [hw.1, MR, ckk_T, deR_s, deQ_s, deQ_n, bkV_s, bkI_s, bkJ_s, bkQ_s, bkQ_n, ckb0, ckb1, ckb2, ckb3, eq_self, Nat.reduceEqDiff, Nat.reduceLeDiff, Nat.reduceLT, reduceIte, true_or, or_true, not_false_eq_true, not_true_eq_false, and_self, and_true, true_and, LIT, Int32.reduceLT, Int32.reduceLE, Int32.reduceToNatClampNeg]
      rw [ech]
      simp only [H.1.1, MR, ckk_T, deR_s, deQ_s, deQ_n, bkV_s, bkI_s, bkJ_s, bkQ_s, bkQ_n, ckb0, ckb1, ckb2, ckb3, eq_self, Nat.reduceEqDiff, Nat.reduceLeDiff, Nat.reduceLT, reduceIte, true_or, or_true, not_false_eq_true, not_true_eq_false, and_self, and_true, true_and, LIT, Int32.reduceLT, Int32.reduceLE, Int32.reduceToNatClampNeg]
      rw [ev]
      simp only [SW.all hq.1.1, MR, ckk_T, deR_s, deQ_s, deQ_n, bkV_s, bkI_s, bkJ_s, bkQ_s, bkQ_n, ckb0, ckb1, ckb2, ckb3, eq_self, Nat.reduceEqDiff, Nat.reduceLeDiff, Nat.reduceLT, reduceIte, true_or, or_true, not_false_eq_true, not_true_eq_false, and_self, and_true, true_and, LIT, Int32.reduceLT, Int32.reduceLE, Int32.reduceToNatClampNeg, nI_add]
      cases hx : nxQ V gi y m fr with
      | none =>
        have sk := skip (fun t q => by rw [hx] at q; cases q)
        have n110 : WMG V gi y dy p ap B dn M b wt (rn jm_Scal_weighMoves (cal D) 110 [some (.ref 85), some (.ref 68), some (.ref 80), some (.ref 81), some (.int (nI p)), some (.int l5), some (.int fr), some (.int (nI m)), some (.ref (wL M 68 0 m)), some (.int (nI (ap + cstQ V dy m))), some (.int v), o11] [] M) := by
          rw [eq_Scal_weighMoves_110]
          simp only [SW.all hq.1.1, MR, ckk_T, deR_s, deQ_s, deQ_n, bkV_s, bkI_s, bkJ_s, bkQ_s, bkQ_n, ckb0, ckb1, ckb2, ckb3, eq_self, Nat.reduceEqDiff, Nat.reduceLeDiff, Nat.reduceLT, reduceIte, true_or, or_true, not_false_eq_true, not_true_eq_false, and_self, and_true, true_and, LIT, Int32.reduceLT, Int32.reduceLE, Int32.reduceToNatClampNeg]
          rw [eLed, hx]
          exact sk _ _ _
        by_cases q : v = -1
        · rw [if_pos q]; exact n110
        · rw [if_neg q]
          have : vCh V m fr ∈ b.1 := by
            rcases Classical.em (vCh V m fr ∈ b.1) with z | z
            · exact z
            · exact absurd (hv2 z) q
          obtain ⟨k, hk, ek⟩ := mem_getD this
          have := hv1 k hk ek
          subst this
          rw [ckb_n (by omega) (by decide)]
          split
          · exact n110
          · exact sk _ _ _
      | some t =>
        have ht : t = vCh V m fr := by
          unfold nxQ nxV at hx
          split at hx
          · exact (Option.some.inj hx).symm
          · cases hx
        have hpt : Pth (vN V 0) (nxQ V gi y) (cstQ V dy) (tGv (vT V 1 gi)) t (ap + cstQ V dy m) := (j4 p j7 ap j9).cons (by omega) (by rw [hp]; exact hx)
        have tn : ¬ t = -1 := b31_nm (pth_pos hV hq.2.1 hpt)
        subst ht
        rcases Classical.em (vCh V m fr ∈ b.1) with z | z
        · obtain ⟨k, hk, ek⟩ := mem_getD z
          have := hv1 k hk ek
          subst this
          obtain ⟨vk, u1, u2, u3⟩ := hs.2.1 k hk
          rw [if_neg (nI_nm (by omega)), ckb_n (by omega) (by decide), nI_clamp (by omega), u2]
          by_cases q : ap + cstQ V dy m < vk
          · rw [if_pos (nI_lt q (by omega)), eq_Scal_weighMoves_110]
            simp only [SW.all hq.1.1, MR, ckk_T, deR_s, deQ_s, deQ_n, bkV_s, bkI_s, bkJ_s, bkQ_s, bkQ_n, ckb0, ckb1, ckb2, ckb3, eq_self, Nat.reduceEqDiff, Nat.reduceLeDiff, Nat.reduceLT, reduceIte, true_or, or_true, not_false_eq_true, not_true_eq_false, and_self, and_true, true_and, LIT, Int32.reduceLT, Int32.reduceLE, Int32.reduceToNatClampNeg]
            rw [eLed, hx, bkI_s]
            show WMG V gi y dy p ap B dn M b wt (if vCh V m fr = -1 then _ else _)
            rw [if_neg tn, if_neg (nI_nm (by omega))]
            refine upd M b k (vCh V m fr) _ (Fr.refl _ M) H h1 ⟨Nat.le_refl _, fun _ _ => rfl, fun i u w => by omega⟩ hk ek hx ?_ (fun _ => ⟨vk, u1, by omega⟩)
            cases hd : dn k with
            | false => rfl
            | true =>
              obtain ⟨a, w1, w2, _⟩ := j5 k hk hd
              rw [u1] at w1
              cases w1
              omega
          · rw [if_neg (nI_nlt (by omega) (by omega))]
            exact skip (fun t q => by
              rw [hx] at q
              cases q
              exact ⟨k, vk, hk, ek, u1, by omega⟩) _ _ _
        · rw [hv2 z, if_pos rfl, eq_Scal_weighMoves_110]
          simp only [SW.all hq.1.1, MR, ckk_T, deR_s, deQ_s, deQ_n, bkV_s, bkI_s, bkJ_s, bkQ_s, bkQ_n, ckb0, ckb1, ckb2, ckb3, eq_self, Nat.reduceEqDiff, Nat.reduceLeDiff, Nat.reduceLT, reduceIte, true_or, or_true, not_false_eq_true, not_true_eq_false, and_self, and_true, true_and, LIT, Int32.reduceLT, Int32.reduceLE, Int32.reduceToNatClampNeg]
          rw [eLed, hx, bkI_s]
          show WMG V gi y dy p ap B dn M b wt (if vCh V m fr = -1 then _ else _)
          rw [if_neg tn]
          obtain ⟨M1, e1, f1, H1⟩ := p_meetN (by omega : 3 ≤ D) hz5 H h1 z 0 0
          have e1 : cal D jm_Hunt_meet [.ref 81, .int (vCh V m fr), .int 0, .null] M = some (none, M1) := e1
          simp only [H.1.1, H.2.1, Option.getD_some, MR, ckk_T, deR_s, deQ_s, deQ_n, bkV_s, bkI_s, bkJ_s, bkQ_s, bkQ_n, ckb0, ckb1, ckb2, ckb3, eq_self, Nat.reduceEqDiff, Nat.reduceLeDiff, Nat.reduceLT, reduceIte, true_or, or_true, not_false_eq_true, not_true_eq_false, and_self, and_true, true_and, LIT, Int32.reduceLT, Int32.reduceLE, Int32.reduceToNatClampNeg]
          rw [e1, bkV_s]
          unfold b_meet at H1
          by_cases hc : b.1.length = 500
          · rw [if_pos hc] at H1
            have a86 : aI M1 86 = aI M 86 := f1.af (fun j q => by unfold Ph at q; omega)
            have a87 : aI M1 87 = aI M 87 := f1.af (fun j q => by unfold Ph at q; omega)
            have S1 := f1.sw hq.1.1
            have i71 : mI M1 81 7 = 4 := H1.2.1.2.2
            have E : ∀ a8 a9 a10 a11, rn jm_Scal_weighMoves (cal D) 12 [some (.ref 85), some (.ref 68), some (.ref 80), some (.ref 81), some (.int (nI p)), some (.int l5), some (.int fr), some (.int (nI (m + 1))), a8, a9, a10, a11] [] M1 = some (none, M1) := by
              intro a8 a9 a10 a11
              rw [eq_Scal_weighMoves_12]
              simp only [SW.all S1, MR, ckk_T, deR_s, deQ_s, deQ_n, bkV_s, bkI_s, bkJ_s, bkQ_s, bkQ_n, ckb0, ckb1, ckb2, ckb3, eq_self, Nat.reduceEqDiff, Nat.reduceLeDiff, Nat.reduceLT, reduceIte, true_or, or_true, not_false_eq_true, not_true_eq_false, and_self, and_true, true_and, LIT, Int32.reduceLT, Int32.reduceLE, Int32.reduceToNatClampNeg]
              rw [i71, if_pos rfl, eq_Scal_weighMoves_181]
              split <;> rfl
            rw [hc, eq_Scal_weighMoves_150, if_pos (show (500 : Int32) ≤ nI 500 by decide), eq_Scal_weighMoves_175, nI_1, E]
            refine ⟨M1, _, wt, rfl, f1.mono (fun o j q => Or.inl q), ⟨H1, fun i hi => by rw [a86]; exact hs.2.1 i hi, fun i hi => by rw [a87]; exact hs.2.2.1 i hi, hs.2.2.2⟩, Ext.refl _, fun _ _ => rfl, Or.inr ⟨rfl, ?_⟩⟩
            rintro ⟨xs, hl, hall⟩
            have := nodup_sub_len (vCh V m fr :: b.1) xs (List.nodup_cons.mpr ⟨z, H.2.2.2.1⟩) (by
              intro x hx2
              rcases List.mem_cons.mp hx2 with rfl | hx2
              · exact hall _ hpt.rch
              · obtain ⟨i, hi, ei⟩ := mem_getD hx2
                obtain ⟨vi, u1, _, _⟩ := hs.2.1 i hi
                rw [← ei]
                exact hall _ (j4 i hi vi u1).rch)
            simp only [List.length_cons] at this
            omega
          · rw [if_neg hc] at H1
            refine upd M1 _ b.1.length (vCh V m fr) _ f1 H1 rfl ⟨by simp, fun i hi => ?_, fun i u w => by simp at w; omega⟩ (by simp) ?_ hx (hs.2.2.2 _ (Nat.le_refl _)) (fun w => by omega)
            · rw [getD_app, if_pos hi]
            · rw [getD_app, if_neg (by omega), if_pos rfl]
    rw [eq_Scal_weighMoves_12]
    simp only [SW.all hq.1.1, MR, ckk_T, deR_s, deQ_s, deQ_n, bkV_s, bkI_s, bkJ_s, bkQ_s, bkQ_n, ckb0, ckb1, ckb2, ckb3, eq_self, Nat.reduceEqDiff, Nat.reduceLeDiff, Nat.reduceLT, reduceIte, true_or, or_true, not_false_eq_true, not_true_eq_false, and_self, and_true, true_and, LIT, Int32.reduceLT, Int32.reduceLE, Int32.reduceToNatClampNeg]
    rw [a70, if_neg (nI_ge (by omega) (by omega)), i7, if_neg (by decide)]
    rw [p_writ_s (by omega) hq.1.2.1 hv.1 hv.2.1 ks0 (by decide) hmn]
    simp only [SW.all hq.1.1, hw.1, MR, ckk_T, deR_s, deQ_s, deQ_n, bkV_s, bkI_s, bkJ_s, bkQ_s, bkQ_n, ckb0, ckb1, ckb2, ckb3, eq_self, Nat.reduceEqDiff, Nat.reduceLeDiff, Nat.reduceLT, reduceIte, true_or, or_true, not_false_eq_true, not_true_eq_false, and_self, and_true, true_and, LIT, Int32.reduceLT, Int32.reduceLE, Int32.reduceToNatClampNeg]
    rw [ckb_n (by omega) (by decide), nI_clamp (by omega), ep]
    have c0 : mI M (wL M 68 0 m) 3 = tFe (vT V 0 m) ∧ mI M (wL M 68 0 m) 2 = tDy (vT V 0 m) := by rw [← tx]; exact ⟨rfl, rfl⟩
    have cc := cok.1
    unfold costI at cc
    cases dy
    · rw [if_pos (by rw [hdy]; rfl), c0.1, show tFe (vT V 0 m) = nI (cstQ V false m) from cc]
      exact key _ _ _
    · rw [if_neg (by rw [hdy]; decide), c0.2, show tDy (vT V 0 m) = nI (cstQ V true m) from cc]
      exact key _ _ _
