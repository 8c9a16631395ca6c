/-! the class's terms, and whole searches by them -/
def askB (V : View) (g w y : Int32) : Bool := hasB (vN V 1) g && (hasB (vN V 2) w && inB y 0 2999)
def TM (M M1 : ej_Mem) (V : View) (g w y : Int32) : Prop := mR M1 80 0 = (if hasB (vN V 1) g = true then some (wL M 68 1 g.toNatClampNeg) else none) ∧ mR M1 80 1 = (if hasB (vN V 2) w = true then some (wL M 68 2 w.toNatClampNeg) else none) ∧
  (∀ k, k < 64 → bJ (mL M1 80 2) k = (decide (k < vN V 0) && vOp V y k)) ∧ mI M1 80 3 = vF V ∧ mI M1 80 4 = 65535
theorem Pq80 {own : Nat → Nat} {M M' : ej_Mem} {V : View} (h : KC M own V) (f : FrG (fun o _ => o = 80) M M') : KC M' own V := by
  have f2 : FrG Pq M M' := f.mono (fun o k _ q => Or.inl q)
  obtain ⟨b, hb⟩ := h.2.2.2.2.2.2.2
  refine h.query f2 ⟨b, hb.g f (fun o h1 h2 => ⟨by have := h.2.2.1; omega, fun k q => by omega⟩)⟩
theorem gR_s (M : ej_Mem) (o k : Nat) (v : Option Nat) : mR (setR M o k v) o k = v := by
  show (if o = o then va_up (mR M o) k v else mR M o) k = v
  rw [if_pos rfl, up_s]
theorem gR_n {M : ej_Mem} {o k o' k' : Nat} {v : Option Nat} (h : ¬ (o' = o ∧ k' = k)) : mR (setR M o k v) o' k' = mR M o' k' := by
  show (if o' = o then va_up (mR M o) k v else mR M o') k' = _
  by_cases e : o' = o
  · subst e; rw [if_pos rfl, up_n (fun e2 => h ⟨rfl, e2⟩)]
  · rw [if_neg e]
theorem gL_s (M : ej_Mem) (o k : Nat) (v : Int64) : mL (setL M o k v) o k = v := by
  show (if o = o then va_up (mL M o) k v else mL M o) k = v
  rw [if_pos rfl, up_s]
theorem p_setTerms {D : Nat} (hD : 2 ≤ D) {M : ej_Mem} {own : Nat → Nat} {V : View} (h : KC M own V) (g w y : Int32) :
    ∃ M1, cal D jm_Suit_setTerms [.ref 59, .int g, .int w, .int y] M = some (some (.int (b2i (askB V g w y))), M1) ∧ FrG (fun o _ => o = 80) M M1 ∧ TM M M1 V g w y := by
  obtain ⟨d, rfl⟩ : ∃ d, D = d + 1 := ⟨D - 1, by omega⟩
  have hl1 := h.2.2.2.2.2.2.1.le (show 1 < 4 by decide)
  have hl2 := h.2.2.2.2.2.2.1.le (show 2 < 4 by decide)
  rw [ca_Suit_setTerms, eq_Suit_setTerms_0]
  -- the gift
  obtain ⟨gq, e1, hgq⟩ : ∃ gq : Option Nat, (bkQ (cal d jm_Land_writ [.ref 68, .int 1, .int g] M) (fun M3 => ckk (mC M3 80 = 6) (rn jm_Suit_setTerms (cal d) 16 [some (.ref 59), some (.int g), some (.int w), some (.int y)] [] (setR M3 80 0 none))) (fun q4 M5 => ckk (mC M5 80 = 6) (rn jm_Suit_setTerms (cal d) 16 [some (.ref 59), some (.int g), some (.int w), some (.int y)] [] (setR M5 80 0 (some q4))))) = rn jm_Suit_setTerms (cal d) 16 [some (.ref 59), some (.int g), some (.int w), some (.int y)] [] (setR M 80 0 gq) ∧ gq = (if hasB (vN V 1) g = true then some (wL M 68 1 g.toNatClampNeg) else none) := by
    rcases h.writ (by omega : 1 ≤ d) ks1 (by decide) g with ⟨hb, e⟩ | ⟨i, hi, rfl, hb, e, hw⟩
    · refine ⟨none, ?_, by rw [hb]; rfl⟩
      rw [e]
      simp only [SW.all h.1, MR, ckk_T, deR_s, deQ_s, deQ_n, bkV_s, bkI_s, bkJ_s, bkQ_s, bkQ_n, ckb0, ckb1, ckb2, ckb3, eq_self, Nat.reduceEqDiff, Nat.reduceLeDiff, Nat.reduceLT, reduceIte, true_or, or_true, not_false_eq_true, not_true_eq_false, and_self, and_true, true_and, LIT, Int32.reduceLT, Int32.reduceLE, Int32.reduceToNatClampNeg]
    · refine ⟨some (wL M 68 1 i), ?_, by rw [hb, if_pos rfl, nI_clamp (by omega)]⟩
      rw [e]
      simp only [SW.all h.1, MR, ckk_T, deR_s, deQ_s, deQ_n, bkV_s, bkI_s, bkJ_s, bkQ_s, bkQ_n, ckb0, ckb1, ckb2, ckb3, eq_self, Nat.reduceEqDiff, Nat.reduceLeDiff, Nat.reduceLT, reduceIte, true_or, or_true, not_false_eq_true, not_true_eq_false, and_self, and_true, true_and, LIT, Int32.reduceLT, Int32.reduceLE, Int32.reduceToNatClampNeg]
  simp only [SW.all h.1, MR, ckk_T, deR_s, deQ_s, deQ_n, bkV_s, bkI_s, bkJ_s, bkQ_s, bkQ_n, ckb0, ckb1, ckb2, ckb3, eq_self, Nat.reduceEqDiff, Nat.reduceLeDiff, Nat.reduceLT, reduceIte, true_or, or_true, not_false_eq_true, not_true_eq_false, and_self, and_true, true_and, LIT, Int32.reduceLT, Int32.reduceLE, Int32.reduceToNatClampNeg] at e1 ⊢
  rw [e1]
  have f1 : FrG (fun o _ => o = 80) M (setR M 80 0 gq) := FrG.setR M _ rfl
  have K1 := Pq80 h f1
  have w1 : ∀ k i, wL (setR M 80 0 gq) 68 k i = wL M 68 k i := fun _ _ => rfl
  have r1 : mR (setR M 80 0 gq) 80 0 = gq := gR_s _ _ _ _
  generalize setR M 80 0 gq = M1 at *
  rw [eq_Suit_setTerms_16]
  obtain ⟨wq, e2, hwq⟩ : ∃ wq : Option Nat, (bkQ (cal d jm_Land_writ [.ref 68, .int 2, .int w] M1) (fun M3 => ckk (mC M3 80 = 6) (rn jm_Suit_setTerms (cal d) 32 [some (.ref 59), some (.int g), some (.int w), some (.int y)] [] (setR M3 80 1 none))) (fun q4 M5 => ckk (mC M5 80 = 6) (rn jm_Suit_setTerms (cal d) 32 [some (.ref 59), some (.int g), some (.int w), some (.int y)] [] (setR M5 80 1 (some q4))))) = rn jm_Suit_setTerms (cal d) 32 [some (.ref 59), some (.int g), some (.int w), some (.int y)] [] (setR M1 80 1 wq) ∧ wq = (if hasB (vN V 2) w = true then some (wL M 68 2 w.toNatClampNeg) else none) := by
    rcases K1.writ (by omega : 1 ≤ d) ks2 (by decide) w with ⟨hb, e⟩ | ⟨i, hi, rfl, hb, e, hw⟩
    · refine ⟨none, ?_, by rw [hb]; rfl⟩
      rw [e]
      simp only [SW.all K1.1, MR, ckk_T, deR_s, deQ_s, deQ_n, bkV_s, bkI_s, bkJ_s, bkQ_s, bkQ_n, ckb0, ckb1, ckb2, ckb3, eq_self, Nat.reduceEqDiff, Nat.reduceLeDiff, Nat.reduceLT, reduceIte, true_or, or_true, not_false_eq_true, not_true_eq_false, and_self, and_true, true_and, LIT, Int32.reduceLT, Int32.reduceLE, Int32.reduceToNatClampNeg]
    · refine ⟨some (wL M1 68 2 i), ?_, by rw [hb, if_pos rfl, nI_clamp (by omega), w1]⟩
      rw [e]
      simp only [SW.all K1.1, MR, ckk_T, deR_s, deQ_s, deQ_n, bkV_s, bkI_s, bkJ_s, bkQ_s, bkQ_n, ckb0, ckb1, ckb2, ckb3, eq_self, Nat.reduceEqDiff, Nat.reduceLeDiff, Nat.reduceLT, reduceIte, true_or, or_true, not_false_eq_true, not_true_eq_false, and_self, and_true, true_and, LIT, Int32.reduceLT, Int32.reduceLE, Int32.reduceToNatClampNeg]
  simp only [SW.all K1.1, MR, ckk_T, deR_s, deQ_s, deQ_n, bkV_s, bkI_s, bkJ_s, bkQ_s, bkQ_n, ckb0, ckb1, ckb2, ckb3, eq_self, Nat.reduceEqDiff, Nat.reduceLeDiff, Nat.reduceLT, reduceIte, true_or, or_true, not_false_eq_true, not_true_eq_false, and_self, and_true, true_and, LIT, Int32.reduceLT, Int32.reduceLE, Int32.reduceToNatClampNeg] at e2 ⊢
  rw [e2]
  have f2 : FrG (fun o _ => o = 80) M1 (setR M1 80 1 wq) := FrG.setR M1 _ rfl
  have K2 := Pq80 K1 f2
  have r2 : mR (setR M1 80 1 wq) 80 0 = gq := by rw [gR_n (by omega)]; exact r1
  have r3 : mR (setR M1 80 1 wq) 80 1 = wq := gR_s _ _ _ _
  have f12 := f1.trans f2
  generalize setR M1 80 1 wq = M2 at *
  rw [eq_Suit_setTerms_32]
  simp only [SW.all K2.1, MR, ckk_T, deR_s, deQ_s, deQ_n, bkV_s, bkI_s, bkJ_s, bkQ_s, bkQ_n, ckb0, ckb1, ckb2, ckb3, eq_self, Nat.reduceEqDiff, Nat.reduceLeDiff, Nat.reduceLT, reduceIte, true_or, or_true, not_false_eq_true, not_true_eq_false, and_self, and_true, true_and, LIT, Int32.reduceLT, Int32.reduceLE, Int32.reduceToNatClampNeg]
  obtain ⟨z, ez, hzb⟩ := p_movesOpenIn (by omega : 1 ≤ d) K2.2.2.2.2.2.1.1 K2.2.2.2.2.2.1.2.1 y
  rw [ez]
  simp only [SW.all K2.1, MR, ckk_T, deR_s, deQ_s, deQ_n, bkV_s, bkI_s, bkJ_s, bkQ_s, bkQ_n, ckb0, ckb1, ckb2, ckb3, eq_self, Nat.reduceEqDiff, Nat.reduceLeDiff, Nat.reduceLT, reduceIte, true_or, or_true, not_false_eq_true, not_true_eq_false, and_self, and_true, true_and, LIT, Int32.reduceLT, Int32.reduceLE, Int32.reduceToNatClampNeg]
  rw [eq_Suit_setTerms_47]
  simp only [SW.all K2.1, MR, ckk_T, deR_s, deQ_s, deQ_n, bkV_s, bkI_s, bkJ_s, bkQ_s, bkQ_n, ckb0, ckb1, ckb2, ckb3, eq_self, Nat.reduceEqDiff, Nat.reduceLeDiff, Nat.reduceLT, reduceIte, true_or, or_true, not_false_eq_true, not_true_eq_false, and_self, and_true, true_and, LIT, Int32.reduceLT, Int32.reduceLE, Int32.reduceToNatClampNeg]
  rw [eq_Suit_setTerms_61]
  simp only [SW.all K2.1, MR, ckk_T, deR_s, deQ_s, deQ_n, bkV_s, bkI_s, bkJ_s, bkQ_s, bkQ_n, ckb0, ckb1, ckb2, ckb3, eq_self, Nat.reduceEqDiff, Nat.reduceLeDiff, Nat.reduceLT, reduceIte, true_or, or_true, not_false_eq_true, not_true_eq_false, and_self, and_true, true_and, LIT, Int32.reduceLT, Int32.reduceLE, Int32.reduceToNatClampNeg]
  rw [eq_Suit_setTerms_70]
  have hf : mI M2 68 4 = vF V := K2.2.2.2.2.2.1.2.2.2.2.2.1
  rw [hf]
  generalize hM3 : setI (setI (setL M2 80 2 z) 80 3 (vF V)) 80 4 65535 = M3
  have f3 : FrG (fun o _ => o = 80) M2 M3 := by
    rw [← hM3]
    exact ((FrG.setL (P := fun o _ => o = 80) (o := 80) (k := 2) M2 z rfl).trans (FrG.setI (P := fun o _ => o = 80) (o := 80) (k := 3) _ (vF V) rfl)).trans (FrG.setI (P := fun o _ => o = 80) (o := 80) (k := 4) _ 65535 rfl)
  have K3 := Pq80 K2 f3
  have t0 : mR M3 80 0 = gq := by rw [← hM3]; exact r2
  have t1 : mR M3 80 1 = wq := by rw [← hM3]; exact r3
  have t2 : mL M3 80 2 = z := by rw [← hM3]; exact gL_s _ _ _ _
  have t3 : mI M3 80 3 = vF V := by rw [← hM3, gI_n (by omega), gI_s]
  have t4 : mI M3 80 4 = 65535 := by rw [← hM3, gI_s]
  refine ⟨M3, ?_, f12.trans f3, ?_, ?_, ?_, t3, t4⟩
  · simp only [SW.all K3.1, MR, ckk_T, deR_s, deQ_s, deQ_n, bkV_s, bkI_s, bkJ_s, bkQ_s, bkQ_n, ckb0, ckb1, ckb2, ckb3, eq_self, Nat.reduceEqDiff, Nat.reduceLeDiff, Nat.reduceLT, reduceIte, true_or, or_true, not_false_eq_true, not_true_eq_false, and_self, and_true, true_and, LIT, Int32.reduceLT, Int32.reduceLE, Int32.reduceToNatClampNeg]
    rw [t0, t1, hgq, hwq]
    unfold askB
    cases hb1 : hasB (vN V 1) g
    · rfl
    · rw [if_pos rfl]
      cases hb2 : hasB (vN V 2) w
      · rfl
      · rw [if_pos rfl]
        simp only [MR, ckk_T, deR_s, deQ_s, deQ_n, bkV_s, bkI_s, bkJ_s, bkQ_s, bkQ_n, ckb0, ckb1, ckb2, ckb3, eq_self, Nat.reduceEqDiff, Nat.reduceLeDiff, Nat.reduceLT, reduceIte, true_or, or_true, not_false_eq_true, not_true_eq_false, and_self, and_true, true_and, LIT, Int32.reduceLT, Int32.reduceLE, Int32.reduceToNatClampNeg]
        rw [p_isYearC (by omega)]
        cases inB y 0 2999 <;> rfl
  · rw [t0]; exact hgq
  · rw [t1]; exact hwq
  · intro k hk
    rw [t2, hzb k hk, K2.2.2.2.2.2.1.2.2.1 0 (by decide)]
    by_cases hk2 : k < vN V 0
    · have := K2.2.2.2.2.2.1.2.2.2.2.1 k hk2
      unfold opC vOp
      rw [this.1, this.2]
    · rw [decide_eq_false hk2, Bool.false_and, Bool.false_and]
/-- a whole search of the class, by the terms at 80 -/
def srch (V : View) (gi wi : Nat) (fc : Int32) (ok : Nat → Int32 → Bool) : BS := b_all (vN V 0) (nxV V gi fc ok) 500 (tTs (vT V 2 wi)) (tGv (vT V 1 gi))
theorem KC.hunt {M M' : ej_Mem} {own : Nat → Nat} {V : View} {b : BS} (h : KC M own V) (f : Fr (Ph 81) M M') (hb : HR M' 81 500 1024 22 b) : KC M' own V := by
  obtain ⟨h1, h2, h3, h4, h5, h6, h7, _⟩ := h
  have s := h5.sup (P := Ph 81) h4 (by decide) (fun o k q => by
    have : own o = 7 := h4.2.2.2.2.1 o (by unfold Ph at q; omega) (by unfold Ph at q; omega)
    rw [this]; decide)
  exact ⟨f.sw h1, h2.g f.g h3 (fun k => by unfold Ph; omega), by rw [f.z]; exact h3, h4.g f.g, h5.g f.g s h6.2.1, h6.g f.g s, h7, b, hb⟩
theorem KC.hc {M : ej_Mem} {own : Nat → Nat} {V : View} (h : KC M own V) {gi wi : Nat} (hg : gi < vN V 1) (hw : wi < vN V 2) (e0 : mR M 80 0 = some (wL M 68 1 gi)) (e1 : mR M 80 1 = some (wL M 68 2 wi)) : HC M 81 68 80 (wL M 68 1 gi) (wL M 68 2 wi) := by
  obtain ⟨h1, h2, h3, h4, h5, h6, h7, _⟩ := h
  have own7 : ∀ o k, Ph 81 o k → own o = 7 := fun o k q => h4.2.2.2.2.1 o (by unfold Ph at q; omega) (by unfold Ph at q; omega)
  have wq : ∀ k, k < 4 → ∀ i, i < vN V k → WQ (Ph 81) M (wL M 68 k i) := by
    intro k hk i hi
    obtain ⟨a, b, c⟩ := h5.2.1 k hk i (by rw [h6.2.2.1 k hk]; exact hi)
    exact ⟨fun k q => by have := own7 _ _ q; omega, fun k q => by have := own7 _ _ q; omega, fun k q => by have := own7 _ _ q; omega⟩
  have wa : ∀ k, k < 4 → ∀ i, i < vN V k → WA M (wL M 68 k i) := fun k hk i hi => ((h6.2.1 k hk).2.2 i (by rw [h6.2.2.1 k hk]; exact hi)).2
  refine ⟨⟨h2, h6.1, h6.2.1, ?_, e0, wa 1 (by decide) gi hg⟩, ⟨⟨fun o a b k q => ?_, fun k hk i hi => wq k hk i (by rw [← h6.2.2.1 k hk]; exact hi)⟩, wq 1 (by decide) gi hg, fun k q => ?_, fun k => ⟨fun q => ?_, fun q => ?_⟩⟩, e1, wa 2 (by decide) wi hw, wq 2 (by decide) wi hw⟩
  · exact (SW.all h1).2.2.2.2.2.2.2.2.2.2.2.2.2.2.2.2.2.2.2.2.2.1
  · have := own7 _ _ q
    have := h4.2.2.2.1 o a b
    omega
  · unfold Ph at q; omega
  · unfold Ph at q; omega
  · unfold Ph at q; omega
theorem c_whole {D : Nat} (hD : 6 ≤ D) {M : ej_Mem} {own : Nat → Nat} {V : View} (h : KC M own V) {gi wi : Nat} (hg : gi < vN V 1) (hw : wi < vN V 2) (e0 : mR M 80 0 = some (wL M 68 1 gi)) (e1 : mR M 80 1 = some (wL M 68 2 wi)) {ok : Nat → Int32 → Bool}
    (hok : ∀ m, m < vN V 0 → ∀ s, (bJ (mL M 80 2) m && trC V (mI M 80 4) m s) = ok m s) :
    ∃ M', cal D jm_Hunt_whole [.ref 81, .ref 68, .ref 80] M = some (some (.int (nI (srch V gi wi (mI M 80 3) ok).2.2.2)), M') ∧ Fr (Ph 81) M M' ∧ HR M' 81 500 1024 22 (srch V gi wi (mI M 80 3) ok) ∧ KC M' own V := by
  obtain ⟨b, hb⟩ := h.2.2.2.2.2.2.2
  have C := h.hc hg hw e0 e1
  obtain ⟨M', e, f, r⟩ := p_whole hD hz5 C hb
  have hv := h.2.2.2.2.2.1
  rw [hv.2.2.1 0 (by decide), nxC_v hv hg, wsC_v hv hw, firstC_v hv hg, nxV_congr hok] at e r
  exact ⟨M', e, f, r, h.hunt f r⟩
theorem TM.get {M M1 : ej_Mem} {V : View} {g w y : Int32} (hV : VOK V) (t : TM M M1 V g w y) (f : FrG (fun o _ => o = 80) M M1) (hz : 122 ≤ mZ M) (ha : askB V g w y = true) : ∃ gi wi, gi < vN V 1 ∧ wi < vN V 2 ∧ g = nI gi ∧ w = nI wi ∧ inB y 0 2999 = true ∧ mR M1 80 0 = some (wL M1 68 1 gi) ∧ mR M1 80 1 = some (wL M1 68 2 wi) := by
  unfold askB at ha
  rw [Bool.and_eq_true, Bool.and_eq_true] at ha
  have h1 := hV.le (show 1 < 4 by decide)
  have h2 := hV.le (show 2 < 4 by decide)
  obtain ⟨gi, hg, rfl⟩ := (hasB_iff (by omega)).mp ha.1
  obtain ⟨wi, hw, rfl⟩ := (hasB_iff (by omega)).mp ha.2.1
  have e : ∀ k i, wL M1 68 k i = wL M 68 k i := by
    intro k i
    unfold wL
    rw [(f.all (o := 69) ⟨by omega, fun k q => by omega⟩).2.2.2.2]
  refine ⟨gi, wi, hg, hw, rfl, rfl, ha.2.2, ?_, ?_⟩
  · rw [t.1, if_pos ha.1, e, nI_clamp (by omega)]
  · rw [t.2.1, if_pos ha.2.1, e, nI_clamp (by omega)]
theorem TM.op {M M1 : ej_Mem} {V : View} {g w y : Int32} (hV : VOK V) (t : TM M M1 V g w y) {m : Nat} (hm : m < vN V 0) : bJ (mL M1 80 2) m = vOp V y m := by
  have := hV.le (show 0 < 4 by decide)
  rw [t.2.2.1 m (by omega), decide_eq_true hm, Bool.true_and]
theorem trC_all (V : View) (m : Nat) (s : Int32) : trC V 65535 m s = true := by
  unfold trC; rw [decide_eq_true rfl]; rfl
def a_reached (V : View) (g w y : Int32) : Int32 := if askB V g w y = true then nI (srch V g.toNatClampNeg w.toNatClampNeg (vF V) (fun m _ => vOp V y m)).2.2.2 else -1
def P7 (own : Nat → Nat) (o k : Nat) : Prop := 80 ≤ o ∧ o ≤ 89
theorem g80 {own : Nat → Nat} {M M' : ej_Mem} (h : OwnB own M) (f : FrG (fun o _ => o = 80) M M') : FrG (P7 own) M M' := f.mono (fun o k _ q => by unfold P7; omega)
theorem g81 {own : Nat → Nat} {M M' : ej_Mem} (h : OwnB own M) (f : Fr (Ph 81) M M') : FrG (P7 own) M M' := f.g.mono (fun o k _ q => by unfold Ph at q; unfold P7; omega)
theorem c_reached {D : Nat} (hD : 7 ≤ D) {M : ej_Mem} {own : Nat → Nat} {V : View} (h : KC M own V) (g w y : Int32) : ∃ M', cal D jm_Suit_reached [.ref 59, .int g, .int w, .int y] M = some (some (.int (a_reached V g w y)), M') ∧ FrG (P7 own) M M' ∧ KC M' own V := by
  obtain ⟨d, rfl⟩ : ∃ d, D = d + 1 := ⟨D - 1, by omega⟩
  obtain ⟨M1, e1, f1, t1⟩ := p_setTerms (by omega : 2 ≤ d) h g w y
  have K1 := Pq80 h f1
  have G1 := g80 h.2.2.2.1 f1
  rw [ca_Suit_reached, eq_Suit_reached_0]
  simp only [SW.all h.1, MR, ckk_T, deR_s, deQ_s, deQ_n, bkV_s, bkI_s, bkJ_s, bkQ_s, bkQ_n, ckb0, ckb1, ckb2, ckb3, eq_self, Nat.reduceEqDiff, Nat.reduceLeDiff, Nat.reduceLT, reduceIte, true_or, or_true, not_false_eq_true, not_true_eq_false, and_self, and_true, true_and, LIT, Int32.reduceLT, Int32.reduceLE, Int32.reduceToNatClampNeg]
  rw [e1]
  simp only [MR, ckk_T, deR_s, deQ_s, deQ_n, bkV_s, bkI_s, bkJ_s, bkQ_s, bkQ_n, ckb0, ckb1, ckb2, ckb3, eq_self, Nat.reduceEqDiff, Nat.reduceLeDiff, Nat.reduceLT, reduceIte, true_or, or_true, not_false_eq_true, not_true_eq_false, and_self, and_true, true_and, LIT, Int32.reduceLT, Int32.reduceLE, Int32.reduceToNatClampNeg]
  unfold a_reached
  cases ha : askB V g w y
  · exact ⟨M1, rfl, G1, K1⟩
  · obtain ⟨gi, wi, hg, hw, rfl, rfl, hy, r0, r1⟩ := t1.get h.2.2.2.2.2.2.1 f1 h.2.2.1 ha
    have l1 := h.2.2.2.2.2.2.1.le (show 1 < 4 by decide)
    have l2 := h.2.2.2.2.2.2.1.le (show 2 < 4 by decide)
    obtain ⟨M2, e2, f2, r2, K2⟩ := c_whole (by omega : 6 ≤ d) K1 hg hw r0 r1 (ok := fun m _ => vOp V y m) (fun m hm s => by rw [t1.op h.2.2.2.2.2.2.1 hm, t1.2.2.2.2, trC_all, Bool.and_true])
    rw [t1.2.2.2.1] at e2
    simp only [SW.all K1.1, MR, ckk_T, deR_s, deQ_s, deQ_n, bkV_s, bkI_s, bkJ_s, bkQ_s, bkQ_n, ckb0, ckb1, ckb2, ckb3, eq_self, Nat.reduceEqDiff, Nat.reduceLeDiff, Nat.reduceLT, reduceIte, true_or, or_true, not_false_eq_true, not_true_eq_false, and_self, and_true, true_and, LIT, Int32.reduceLT, Int32.reduceLE, Int32.reduceToNatClampNeg, b2i_t]
    rw [e2, nI_clamp (by omega), nI_clamp (by omega)]
    exact ⟨M2, rfl, G1.trans (g81 K1.2.2.2.1 f2), K2⟩
def a_may (V : View) (g y m s : Int32) : Int32 := if (hasB (vN V 1) g && (inB y 0 2999 && (hasB (vN V 0) m && inB s 0 16777215))) = true then b2i (nxV V g.toNatClampNeg (vF V) (fun m _ => vOp V y m) m.toNatClampNeg s).isSome else -1
theorem vCh_pos {V : View} (hV : VOK V) {m : Nat} (hm : m < vN V 0) {s : Int32} (hs : bI s 31 = false) : bI (vCh V m s) 31 = false := by
  unfold vCh
  rw [bI_or, bI_and, hs, (hV.2.1 m hm).1]; rfl
theorem m1_bit : bI (-1) 31 = true := by decide
theorem inB_bit {s : Int32} (h : inB s 0 16777215 = true) : bI s 31 = false := by
  unfold inB at h
  rw [decide_eq_true_iff] at h
  obtain ⟨j, hj, rfl⟩ := nI_of2 (n := 16777215) (by decide : (16777215 : Int32).toInt = 16777215) (Int32.not_lt.mpr h.1) h.2
  unfold bI
  show (BitVec.ofNat 32 j).getLsbD 31 = false
  rw [← BitVec.testBit_toNat, BitVec.toNat_ofNat, Nat.mod_eq_of_lt (by omega), Nat.testBit_lt_two_pow (by omega)]
theorem c_may {D : Nat} (hD : 6 ≤ D) {M : ej_Mem} {own : Nat → Nat} {V : View} (h : KC M own V) (g y m s : Int32) : ∃ M', cal D jm_Suit_may [.ref 59, .int g, .int y, .int m, .int s] M = some (some (.int (a_may V g y m s)), M') ∧ FrG (P7 own) M M' ∧ KC M' own V := by
  obtain ⟨d, rfl⟩ : ∃ d, D = d + 1 := ⟨D - 1, by omega⟩
  have l0 := h.2.2.2.2.2.2.1.le (show 0 < 4 by decide)
  have l1 := h.2.2.2.2.2.2.1.le (show 1 < 4 by decide)
  rw [ca_Suit_may, eq_Suit_may_0]
  simp only [SW.all h.1, MR, ckk_T, deR_s, deQ_s, deQ_n, bkV_s, bkI_s, bkJ_s, bkQ_s, bkQ_n, ckb0, ckb1, ckb2, ckb3, eq_self, Nat.reduceEqDiff, Nat.reduceLeDiff, Nat.reduceLT, reduceIte, true_or, or_true, not_false_eq_true, not_true_eq_false, and_self, and_true, true_and, LIT, Int32.reduceLT, Int32.reduceLE, Int32.reduceToNatClampNeg]
  unfold a_may
  have no : ∀ b : Bool, b = false → ∃ M', (some (some (Value.int (-1)), M) : Option ej_R) = some (some (.int (if b = true then b2i (nxV V g.toNatClampNeg (vF V) (fun m _ => vOp V y m) m.toNatClampNeg s).isSome else -1)), M') ∧ FrG (P7 own) M M' ∧ KC M' own V := by
    intro b hb
    rw [hb]
    exact ⟨M, rfl, FrG.refl _ M, h⟩
  rcases h.writ (by omega : 1 ≤ d) ks1 (by decide) g with ⟨hb, e⟩ | ⟨gi, hgi, rfl, hb, e, hw⟩
  · rw [e]; exact no _ (by rw [hb]; rfl)
  · rw [e]
    simp only [MR, ckk_T, deR_s, deQ_s, deQ_n, bkV_s, bkI_s, bkJ_s, bkQ_s, bkQ_n, ckb0, ckb1, ckb2, ckb3, eq_self, Nat.reduceEqDiff, Nat.reduceLeDiff, Nat.reduceLT, reduceIte, true_or, or_true, not_false_eq_true, not_true_eq_false, and_self, and_true, true_and, LIT, Int32.reduceLT, Int32.reduceLE, Int32.reduceToNatClampNeg]
    rw [p_isYearC (by omega)]
    cases hy : inB y 0 2999
    · exact no _ (by rw [hb]; rfl)
    · simp only [SW.all h.1, MR, ckk_T, deR_s, deQ_s, deQ_n, bkV_s, bkI_s, bkJ_s, bkQ_s, bkQ_n, ckb0, ckb1, ckb2, ckb3, eq_self, Nat.reduceEqDiff, Nat.reduceLeDiff, Nat.reduceLT, reduceIte, true_or, or_true, not_false_eq_true, not_true_eq_false, and_self, and_true, true_and, LIT, Int32.reduceLT, Int32.reduceLE, Int32.reduceToNatClampNeg, b2i_t]
      rcases h.writ (by omega : 1 ≤ d) ks0 (by decide) m with ⟨hb2, e2⟩ | ⟨mi, hmi, rfl, hb2, e2, hw2⟩
      · rw [e2]; exact no _ (by rw [hb, hb2]; rfl)
      · rw [e2]
        simp only [MR, ckk_T, deR_s, deQ_s, deQ_n, bkV_s, bkI_s, bkJ_s, bkQ_s, bkQ_n, ckb0, ckb1, ckb2, ckb3, eq_self, Nat.reduceEqDiff, Nat.reduceLeDiff, Nat.reduceLT, reduceIte, true_or, or_true, not_false_eq_true, not_true_eq_false, and_self, and_true, true_and, LIT, Int32.reduceLT, Int32.reduceLE, Int32.reduceToNatClampNeg]
        rw [p_isStateC (by omega)]
        cases hs : inB s 0 16777215
        · exact no _ (by rw [hb, hb2]; rfl)
        · obtain ⟨M1, e3, f1, t1⟩ := p_setTerms (by omega : 2 ≤ d) h (nI gi) (-1) y
          have K1 := Pq80 h f1
          have G1 := g80 h.2.2.2.1 f1
          simp only [SW.all h.1, MR, ckk_T, deR_s, deQ_s, deQ_n, bkV_s, bkI_s, bkJ_s, bkQ_s, bkQ_n, ckb0, ckb1, ckb2, ckb3, eq_self, Nat.reduceEqDiff, Nat.reduceLeDiff, Nat.reduceLT, reduceIte, true_or, or_true, not_false_eq_true, not_true_eq_false, and_self, and_true, true_and, LIT, Int32.reduceLT, Int32.reduceLE, Int32.reduceToNatClampNeg, b2i_t]
          rw [e3]
          simp only [SW.all K1.1, MR, ckk_T, deR_s, deQ_s, deQ_n, bkV_s, bkI_s, bkJ_s, bkQ_s, bkQ_n, ckb0, ckb1, ckb2, ckb3, eq_self, Nat.reduceEqDiff, Nat.reduceLeDiff, Nat.reduceLT, reduceIte, true_or, or_true, not_false_eq_true, not_true_eq_false, and_self, and_true, true_and, LIT, Int32.reduceLT, Int32.reduceLE, Int32.reduceToNatClampNeg]
          have hv := K1.2.2.2.2.2.1
          have wl : ∀ k i, wL M1 68 k i = wL M 68 k i := by
            intro k i
            unfold wL
            rw [(f1.all (o := 69) ⟨by have := h.2.2.1; omega, fun k q => by omega⟩).2.2.2.2]
          have r0 : mR M1 80 0 = some (wL M1 68 1 gi) := by rw [t1.1, if_pos hb, wl, nI_clamp (by omega)]
          have hG : WA M1 (wL M1 68 1 gi) := ((hv.2.1 1 (by decide)).2.2 gi (by rw [hv.2.2.1 1 (by decide)]; exact hgi)).2
          rw [p_ledTo (by omega) K1.2.1 hv.1 hv.2.1 ((SW.all K1.1).2.2.2.2.2.2.2.2.2.2.2.2.2.2.2.2.2.2.2.2.2.1) r0 hG (by rw [hv.2.2.1 0 (by decide)]; exact hmi), ledC_v hv hgi _ _ hmi, t1.2.2.2.1]
          rw [hb, hb2]
          simp only [MR, ckk_T, deR_s, deQ_s, deQ_n, bkV_s, bkI_s, bkJ_s, bkQ_s, bkQ_n, ckb0, ckb1, ckb2, ckb3, eq_self, Nat.reduceEqDiff, Nat.reduceLeDiff, Nat.reduceLT, reduceIte, true_or, or_true, not_false_eq_true, not_true_eq_false, and_self, and_true, true_and, LIT, Int32.reduceLT, Int32.reduceLE, Int32.reduceToNatClampNeg, Bool.and_self]
          rw [nI_clamp (by omega), nI_clamp (by omega)]
          have ec : nxV V gi (vF V) (fun m _ => bJ (mL M1 80 2) m) = nxV V gi (vF V) (fun m _ => vOp V y m) := nxV_congr (fun m hm s => t1.op h.2.2.2.2.2.2.1 hm)
          rw [ec]
          refine ⟨M1, ?_, G1, K1⟩
          cases hn : nxV V gi (vF V) (fun m _ => vOp V y m) mi s with
          | none => rfl
          | some x =>
            have hx : ¬ x = -1 := by
              unfold nxV at hn
              split at hn
              · have := Option.some.inj hn
                rw [← this]
                intro q
                have p := vCh_pos h.2.2.2.2.2.2.1 hmi (inB_bit hs)
                rw [q, m1_bit] at p
                cases p
              · cases hn
            show (if x = -1 then _ else _) = _
            rw [if_neg hx]; rfl
