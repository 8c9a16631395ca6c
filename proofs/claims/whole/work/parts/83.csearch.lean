/-! search: the class -/
theorem hunt_anew {D : Nat} (hD : 4 ≤ D) {M : ej_Mem} {own : Nat → Nat} {V : View} (h : KC M own V) {hh : Nat} (e7 : mR M 68 7 = some hh) {gi wi : Nat} (hw : wi < vN V 2) {y : Int32} (hi : mI M 68 8 = nI gi ∧ mI M 68 9 = nI wi ∧ mI M 68 10 = y) (s : Int32) (hV : VOK (setVB V (b_new (tTs (vT V 2 wi)) s) gi wi y)) :
    ∃ M', cal D jm_Hunt_begin [.ref hh, .int s, .ref (wL M 68 2 wi)] M = some (none, M') ∧ FrG (P2 own) M M' ∧ KC M' own (setVB V (b_new (tTs (vT V 2 wi)) s) gi wi y) ∧ mZ M' = mZ M ∧ mS M' = mS M ∧ mR M' 68 7 = some hh := by
  have hv := h.2.2.2.2.2.1
  have h5 := h.2.2.2.2.1
  have H := (h.sr e7).2
  have hW := ((hv.2.1 2 (by decide)).2.2 wi (by rw [hv.2.2.1 2 (by decide)]; exact hw)).2
  obtain ⟨a, b, c⟩ := h5.2.1 2 (by decide) wi (by rw [hv.2.2.1 2 (by decide)]; exact hw)
  have own2 : ∀ o k, Ph hh o k → own o = 2 := fun o k q => h5.2.2 hh e7 o (by unfold Ph at q; omega) (by unfold Ph at q; omega)
  obtain ⟨M', e, f, H'⟩ := p_beginC hD hz4 H hW ⟨fun k q => by have := own2 _ _ q; omega, fun k q => by have := own2 _ _ q; omega, fun k q => by have := own2 _ _ q; omega⟩ s
  rw [wsC_v hv hw] at H'
  obtain ⟨K, G⟩ := h.sought e7 f H' hi hV
  exact ⟨M', e, G, K, f.z, f.2.2.2.2.2.2.1, by rw [f.r]; exact e7⟩
/-- the three numbers of a search -/
theorem KC.three {M : ej_Mem} {own : Nat → Nat} {V : View} (h : KC M own V) {gi wi : Nat} (hg : gi < vN V 1) (hw : wi < vN V 2) (y : Int32) : KC (setI (setI (setI M 68 8 (nI gi)) 68 9 (nI wi)) 68 10 y) own (setVB V (vB V) gi wi y) ∧ FrG (P2 own) M (setI (setI (setI M 68 8 (nI gi)) 68 9 (nI wi)) 68 10 y) := by
  have hv := h.2.2.2.2.2.1
  have hV := h.2.2.2.2.2.2.1
  have PLo : ∀ k, 7 ≤ k → PL own 68 k := fun k hk => Or.inl ⟨rfl, Or.inr hk⟩
  have f : FrG (PL own) M (setI (setI (setI M 68 8 (nI gi)) 68 9 (nI wi)) 68 10 y) := ((FrG.setI (P := PL own) M _ (PLo 8 (by omega))).trans (FrG.setI (P := PL own) _ _ (PLo 9 (by omega)))).trans (FrG.setI (P := PL own) _ _ (PLo 10 (by omega)))
  have f2 : FrG (fun o k => o = 68 ∧ 7 ≤ k) M (setI (setI (setI M 68 8 (nI gi)) 68 9 (nI wi)) 68 10 y) := ((FrG.setI (P := fun o k => o = 68 ∧ 7 ≤ k) M _ ⟨rfl, by omega⟩).trans (FrG.setI (P := fun o k => o = 68 ∧ 7 ≤ k) _ _ ⟨rfl, by omega⟩)).trans (FrG.setI (P := fun o k => o = 68 ∧ 7 ≤ k) _ _ ⟨rfl, by omega⟩)
  obtain ⟨b0, hb0⟩ := h.2.2.2.2.2.2.2
  have hz := h.2.2.1
  refine ⟨h.land f ⟨⟨rfl, rfl⟩, hv.2.2.2.2.1, hv.2.2.2.2.2.1, hv.2.2.2.2.2.2.1, hv.2.2.2.2.2.2.2.1, ?_⟩ ?_ (fun x e => h.2.2.2.2.1.2.2 x e) ⟨b0, hb0.g f2 (fun o a c => ⟨by omega, fun k q => by omega⟩)⟩, gPL h.2.2.2.1 f⟩
  · refine ⟨?_, fun _ => ⟨rfl, rfl, rfl⟩⟩
    rcases hv.2.2.2.2.2.2.2.2.1 with q | ⟨hh, q1, q2⟩
    · exact Or.inl q
    · have b := (h.sr q1).1
      exact Or.inr ⟨hh, q1, q2.g f2 (fun o a c => ⟨h.2.2.2.1.1 o (by rw [h.2.2.2.2.1.2.2 hh q1 o a c]; decide), fun k q => by omega⟩)⟩
  · refine ⟨hV.1, hV.2.1, hV.2.2.1, hV.2.2.2.1, ?_, hV.2.2.2.2.2⟩
    rcases hV.2.2.2.2.1 with q | q
    · exact Or.inl q
    · exact Or.inr ⟨q.1, q.2.1, hg, hw⟩
def ownH (own : Nat → Nat) (h : Nat) (o : Nat) : Nat := if h ≤ o ∧ o ≤ h + 3 then 2 else own o
/-- a new Hunt for a land that had none -/
theorem KC.hunted {M : ej_Mem} {own : Nat → Nat} {V : View} (h : KC M own V) (e7 : mR M 68 7 = none) : KC (setR (hIni M 4000 8192 (nI 4000) (nI 19)) 68 7 (some (mZ M))) (ownH own (mZ M)) V ∧ FrG (P2 own) M (setR (hIni M 4000 8192 (nI 4000) (nI 19)) 68 7 (some (mZ M))) := by
  have hv := h.2.2.2.2.2.1
  have vb : vB V = b_none := by
    rcases hv.2.2.2.2.2.2.2.2.1 with q | ⟨hh, q1, _⟩
    · exact q.2
    · rw [e7] at q1; cases q1
  obtain ⟨h1, h2, h3, h4, h5, h6, h7, b0, hb0⟩ := h
  have f := hIni_g (fun o _ => o = mZ M) M 4000 8192 (nI 4000) (nI 19) (fun _ => rfl)
  have hr := hIni_r hz4 M
  have zz := hIni_z M 4000 8192 (nI 4000) (nI 19)
  generalize hIni M 4000 8192 (nI 4000) (nI 19) = M2 at *
  have s := h5.sup (P := fun o _ => o = mZ M) h4 (by decide) (fun o k q => by
    have : own o = 0 := by
      rcases Nat.eq_zero_or_pos (own o) with z | z
      · exact z
      · have := h4.1 o (by omega); omega
    omega)
  have oeq : ∀ o, own o ≠ 0 → ownH own (mZ M) o = own o := fun o ho => by
    have := h4.1 o ho
    unfold ownH
    rw [if_neg (by omega)]
  have olt : ∀ o, o < 122 → ownH own (mZ M) o = own o := fun o ho => by
    unfold ownH
    rw [if_neg (by omega)]
  have L2 := h5.g f s h6.2.1
  have K2 : KC M2 (ownH own (mZ M)) V := by
    refine ⟨h1.g f h3 (fun o k a b q => by omega), h2.g f h3 (fun k => by omega), by omega, ⟨fun o ho => ?_, fun o ho => by rw [olt o (by omega)]; exact h4.2.1 o ho, fun o a b => by rw [olt o (by omega)]; exact h4.2.2.1 o a b, fun o a b => by rw [olt o (by omega)]; exact h4.2.2.2.1 o a b, fun o a b => by rw [olt o (by omega)]; exact h4.2.2.2.2.1 o a b, fun o a b => by rw [olt o (by omega)]; exact h4.2.2.2.2.2 o a b⟩, ⟨fun o a b => by rw [olt o (by omega)]; exact L2.1 o a b, fun k hk i hi => ?_, fun x e => ?_⟩, h6.g f s, h7, b0, hb0.g f (fun o a b => ⟨by omega, fun k q => by omega⟩)⟩
    · unfold ownH at ho
      split at ho
      · omega
      · have := h4.1 o ho; omega
    · obtain ⟨a, b, c⟩ := L2.2.1 k hk i hi
      rw [oeq _ (by omega), oeq _ (by omega), oeq _ (by omega)]
      exact ⟨a, b, c⟩
    · rw [(f.all (s.1 68 (by omega) (by omega))).2.2.1, e7] at e; cases e
  have hv2 := K2.2.2.2.2.2.1
  have f3 : FrG (PL (ownH own (mZ M))) M2 (setR M2 68 7 (some (mZ M))) := FrG.setR (P := PL (ownH own (mZ M))) M2 _ (Or.inl ⟨rfl, Or.inr (by omega)⟩)
  have f4 : FrG (fun o k => o = 68 ∧ k = 7) M2 (setR M2 68 7 (some (mZ M))) := FrG.setR (P := fun o k => o = 68 ∧ k = 7) M2 _ ⟨rfl, rfl⟩
  refine ⟨K2.land f3 ⟨⟨rfl, rfl⟩, hv2.2.2.2.2.1, hv2.2.2.2.2.2.1, hv2.2.2.2.2.2.2.1, hv2.2.2.2.2.2.2.2.1, ⟨Or.inr ⟨mZ M, gR_s _ _ _ _, ?_⟩, fun z => absurd vb z⟩⟩ h7 (fun x e => ?_) ?_, ?_⟩
  · rw [vb]
    exact hr.g f4 (fun o a b => ⟨by omega, fun k q => by omega⟩)
  · rw [gR_s] at e
    cases e
    intro o a b
    unfold ownH
    rw [if_pos ⟨a, b⟩]
  · obtain ⟨b1, hb1⟩ := K2.2.2.2.2.2.2.2
    exact ⟨b1, hb1.g f4 (fun o a b => ⟨by omega, fun k q => by omega⟩)⟩
  · refine (f.mono (fun o k ho q => by omega)).trans (f4.mono (fun o k ho q => ?_))
    exact Or.inl (by rw [q.1]; exact h4.2.2.2.1 68 (by omega) (by omega))
