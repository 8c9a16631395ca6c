/-! search: what it makes; the reference -/
def seV (V : View) (g w y s : Int32) : Bool := seOK (vN V 1) (vN V 2) g w y s
def newB (V : View) (gi wi : Nat) (s : Int32) : BS := b_new (tTs (vT V 2 wi)) (if s = -1 then tGv (vT V 1 gi) else s)
def a_search (V : View) (g w y s : Int32) : Int32 := b2i (seV V g w y s)
def u_search (V : View) (g w y s : Int32) : View := if seV V g w y s = true then setVB V (newB V g.toNatClampNeg w.toNatClampNeg s) g.toNatClampNeg w.toNatClampNeg y else V
theorem se_get {V : View} (hV : VOK V) {g w y s : Int32} (h : seV V g w y s = true) : ∃ gi wi, gi < vN V 1 ∧ wi < vN V 2 ∧ g = nI gi ∧ w = nI wi ∧ g.toNatClampNeg = gi ∧ w.toNatClampNeg = wi ∧ inB y 0 2999 = true ∧ (s = -1 ∨ inB s 0 16777215 = true) := by
  unfold seV seOK at h
  rw [Bool.and_eq_true, Bool.and_eq_true, Bool.and_eq_true, Bool.or_eq_true, decide_eq_true_iff] at h
  have h1 := hV.le (show 1 < 4 by decide)
  have h2 := hV.le (show 2 < 4 by decide)
  obtain ⟨gi, hg, rfl⟩ := (hasB_iff (by omega)).mp h.1
  obtain ⟨wi, hw, rfl⟩ := (hasB_iff (by omega)).mp h.2.1
  exact ⟨gi, wi, hg, hw, rfl, rfl, nI_clamp (by omega), nI_clamp (by omega), h.2.2.1, h.2.2.2⟩
theorem VOK.search {V : View} (h : VOK V) {gi wi : Nat} (hg : gi < vN V 1) (hw : wi < vN V 2) {s : Int32} (hs : s = -1 ∨ inB s 0 16777215 = true) (y : Int32) : VOK (setVB V (newB V gi wi s) gi wi y) := by
  refine ⟨h.1, h.2.1, h.2.2.1, h.2.2.2.1, Or.inr ⟨b_new_ok (by decide) _ _, fun x hx => ?_, hg, hw⟩, h.2.2.2.2.2⟩
  have hx : x ∈ [if s = -1 then tGv (vT V 1 gi) else s] := hx
  rw [List.mem_singleton.mp hx]
  by_cases q : s = -1
  · rw [if_pos q]; exact h.2.2.1 gi hg
  · rw [if_neg q]
    rcases hs with z | z
    · exact absurd z q
    · exact inB_bit z
theorem r_search {D : Nat} (hD : 6 ≤ D) {M : ej_Mem} {V : View} {mk : Nat} (h : KR M V mk) (g w y s : Int32) : ∃ M', cal D jm_Ref_search [.ref 90, .int g, .int w, .int y, .int s] M = some (some (.int (a_search V g w y s)), M') ∧ FrG P8 M M' ∧ KR M' (u_search V g w y s) mk := by
  obtain ⟨_, h2, hV, _⟩ := id h
  have es : seOK (rN (aI M) 1) (rN (aI M) 2) g w y s = seV V g w y s := by unfold seV; rw [h2.2.1 1 (by decide), h2.2.1 2 (by decide)]
  unfold a_search u_search
  cases hs : seV V g w y s
  · exact ⟨M, p_searchR_n (by omega) h.1 h2.1 (es.trans hs), FrG.refl _ M, h⟩
  · obtain ⟨gi, wi, hg, hw, rfl, rfl, eg, ew, hy, hs4⟩ := se_get hV hs
    obtain ⟨M', e, f, X, H⟩ := p_searchR hD h.1 h2.1 (by rw [h2.2.1 1 (by decide)]; exact hg) (by rw [h2.2.1 2 (by decide)]; exact hw) (es.trans hs)
    rw [wsR_v h2 hw, first_v h2 hg] at H
    rw [if_pos rfl, eg, ew]
    have ai : ∀ o, ((92 ≤ o ∧ o ≤ 103) ∨ (115 ≤ o ∧ o ≤ 118)) → aI M' o = aI M o := fun o ho => f.af (fun k q => by unfold Pse at q; omega)
    have mi : ∀ k, (k = 9 ∨ k = 47 ∨ (40 ≤ k ∧ k ≤ 42)) → mI M' 90 k = mI M 90 k := fun k hk => f.i (fun q => by unfold Pse at q; omega)
    refine ⟨M', e, f.g.mono (fun o k _ q => by unfold Pse at q; unfold P8; omega), ⟨f.rw h.1, ?_, hV.search hg hw hs4 y, ⟨by rw [mi 40 (by omega)]; exact h.2.2.2.1.1, by rw [mi 41 (by omega)]; exact h.2.2.2.1.2.1, by rw [mi 42 (by omega)]; exact h.2.2.2.1.2.2⟩, h.2.2.2.2.fr f (fun j => by unfold Pse; omega) (by unfold Pse; omega)⟩⟩
    refine h2.new (fun k _ => by rw [ai 92 (by omega)]) (fun k _ i _ => ⟨by rw [ai 95 (by omega)], fun q _ _ => ⟨by rw [ai 96 (by omega)], by rw [ai 97 (by omega)], by rw [ai 98 (by omega)], by rw [ai 99 (by omega)]⟩, fun e _ _ => ⟨by rw [ai 93 (by omega)], by rw [ai 94 (by omega)]⟩⟩) ⟨rfl, rfl⟩ ?_ ?_ ?_ ?_ (RG_c.mp H) (fun _ => X.2)
    · rw [ai 101 (by omega), ai 102 (by omega)]; exact h2.2.2.2.1
    · rw [mi 9 (by omega)]; exact h2.2.2.2.2.1
    · rw [ai 103 (by omega)]; exact h2.2.2.2.2.2.1
    · have r := h2.2.2.2.2.2.2.1
      unfold RlR at r ⊢
      rw [mi 47 (by omega), ai 115 (by omega), ai 116 (by omega), ai 117 (by omega), ai 118 (by omega)]
      exact r
