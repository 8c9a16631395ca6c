/-! row after row: done = (cell, place in the slice, length) -/
def CS (M0 M : ej_Mem) (p off : Nat) (dn : List (Nat × Nat × Nat)) : Prop := RW M ∧ mI M 90 58 = 0 ∧ mI M 90 57 = nI (p + off) ∧ Fr (Pca 119) M0 M ∧ (∀ x, x ∈ dn → x.2.1 + x.2.2 ≤ off ∧ ∀ j, j < x.2.2 → aI M 119 (p + x.2.1 + j) = aI M0 x.1 j) ∧ ∀ j, (j < p ∨ p + off ≤ j) → aI M 119 j = aI M0 119 j
theorem CS.step {D : Nat} (hD : 1 ≤ D) {M0 M : ej_Mem} {p off : Nat} {dn : List (Nat × Nat × Nat)} (h : CS M0 M p off dn) (a n : Nat) (ha : a ≠ 119 ∧ a ≠ 90) (hb : p + off + n ≤ 184000) (hc : mC M0 a = 100) (hn : mN M0 a = n) :
    ∃ M', cal D jm_Ref_carry [.ref 90, .ref a] M = some (none, M') ∧ CS M0 M' p (off + n) ((a, off, n) :: dn) := by
  obtain ⟨h1, h2, h3, h4, h5, h6⟩ := h
  obtain ⟨M', e, f, r1, r2, r3⟩ := p_carryS hD ha hb h1 (by rw [h4.c]; exact hc) (by rw [h4.n]; exact hn) h2 h3
  refine ⟨M', e, f.rw h1, by rw [f.i (by unfold Pca; omega)]; exact h2, by rw [r1, Nat.add_assoc], h4.trans f, fun x hx => ?_, fun j hj => ?_⟩
  · rcases List.mem_cons.mp hx with q | q
    · subst q
      refine ⟨Nat.le_refl _, fun j hj => ?_⟩
      have hj : j < n := hj
      show aI M' 119 (p + off + j) = aI M0 a j
      rw [r2 j hj, h4.af (o := a) (fun k q => by unfold Pca at q; omega)]
    · obtain ⟨b1, b2⟩ := h5 x q
      refine ⟨by omega, fun j hj => ?_⟩
      rw [r3 _ (by omega)]
      exact b2 j hj
  · rw [r3 j (by omega)]
    exact h6 j (by omega)
def CL (M0 M : ej_Mem) (p off : Nat) (dn : List (Nat × Nat × Nat)) : Prop := RW M ∧ (¬ mI M 90 58 = 0) ∧ mI M 90 57 = nI (p + off) ∧ Fr (fun o k => (∃ x, x ∈ dn ∧ x.1 = o) ∨ (o = 90 ∧ k = 57)) M0 M ∧ aI M 119 = aI M0 119 ∧ ∀ x, x ∈ dn → ∀ j, j < x.2.2 → aI M x.1 j = aI M0 119 (p + x.2.1 + j)
theorem CL.step {D : Nat} (hD : 1 ≤ D) {M0 M : ej_Mem} {p off : Nat} {dn : List (Nat × Nat × Nat)} (h : CL M0 M p off dn) (a n : Nat) (ha : a ≠ 119 ∧ a ≠ 90) (hb : p + off + n ≤ 184000) (hc : mC M0 a = 100) (hn : mN M0 a = n) (hd : ∀ x, x ∈ dn → x.1 ≠ a ∧ x.1 ≠ 90) :
    ∃ M', cal D jm_Ref_carry [.ref 90, .ref a] M = some (none, M') ∧ CL M0 M' p (off + n) ((a, off, n) :: dn) := by
  obtain ⟨h1, h2, h3, h4, h5, h6⟩ := h
  obtain ⟨M', e, f, r1, r2, r3⟩ := p_carryL hD ha hb h1 (by rw [h4.c]; exact hc) (by rw [h4.n]; exact hn) h2 h3
  refine ⟨M', e, f.rw h1, by rw [f.i (by unfold Pca; omega)]; exact h2, by rw [r1, Nat.add_assoc], ?_, ?_, fun x hx => ?_⟩
  · refine (h4.mono (fun o k q => ?_)).trans (f.mono (fun o k q => ?_))
    · rcases q with ⟨x, q1, q2⟩ | q
      · exact Or.inl ⟨x, List.mem_cons_of_mem _ q1, q2⟩
      · exact Or.inr q
    · rcases q with q | q
      · exact Or.inl ⟨(a, off, n), List.mem_cons_self, q.symm⟩
      · exact Or.inr q
  · rw [f.af (o := 119) (fun k q => by unfold Pca at q; omega)]; exact h5
  · rcases List.mem_cons.mp hx with q | q
    · subst q
      intro j hj
      have hj : j < n := hj
      show aI M' a j = aI M0 119 (p + off + j)
      rw [r2 j hj, h5]
    · intro j hj
      rw [f.af (o := x.1) (fun k z => by
        have := hd x q
        unfold Pca at z
        omega)]
      exact h6 x q j hj
