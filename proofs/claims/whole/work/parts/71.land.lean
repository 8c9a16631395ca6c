/-! a land of the class changes, its writs stay -/
def PL (own : Nat → Nat) (o k : Nat) : Prop := (o = 68 ∧ (k = 4 ∨ 7 ≤ k)) ∨ (71 ≤ o ∧ o ≤ 73) ∨ (o = 74 ∧ k = 0) ∨ (75 ≤ o ∧ o ≤ 78) ∨ Pq o k ∨ (122 ≤ o ∧ own o = 2)
theorem PL_own {own : Nat → Nat} {M : ej_Mem} (h : OwnB own M) {o k : Nat} (q : PL own o k) : own o = 2 ∨ own o = 7 := by
  unfold PL at q
  rcases q with q | q | q | q | q | q
  · exact Or.inl (h.2.2.2.1 o (by omega) (by omega))
  · exact Or.inl (h.2.2.2.1 o (by omega) (by omega))
  · exact Or.inl (h.2.2.2.1 o (by omega) (by omega))
  · exact Or.inl (h.2.2.2.1 o (by omega) (by omega))
  · exact Or.inr (Pq_own h q)
  · exact Or.inl q.2
/-- what is new of a view whose texts stay -/
def NewC (M : ej_Mem) (V V' : View) : Prop := (vN V' = vN V ∧ vT V' = vT V) ∧ (∀ m, m < vN V 0 → aI M 71 m = (vO V' m).1 ∧ aI M 72 m = (vO V' m).2) ∧ mI M 68 4 = vF V' ∧ (∀ r, r < 24 → aI M 73 r = vH V' r) ∧ RlC M 68 V' ∧ SrC M 68 V'
theorem KC.land {M M' : ej_Mem} {own : Nat → Nat} {V V' : View} (h : KC M own V) (f : FrG (PL own) M M') (n : NewC M' V V') (hV : VOK V') (hh : ∀ x, mR M' 68 7 = some x → ∀ o, x ≤ o → o ≤ x + 3 → own o = 2) (hb : ∃ b, HR M' 81 500 1024 22 b) : KC M' own V' := by
  obtain ⟨h1, h2, h3, h4, h5, h6, h7, _⟩ := h
  obtain ⟨⟨n1, n2⟩, n3, n4, n5, n6, n7⟩ := n
  have no1 : ∀ o, own o = 1 → Sup (PL own) M o := fun o e => ⟨h4.1 o (by omega), fun k q => by have := PL_own h4 q; omega⟩
  have c : ∀ o, o < 122 → mC M' o = mC M o ∧ mN M' o = mN M o := fun o ho => f.2.1 o (by omega)
  have s69 := f.all (o := 69) ⟨by omega, fun k q => by unfold PL Pq at q; omega⟩
  have s70 := f.all (o := 70) ⟨by omega, fun k q => by unfold PL Pq at q; omega⟩
  have r68 : ∀ k, k < 7 → k ≠ 4 → mR M' 68 k = mR M 68 k := fun k h1 h2 => (f.2.2 68 (by omega) k (fun q => by unfold PL Pq at q; omega)).2.2.1
  have r74 : ∀ k, 1 ≤ k → mR M' 74 k = mR M 74 k := fun k h1 => (f.2.2 74 (by omega) k (fun q => by unfold PL Pq at q; omega)).2.2.1
  have nl : ∀ k, nL M' 68 k = nL M 68 k := fun k => by unfold nL; rw [s70.2.2.2.1]
  have wl : ∀ k i, wL M' 68 k i = wL M 68 k i := fun k i => by unfold wL; rw [s69.2.2.2.2]
  have wa : ∀ k, k < 4 → ∀ i, i < nL M 68 k → WA M' (wL M 68 k i) ∧ cTxt M' (wL M 68 k i) = cTxt M (wL M 68 k i) ∧ wFc M' (wL M 68 k i) = wFc M (wL M 68 k i) ∧ wTn M' (wL M 68 k i) = wTn M (wL M 68 k i) := by
    intro k hk i hi
    obtain ⟨a, b, c⟩ := h5.2.1 k hk i hi
    exact ((h6.2.1 k hk).2.2 i hi).2.g f (no1 _ a) (no1 _ b) (no1 _ c)
  refine ⟨h1.g f h3 (fun o k a b q => by unfold PL Pq at q; omega), h2.g f h3 (fun k => by unfold PL Pq; omega), Nat.le_trans h3 f.1, h4.g f, ⟨h5.1, fun k hk i hi => ?_, hh⟩, ⟨?_, ?_, ?_, ?_, ?_, n4, n5, n6, n7⟩, hV, hb⟩
  · rw [nl] at hi
    rw [wl, (wa k hk i hi).2.2.1, (wa k hk i hi).2.2.2]
    exact h5.2.1 k hk i hi
  · have la := h6.1
    unfold LA at la ⊢
    rw [(c 68 (by omega)).1, r68 0 (by omega) (by omega), r68 1 (by omega) (by omega), r68 2 (by omega) (by omega), r68 3 (by omega) (by omega), r68 5 (by omega) (by omega), r68 6 (by omega) (by omega),
      (c (68 + 1) (by omega)).1, (c (68 + 2) (by omega)).1, (c (68 + 3) (by omega)).1, (c (68 + 4) (by omega)).1, (c (68 + 5) (by omega)).1, (c (68 + 6) (by omega)).1, (c (68 + 1) (by omega)).2, (c (68 + 2) (by omega)).2, (c (68 + 3) (by omega)).2, (c (68 + 4) (by omega)).2, (c (68 + 5) (by omega)).2,
      (r74 1 (by omega) : mR M' (68 + 6) 1 = _), (r74 2 (by omega) : mR M' (68 + 6) 2 = _), (r74 3 (by omega) : mR M' (68 + 6) 3 = _), (r74 4 (by omega) : mR M' (68 + 6) 4 = _), (c (68 + 7) (by omega)).1, (c (68 + 8) (by omega)).1, (c (68 + 9) (by omega)).1, (c (68 + 10) (by omega)).1, (c (68 + 7) (by omega)).2, (c (68 + 8) (by omega)).2, (c (68 + 9) (by omega)).2, (c (68 + 10) (by omega)).2]
    exact la
  · intro k hk
    obtain ⟨g1, g2, g3⟩ := h6.2.1 k hk
    rw [nl, (s70.2.2.2.1 : aI M' (68 + 2) = _), (s69.2.2.2.2 : aR M' (68 + 1) = _)]
    refine ⟨g1, g2, fun i hi => ?_⟩
    rw [wl]
    exact ⟨(g3 i hi).1, (wa k hk i hi).1⟩
  · intro k hk; rw [nl, n1]; exact h6.2.2.1 k hk
  · intro k hk i hi
    rw [n1] at hi
    rw [wl, (wa k hk i (by rw [h6.2.2.1 k hk]; exact hi)).2.1, n2]
    exact h6.2.2.2.1 k hk i hi
  · intro m hm; rw [n1] at hm; exact n3 m hm
def P2 (own : Nat → Nat) (o k : Nat) : Prop := own o = 2 ∨ (80 ≤ o ∧ o ≤ 89)
theorem gPL {own : Nat → Nat} {M M' : ej_Mem} (h : OwnB own M) (f : FrG (PL own) M M') : FrG (P2 own) M M' := f.mono (fun o k _ q => by
  unfold PL at q
  rcases q with q | q | q | q | q | q
  · exact Or.inl (h.2.2.2.1 o (by omega) (by omega))
  · exact Or.inl (h.2.2.2.1 o (by omega) (by omega))
  · exact Or.inl (h.2.2.2.1 o (by omega) (by omega))
  · exact Or.inl (h.2.2.2.1 o (by omega) (by omega))
  · exact Or.inr (by unfold Pq at q; omega)
  · exact Or.inl q.2)
theorem g72 {own : Nat → Nat} {M M' : ej_Mem} (f : FrG (P7 own) M M') : FrG (P2 own) M M' := f.mono (fun o k _ q => Or.inr q)
theorem KC.sr {M : ej_Mem} {own : Nat → Nat} {V : View} (h : KC M own V) {x : Nat} (e : mR M 68 7 = some x) : 122 ≤ x ∧ HR M x 4000 8192 19 (vB V) := by
  have s := h.2.2.2.2.2.1.2.2.2.2.2.2.2.2.1
  rcases s with q | ⟨hh, q1, q2⟩
  · rw [q.1] at e; cases e
  · rw [q1] at e
    obtain rfl : hh = x := Option.some.inj e
    refine ⟨?_, q2⟩
    have o2 := h.2.2.2.2.1.2.2 hh q1 hh (Nat.le_refl _) (by omega)
    have hB := h.2.2.2.1
    have c1 : mC M hh = 1 := q2.1.1.1
    rcases Nat.lt_or_ge hh 122 with z | z
    · exfalso
      have S := SW.all h.1
      rcases Nat.lt_or_ge hh 59 with z1 | z1
      · have := hB.2.1 hh z1; omega
      · rcases Nat.lt_or_ge hh 68 with z2 | z2
        · have := hB.2.2.1 hh (by omega) (by omega); omega
        · rcases Nat.lt_or_ge hh 79 with z3 | z3
          · have : hh = 68 ∨ hh = 69 ∨ hh = 70 ∨ hh = 71 ∨ hh = 72 ∨ hh = 73 ∨ hh = 74 ∨ hh = 75 ∨ hh = 76 ∨ hh = 77 ∨ hh = 78 := by omega
            rcases this with e | e | e | e | e | e | e | e | e | e | e <;> subst e <;> simp only [S] at c1 <;> omega
          · rcases Nat.lt_or_ge hh 90 with z4 | z4
            · have := hB.2.2.2.2.1 hh (by omega) (by omega); omega
            · have := hB.2.2.2.2.2 hh (by omega) (by omega); omega
    · exact z
def PS (o k : Nat) : Prop := (o = 68 ∧ k = 4) ∨ (71 ≤ o ∧ o ≤ 73) ∨ (o = 74 ∧ k = 0) ∨ (75 ≤ o ∧ o ≤ 78)
theorem KC.simple {M M' : ej_Mem} {own : Nat → Nat} {V V' : View} (h : KC M own V) (f : FrG PS M M') (n1 : vN V' = vN V ∧ vT V' = vT V) (n3 : ∀ m, m < vN V 0 → aI M' 71 m = (vO V' m).1 ∧ aI M' 72 m = (vO V' m).2) (n4 : mI M' 68 4 = vF V') (n5 : ∀ r, r < 24 → aI M' 73 r = vH V' r) (n6 : RlC M' 68 V') (hv : vB V' = vB V ∧ vG V' = vG V ∧ vW V' = vW V ∧ vY V' = vY V) (hV : VOK V') : KC M' own V' ∧ FrG (P2 own) M M' := by
  have fL : FrG (PL own) M M' := f.mono (fun o k _ q => by unfold PS at q; unfold PL; omega)
  have hz := h.2.2.1
  have r7 : mR M' 68 7 = mR M 68 7 := (f.2.2 68 (by omega) 7 (fun q => by unfold PS at q; omega)).2.2.1
  have i68 : ∀ k, 7 ≤ k → mI M' 68 k = mI M 68 k := fun k hk => (f.2.2 68 (by omega) k (fun q => by unfold PS at q; omega)).1
  have sr : SrC M' 68 V' := by
    have s := h.2.2.2.2.2.1.2.2.2.2.2.2.2.2
    unfold SrC at s ⊢
    rw [r7, i68 8 (by omega), i68 9 (by omega), i68 10 (by omega), hv.1, hv.2.1, hv.2.2.1, hv.2.2.2]
    refine ⟨?_, s.2⟩
    rcases s.1 with q | ⟨hh, q1, q2⟩
    · exact Or.inl q
    · have b := (h.sr q1).1
      exact Or.inr ⟨hh, q1, q2.g f (fun o a c => ⟨h.2.2.2.1.1 o (by rw [h.2.2.2.2.1.2.2 hh q1 o a c]; decide), fun k q => by unfold PS at q; omega⟩)⟩
  obtain ⟨b, hb⟩ := h.2.2.2.2.2.2.2
  exact ⟨h.land fL ⟨n1, n3, n4, n5, n6, sr⟩ hV (fun x e => h.2.2.2.2.1.2.2 x (by rw [← r7]; exact e)) ⟨b, hb.g f (fun o a c => ⟨by omega, fun k q => by unfold PS at q; omega⟩)⟩, gPL h.2.2.2.1 fL⟩
