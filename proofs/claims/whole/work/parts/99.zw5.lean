/-! the reference's state under what the class does -/
def N9 (M M' : ej_Mem) : Prop := ∀ o, 90 ≤ o → o ≤ 121 → mC M' o = mC M o ∧ mN M' o = mN M o ∧ mI M' o = mI M o ∧ mR M' o = mR M o ∧ aI M' o = aI M o
theorem FrG.n9 {P : Nat → Nat → Prop} {M M' : ej_Mem} (f : FrG P M M') (hz : 122 ≤ mZ M) (hp : ∀ o k, 90 ≤ o → o ≤ 121 → ¬ P o k) : N9 M M' := fun o a b => by
  have c := f.2.1 o (by omega)
  have s := f.all (o := o) ⟨by omega, fun k => hp o k a b⟩
  exact ⟨c.1, c.2, s.1, s.2.2.1, s.2.2.2.1⟩
theorem RW.n9 {M M' : ej_Mem} (n : N9 M M') (h : RW M) : RW M' := by
  unfold RW at h ⊢
  rw [(n 90 (by omega) (by omega)).1, (n 91 (by omega) (by omega)).1, (n 92 (by omega) (by omega)).1, (n 93 (by omega) (by omega)).1, (n 94 (by omega) (by omega)).1, (n 95 (by omega) (by omega)).1, (n 96 (by omega) (by omega)).1, (n 97 (by omega) (by omega)).1, (n 98 (by omega) (by omega)).1, (n 99 (by omega) (by omega)).1, (n 100 (by omega) (by omega)).1, (n 101 (by omega) (by omega)).1, (n 102 (by omega) (by omega)).1, (n 103 (by omega) (by omega)).1, (n 104 (by omega) (by omega)).1, (n 105 (by omega) (by omega)).1, (n 106 (by omega) (by omega)).1, (n 107 (by omega) (by omega)).1, (n 108 (by omega) (by omega)).1, (n 109 (by omega) (by omega)).1, (n 110 (by omega) (by omega)).1, (n 111 (by omega) (by omega)).1, (n 112 (by omega) (by omega)).1, (n 113 (by omega) (by omega)).1, (n 114 (by omega) (by omega)).1, (n 115 (by omega) (by omega)).1, (n 116 (by omega) (by omega)).1, (n 117 (by omega) (by omega)).1, (n 118 (by omega) (by omega)).1, (n 119 (by omega) (by omega)).1, (n 120 (by omega) (by omega)).1, (n 121 (by omega) (by omega)).1, (n 91 (by omega) (by omega)).2.1, (n 92 (by omega) (by omega)).2.1, (n 93 (by omega) (by omega)).2.1, (n 94 (by omega) (by omega)).2.1, (n 95 (by omega) (by omega)).2.1, (n 96 (by omega) (by omega)).2.1, (n 97 (by omega) (by omega)).2.1, (n 98 (by omega) (by omega)).2.1, (n 99 (by omega) (by omega)).2.1, (n 100 (by omega) (by omega)).2.1, (n 101 (by omega) (by omega)).2.1, (n 102 (by omega) (by omega)).2.1, (n 103 (by omega) (by omega)).2.1, (n 104 (by omega) (by omega)).2.1, (n 105 (by omega) (by omega)).2.1, (n 106 (by omega) (by omega)).2.1, (n 107 (by omega) (by omega)).2.1, (n 108 (by omega) (by omega)).2.1, (n 109 (by omega) (by omega)).2.1, (n 110 (by omega) (by omega)).2.1, (n 111 (by omega) (by omega)).2.1, (n 112 (by omega) (by omega)).2.1, (n 113 (by omega) (by omega)).2.1, (n 114 (by omega) (by omega)).2.1, (n 115 (by omega) (by omega)).2.1, (n 116 (by omega) (by omega)).2.1, (n 117 (by omega) (by omega)).2.1, (n 118 (by omega) (by omega)).2.1, (n 119 (by omega) (by omega)).2.1, (n 120 (by omega) (by omega)).2.1, (n 121 (by omega) (by omega)).2.1, (n 90 (by omega) (by omega)).2.2.2.1]
  exact h
theorem KR.n9 {M M' : ej_Mem} {V : View} {mk : Nat} (n : N9 M M') (h : KR M V mk) : KR M' V mk := by
  obtain ⟨h1, h2, h3, h4, h5⟩ := h
  have a : ∀ o, 90 ≤ o → o ≤ 121 → aI M' o = aI M o := fun o p q => (n o p q).2.2.2.2
  have i : mI M' 90 = mI M 90 := (n 90 (by omega) (by omega)).2.2.1
  refine ⟨h1.n9 n, RV.cg (A := aI M) (f := mI M 90) h3 ⟨fun k _ => ?_, fun k _ j _ => ⟨?_, fun q _ _ => ⟨?_, ?_, ?_, ?_⟩, fun e _ _ => ⟨?_, ?_⟩⟩, fun m _ => ⟨?_, ?_⟩, fun r _ => ?_, fun r _ => ⟨?_, ?_, ?_, fun j _ => ?_⟩, fun k _ => ⟨?_, ?_, ?_⟩, ?_⟩ h2, h3, by rw [i]; exact h4, ?_⟩
  all_goals first
    | (rw [a _ (by omega) (by omega)])
    | (rw [i]; exact ⟨rfl, rfl, rfl, rfl, rfl, rfl, rfl, rfl, rfl⟩)
    | (unfold MK at h5 ⊢; simp only [i, a 90 (by omega) (by omega), a 104 (by omega) (by omega), a 105 (by omega) (by omega), a 106 (by omega) (by omega), a 107 (by omega) (by omega), a 111 (by omega) (by omega), a 112 (by omega) (by omega)]; exact h5)
