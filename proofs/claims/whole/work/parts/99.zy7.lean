/-! the reference's marks -/
def RMk (M : ej_Mem) (mk : Nat → Option View) : Prop := ∀ k, k < 4 → match mk k with
  | none => aI M 121 k = 0
  | some W => aI M 121 k = 1 ∧ SV M k W ∧ VOK W
theorem SV.eq {M M' : ej_Mem} {k : Nat} {W : View} (e : aI M' 119 = aI M 119) (h : SV M k W) : SV M' k W := by
  have a : slA M' k = slA M k := by funext o j; unfold slA; rw [e]
  have b : slF M' k = slF M k := by funext i; unfold slF; rw [e]
  unfold SV at h ⊢
  rw [a, b]; exact h
theorem RMk.eq {M M' : ej_Mem} {mk : Nat → Option View} (e : aI M' 119 = aI M 119) (e' : aI M' 121 = aI M 121) (h : RMk M mk) : RMk M' mk := by
  intro k hk
  have q := h k hk
  cases hm : mk k with
  | none => rw [hm] at q; show aI M' 121 k = 0; rw [e']; exact q
  | some W =>
    rw [hm] at q
    obtain ⟨q1, q2, q3⟩ := q
    exact ⟨by rw [e']; exact q1, q2.eq e, q3⟩
theorem RMk.n9 {M M' : ej_Mem} {mk : Nat → Option View} (n : N9 M M') (h : RMk M mk) : RMk M' mk := h.eq (n 119 (by omega) (by omega)).2.2.2.2 (n 121 (by omega) (by omega)).2.2.2.2
theorem RMk.g {P : Nat → Nat → Prop} {M M' : ej_Mem} {mk : Nat → Option View} (f : FrG P M M') (hz : 122 ≤ mZ M) (hp : ∀ o k, P o k → o ≠ 119 ∧ o ≠ 121) (h : RMk M mk) : RMk M' mk := h.eq (f.all (o := 119) ⟨by omega, fun k q => (hp _ _ q).1 rfl⟩).2.2.2.1 (f.all (o := 121) ⟨by omega, fun k q => (hp _ _ q).2 rfl⟩).2.2.2.1
