/-! mark and back of the class -/
def MkC (M : ej_Mem) (own : Nat → Nat) (k : Nat) : Option View → Prop
  | none => aR M 79 k = none
  | some W => ∃ l, aR M 79 k = some l ∧ LV M own l (3 + k) W
def CI (M : ej_Mem) (own : Nat → Nat) (V : View) (mk : Nat → Option View) : Prop := KC M own V ∧ WS M 68 ∧ ∀ k, k < 4 → MkC M own k (mk k)
theorem CI.lv {M : ej_Mem} {own : Nat → Nat} {V : View} {mk : Nat → Option View} (h : CI M own V mk) : LV M own 68 2 V := ⟨h.1.2.2.2.2.1, h.1.2.2.2.2.2.1, h.1.2.2.2.2.2.2.1, h.2.1⟩
/-- what lies far from the class's own cells -/
theorem KC.far {M M' : ej_Mem} {own own' : Nat → Nat} {V : View} {P : Nat → Nat → Prop} (h : KC M own V) (f : FrG P M M') (hp : ∀ o k, P o k → (own o ≠ 1 ∧ own o ≠ 2 ∧ own o ≠ 7 ∧ own o ≠ 9) ∨ o = 79) (ho : ∀ o, o < mZ M → own' o = own o) (ho' : ∀ o, own' o ≠ 0 → o < mZ M') : KC M' own' V := by
  obtain ⟨h1, h2, h3, h4, h5, h6, h7, b, hb⟩ := h
  have n7 : own 79 = 7 := h4.2.2.2.2.1 79 (by omega) (by omega)
  have s := h5.sup (P := P) h4 (by decide) (fun o k q => by
    rcases hp o k q with z | z
    · exact ⟨z.1, z.2.1⟩
    · rw [z]; omega)
  have ne : ∀ o, own o ≠ 0 → own' o = own o := fun o q => ho o (h4.1 o q)
  refine ⟨h1.g f h3 (fun o k a b q => ?_), h2.g f h3 (fun k => ?_), Nat.le_trans h3 f.1, ⟨ho', fun o q => ?_, fun o q r => ?_, fun o q r => ?_, fun o q r => ?_, fun o q r => ?_⟩, (h5.g f s h6.2.1).own (by decide) ne, h6.g f s, h7, b, hb.g f (fun o q r => ⟨by omega, fun k z => ?_⟩)⟩
  · rcases hp o k q with z | z
    · exfalso
      rcases Nat.lt_or_ge o 68 with y | y
      · have := h4.2.2.1 o (by omega) (by omega); omega
      · rcases Nat.lt_or_ge o 79 with y | y
        · have := h4.2.2.2.1 o (by omega) (by omega); omega
        · have := h4.2.2.2.2.1 o (by omega) (by omega); omega
    · omega
  · refine ⟨fun q => ?_, fun q => ?_⟩
    · have := h4.2.1 1 (by omega); rcases hp 1 k q with z | z <;> omega
    · have := h4.2.1 2 (by omega); rcases hp 2 k q with z | z <;> omega
  · rw [ho o (by omega)]; exact h4.2.1 o q
  · rw [ho o (by omega)]; exact h4.2.2.1 o q r
  · rw [ho o (by omega)]; exact h4.2.2.2.1 o q r
  · rw [ho o (by omega)]; exact h4.2.2.2.2.1 o q r
  · rw [ho o (by omega)]; exact h4.2.2.2.2.2 o q r
  · have := h4.2.2.2.2.1 o (by omega) (by omega); rcases hp o k z with y | y <;> omega
