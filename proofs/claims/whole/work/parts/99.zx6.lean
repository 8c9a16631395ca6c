/-! the class's state under what the reference does -/
theorem CI.ref {D m : Nat} {args : List Value} {v : Option Value} {P : Nat → Nat → Prop} {M M' : ej_Mem} {own : Nat → Nat} {V : View} {mk : Nat → Option View} (h : CI M own V mk) (e : cal D m args M = some (v, M')) (f : FrG P M M') (hp : ∀ o k, P o k → 90 ≤ o ∧ o ≤ 121) (h1 : kG m = true) : CI M' own V mk ∧ ∀ z s, RM M z s → RM M' z s := by
  have hz := h.1.2.2.1
  have hB := h.1.2.2.2.1
  have kz := keep e h1
  have n8 : ∀ o k, P o k → own o = 8 := fun o k q => hB.2.2.2.2.2 o (hp o k q).1 (hp o k q).2
  have mkk : ∀ k, k < 4 → MkC M' own k (mk k) ∧ mkz M' k = mkz M k ∧ mks M' k = mks M k := fun k hk =>
    MkC.g hB.1 (by omega) f (fun o j q => ⟨by have := n8 o j q; omega, by have := n8 o j q; omega, fun z => by have := hp o j q; omega⟩) (fun _ _ => rfl) (h.2.2 k hk)
  have r7 : mR M' 68 7 = mR M 68 7 := (f.2.2 68 (by omega) 7 (fun q => by have := hp _ _ q; omega)).2.2.1
  refine ⟨⟨h.1.far f (fun o k q => Or.inl (by have := n8 o k q; omega)) (fun _ _ => rfl) (fun o q => Nat.lt_of_lt_of_le (hB.1 o q) f.1), h.2.1.g f ⟨by omega, fun k q => by have := hp _ _ q; omega⟩, fun k hk => (mkk k hk).1⟩, fun z s R => ?_⟩
  exact R.more (a := 0) (b := 0) kz.1 kz.2 r7 (fun k hk => (mkk k hk).2)
theorem TC.g {P : Nat → Nat → Prop} {M M' : ej_Mem} (f : FrG P M M') (hz : 122 ≤ mZ M) (hp : ∀ o k, P o k → o ≠ 60 ∧ (o = 59 → k ≠ 1)) {t : Nat} {tp : Nat → Nat} (h : TC M t tp) : TC M' t tp := ⟨h.1, h.2.1, by rw [(f.2.2 59 (by omega) 1 (fun q => (hp _ _ q).2 rfl rfl)).1]; exact h.2.2.1, fun k hk => by rw [(f.2.2 60 (by omega) k (fun q => (hp _ _ q).1 rfl)).2.2.2.1]; exact h.2.2.2 k hk⟩
theorem TR.n9 {M M' : ej_Mem} (n : N9 M M') {t : Nat} {tp : Nat → Nat} (h : TR M t tp) : TR M' t tp := by
  unfold TR at h ⊢
  rw [(n 90 (by omega) (by omega)).2.2.1, (n 91 (by omega) (by omega)).2.2.2.2]
  exact h
