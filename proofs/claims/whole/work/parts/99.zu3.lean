/-! the class's whole state after a call that makes no cell, after a search -/
theorem CI.step {D m : Nat} {args : List Value} {v : Option Value} {P : Nat → Nat → Prop} {M M' : ej_Mem} {own : Nat → Nat} {V V' : View} {mk : Nat → Option View} (h : CI M own V mk) (e : cal D m args M = some (v, M')) (f : FrG P M M') (hp : ∀ o k, P o k → (own o = 2 ∨ own o = 7) ∧ o ≠ 79) (hK : KC M' own V') (h1 : kG m = true) (h2 : qG m = true) (h3 : hG m = true) : CI M' own V' mk ∧ ∀ z s, RM M z s → RM M' z s := by
  have hz := h.1.2.2.1
  have hB := h.1.2.2.2.1
  have kz := keep e h1
  have kr := keepR e h2
  have kh := keepH e h3
  have mkk : ∀ k, k < 4 → MkC M' own k (mk k) ∧ mkz M' k = mkz M k ∧ mks M' k = mks M k := fun k hk =>
    MkC.g hB.1 (by omega) f (fun o j q => ⟨by have := (hp o j q).1; omega, by have := (hp o j q).1; omega, fun z => absurd z (hp o j q).2⟩) (fun _ _ => rfl) (h.2.2 k hk)
  have r7 : mR M' 68 7 = mR M 68 7 := kh 68 (by omega) (SW.all h.1.1).2.2.2.2.2.2.2.2.2.1
  refine ⟨⟨hK, fun j hj w q => ?_, fun k hk => (mkk k hk).1⟩, fun z s R => ?_⟩
  · rw [kr (68 + 1) (by omega)] at q
    obtain ⟨a, b⟩ := h.2.1 j hj w q
    exact ⟨by rw [kz.1]; exact a, by rw [(f.2.1 w a).1]; exact b⟩
  · exact R.more (a := 0) (b := 0) kz.1 kz.2 r7 (fun k hk => (mkk k hk).2)
theorem P2_ok {own : Nat → Nat} {M : ej_Mem} (hB : OwnB own M) : ∀ o k, P2 own o k → (own o = 2 ∨ own o = 7) ∧ o ≠ 79 := fun o k q => by
  unfold P2 at q
  have h79 := hB.2.2.2.2.1 79 (by omega) (by omega)
  rcases q with q | q
  · refine ⟨Or.inl q, fun z => ?_⟩
    rw [z, h79] at q
    exact absurd q (by decide)
  · exact ⟨Or.inr (hB.2.2.2.2.1 o (by omega) (by omega)), by omega⟩
