/-! the class's whole state after a search -/
theorem CI.search {D : Nat} (hD : 6 ≤ D) {M : ej_Mem} {own : Nat → Nat} {V : View} {mk : Nat → Option View} (h : CI M own V mk) (g w y x : Int32) : ∃ M' own', cal D jm_Suit_search [.ref 59, .int g, .int w, .int y, .int x] M = some (some (.int (a_search V g w y x)), M') ∧ FrG (P2 own) M M' ∧ CI M' own' (u_search V g w y x) mk ∧ (∀ o, o < mZ M → own' o = own o) ∧ ∀ z s, RM M z s → RM M' z s := by
  have hz := h.1.2.2.1
  have hB := h.1.2.2.2.1
  obtain ⟨M', own', e, f, K, ho, R⟩ := c_search hD h.1 g w y x
  have kr := keepR e (by decide)
  have mkk : ∀ k, k < 4 → MkC M' own' k (mk k) ∧ mkz M' k = mkz M k ∧ mks M' k = mks M k := fun k hk =>
    MkC.g hB.1 (by omega) f (fun o j q => ⟨by have := (P2_ok hB o j q).1; omega, by have := (P2_ok hB o j q).1; omega, fun z => absurd z (P2_ok hB o j q).2⟩) ho (h.2.2 k hk)
  refine ⟨M', own', e, f, ⟨K, fun j hj w q => ?_, fun k hk => (mkk k hk).1⟩, ho, fun z s RR => ?_⟩
  · rw [kr (68 + 1) (by omega)] at q
    obtain ⟨a, b⟩ := h.2.1 j hj w q
    exact ⟨Nat.lt_of_lt_of_le a f.1, by rw [(f.2.1 w a).1]; exact b⟩
  · rcases R with ⟨a, b, c⟩ | ⟨a, b, c, q, e7⟩
    · exact RR.more (a := 0) (b := 0) a b c (fun k hk => (mkk k hk).2)
    · obtain ⟨r1, r2⟩ := RR
      have k0 := (mkk 0 (by omega)).2
      have k1 := (mkk 1 (by omega)).2
      have k2 := (mkk 2 (by omega)).2
      have k3 := (mkk 3 (by omega)).2
      have l1 : lz M 68 = 0 := by unfold lz; rw [a]; rfl
      have l2 : ls M 68 = 0 := by unfold ls; rw [a]; rfl
      have l3 : lz M' 68 = 4 := by unfold lz; rw [e7]; rfl
      have l4 : ls M' 68 = 16200 := by unfold ls; rw [e7]; rfl
      constructor <;> omega
