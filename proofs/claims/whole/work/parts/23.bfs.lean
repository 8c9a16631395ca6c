/-! the search, pure: states met, by what each was met, how many are gone through, how it stands -/
abbrev BS : Type := List Int32 × List (Nat × Nat) × Nat × Nat
abbrev b_xs (b : BS) : List Int32 := b.1
abbrev b_lk (b : BS) : List (Nat × Nat) := b.2.1
abbrev b_gn (b : BS) : Nat := b.2.2.1
abbrev b_st (b : BS) : Nat := b.2.2.2
def b_meet (cap : Nat) (w : Int32 → Bool) (t : Int32) (l : Nat × Nat) (b : BS) : BS :=
  if b.1.length = cap then (b.1, b.2.1, b.2.2.1, 4) else (b.1 ++ [t], b.2.1 ++ [l], b.2.2.1, if w t then 2 else 1)
def b_try (nx : Nat → Int32 → Option Int32) (cap : Nat) (w : Int32 → Bool) (i : Nat) (s : Int32) (m : Nat) (b : BS) : BS :=
  if b.2.2.2 = 1 then (match nx m s with
    | none => b
    | some t => if t ∈ b.1 then b else b_meet cap w t (i, m) b) else b
def b_mvs (nx : Nat → Int32 → Option Int32) (cap : Nat) (w : Int32 → Bool) (i : Nat) (s : Int32) : Nat → Nat → BS → BS
  | 0, _, b => b
  | c + 1, m, b => b_mvs nx cap w i s c (m + 1) (b_try nx cap w i s m b)
def b_fin (b : BS) : BS := if b.2.2.2 = 1 ∧ b.2.2.1 = b.1.length then (b.1, b.2.1, b.2.2.1, 3) else b
def b_pass (nM : Nat) (nx : Nat → Int32 → Option Int32) (cap : Nat) (w : Int32 → Bool) (b : BS) : BS :=
  b_fin (b_mvs nx cap w b.2.2.1 (b.1.getD b.2.2.1 0) nM 0 (b.1, b.2.1, b.2.2.1 + 1, b.2.2.2))
def b_run (nM : Nat) (nx : Nat → Int32 → Option Int32) (cap : Nat) (w : Int32 → Bool) : Nat → BS → BS
  | 0, b => b
  | n + 1, b => if b.2.2.2 = 1 then b_run nM nx cap w n (b_pass nM nx cap w b) else b
def b_new (w : Int32 → Bool) (s : Int32) : BS := ([s], [(0, 0)], 0, if w s then 2 else 1)
def b_all (nM : Nat) (nx : Nat → Int32 → Option Int32) (cap : Nat) (w : Int32 → Bool) (s : Int32) : BS := b_run nM nx cap w cap (b_new w s)
def b_row (lk : List (Nat × Nat)) : Nat → Nat → List Nat
  | 0, _ => []
  | n + 1, i => if i = 0 then [] else (lk.getD i (0, 0)).2 :: b_row lk n (lk.getD i (0, 0)).1
/-- what lasts from call to call, whatever the moves have become -/
def BOK (cap : Nat) (b : BS) : Prop :=
  0 < b.1.length ∧ b.1.length ≤ cap ∧ b.2.1.length = b.1.length ∧ b.2.2.1 ≤ b.1.length ∧ b.1.Nodup ∧
  (∀ i, 0 < i → i < b.1.length → (b.2.1.getD i (0, 0)).1 < i ∧ (b.2.1.getD i (0, 0)).2 < 40) ∧
  (b.2.2.2 = 1 → b.2.2.1 < b.1.length) ∧ 1 ≤ b.2.2.2 ∧ b.2.2.2 ≤ 4
/-- the same within a pass: the one that is gone through is counted already -/
def BOKp (cap : Nat) (b : BS) : Prop :=
  0 < b.1.length ∧ b.1.length ≤ cap ∧ b.2.1.length = b.1.length ∧ b.2.2.1 ≤ b.1.length ∧ b.1.Nodup ∧
  (∀ i, 0 < i → i < b.1.length → (b.2.1.getD i (0, 0)).1 < i ∧ (b.2.1.getD i (0, 0)).2 < 40) ∧ 1 ≤ b.2.2.2 ∧ b.2.2.2 ≤ 4
theorem getD_app {α : Type} (l : List α) (x d : α) (i : Nat) : (l ++ [x]).getD i d = if i < l.length then l.getD i d else if i = l.length then x else d := by
  by_cases h : i < l.length
  · simp [List.getD, h, List.getElem?_append_left]
  · by_cases h2 : i = l.length
    · subst h2; simp [List.getD]
    · have : l.length < i := by omega
      simp [List.getD, h, h2]
      rw [List.getElem?_eq_none (by simp; omega)]
      rfl
theorem b_meet_ok {cap : Nat} {w : Int32 → Bool} {t : Int32} {l : Nat × Nat} {b : BS} (h : BOKp cap b) (ht : t ∉ b.1) (hl : l.1 < b.1.length) (hm : l.2 < 40) : BOKp cap (b_meet cap w t l b) := by
  obtain ⟨h0, h1, h2, h3, h4, h5, h6, h7⟩ := h
  unfold b_meet
  by_cases hc : b.1.length = cap
  · rw [if_pos hc]
    exact ⟨h0, h1, h2, h3, h4, h5, (by decide : 1 ≤ 4), (by decide : 4 ≤ 4)⟩
  · rw [if_neg hc]
    refine ⟨by simp, by simp; omega, by simp [h2], by simp; omega, ?_, ?_, ?_, ?_⟩
    · exact List.nodup_append.mpr ⟨h4, by simp, by
        intro x hx y hy e
        simp at hy
        subst hy; subst e
        exact ht hx⟩
    · intro i hi hi2
      simp only [List.length_append, List.length_cons, List.length_nil] at hi2
      simp only [getD_app, h2]
      by_cases g : i < b.1.length
      · rw [if_pos g]; exact h5 i hi g
      · rw [if_neg g, if_pos (by omega)]
        exact ⟨by omega, hm⟩
    · show 1 ≤ (if w t then 2 else 1); split <;> decide
    · show (if w t then 2 else 1) ≤ 4; split <;> decide
theorem b_try_ok {nx : Nat → Int32 → Option Int32} {cap : Nat} {w : Int32 → Bool} {i : Nat} {s : Int32} {m : Nat} {b : BS} (h : BOKp cap b) (hi : i < b.1.length) (hm : m < 40) : BOKp cap (b_try nx cap w i s m b) ∧ b.1.length ≤ (b_try nx cap w i s m b).1.length ∧ (b_try nx cap w i s m b).2.2.1 = b.2.2.1 := by
  unfold b_try
  split
  · split
    · exact ⟨h, Nat.le_refl _, rfl⟩
    · split
      · exact ⟨h, Nat.le_refl _, rfl⟩
      · rename_i ht
        refine ⟨b_meet_ok h ht hi hm, ?_, ?_⟩
        · unfold b_meet; split <;> simp
        · unfold b_meet; split <;> rfl
  · exact ⟨h, Nat.le_refl _, rfl⟩
theorem b_mvs_ok {nx : Nat → Int32 → Option Int32} {cap : Nat} {w : Int32 → Bool} {i : Nat} {s : Int32} : ∀ (c m : Nat) (b : BS), BOKp cap b → i < b.1.length → m + c ≤ 40 → BOKp cap (b_mvs nx cap w i s c m b) ∧ b.1.length ≤ (b_mvs nx cap w i s c m b).1.length ∧ (b_mvs nx cap w i s c m b).2.2.1 = b.2.2.1
  | 0, m, b, h, _, _ => ⟨h, Nat.le_refl _, rfl⟩
  | c + 1, m, b, h, hi, hm => by
    obtain ⟨a1, a2, a3⟩ := b_try_ok (nx := nx) (w := w) (s := s) (m := m) h hi (by omega)
    obtain ⟨c1, c2, c3⟩ := b_mvs_ok (nx := nx) (w := w) (s := s) c (m + 1) _ a1 (Nat.lt_of_lt_of_le hi a2) (by omega)
    exact ⟨c1, Nat.le_trans a2 c2, c3.trans a3⟩
theorem b_pass_ok {nM : Nat} {nx : Nat → Int32 → Option Int32} {cap : Nat} {w : Int32 → Bool} {b : BS} (hM : nM ≤ 40) (h : BOK cap b) (h1 : b.2.2.2 = 1) : BOK cap (b_pass nM nx cap w b) ∧ (b_pass nM nx cap w b).2.2.1 = b.2.2.1 + 1 := by
  obtain ⟨g0, g1, g2, g3, g4, g5, g6, g7, g8⟩ := h
  have hg := g6 h1
  have hp : BOKp cap (b.1, b.2.1, b.2.2.1 + 1, b.2.2.2) := ⟨g0, g1, g2, hg, g4, g5, g7, g8⟩
  obtain ⟨a1, a2, a3⟩ := b_mvs_ok (nx := nx) (w := w) (i := b.2.2.1) (s := b.1.getD b.2.2.1 0) nM 0 _ hp hg (by omega)
  unfold b_pass b_fin
  generalize b_mvs nx cap w b.2.2.1 (b.1.getD b.2.2.1 0) nM 0 (b.1, b.2.1, b.2.2.1 + 1, b.2.2.2) = c at *
  obtain ⟨f0, f1, f2, f3, f4, f5, f6, f7⟩ := a1
  split
  · exact ⟨⟨f0, f1, f2, f3, f4, f5, fun e => absurd e (by decide : ¬ 3 = 1), (by decide : 1 ≤ 3), (by decide : 3 ≤ 4)⟩, a3⟩
  · rename_i hc
    exact ⟨⟨f0, f1, f2, f3, f4, f5, fun e => by
      rcases Nat.lt_or_ge c.2.2.1 c.1.length with q | q
      · exact q
      · exact absurd ⟨e, Nat.le_antisymm f3 q⟩ hc, f6, f7⟩, a3⟩
theorem b_new_ok {cap : Nat} (hc : 0 < cap) (w : Int32 → Bool) (s : Int32) : BOK cap (b_new w s) := by
  unfold b_new
  refine ⟨by simp, by simp; omega, by simp, by simp, by simp, ?_, ?_, ?_, ?_⟩
  · intro i h1 h2; simp at h2; omega
  · intro _; simp
  · show 1 ≤ (if w s then 2 else 1); split <;> decide
  · show (if w s then 2 else 1) ≤ 4; split <;> decide
theorem b_run_ok {nM : Nat} {nx : Nat → Int32 → Option Int32} {cap : Nat} {w : Int32 → Bool} (hM : nM ≤ 40) : ∀ (n : Nat) (b : BS), BOK cap b → BOK cap (b_run nM nx cap w n b) ∧ b.2.2.1 ≤ (b_run nM nx cap w n b).2.2.1 ∧ ((b_run nM nx cap w n b).2.2.2 = 1 → (b_run nM nx cap w n b).2.2.1 = b.2.2.1 + n)
  | 0, b, h => ⟨h, Nat.le_refl _, fun _ => rfl⟩
  | n + 1, b, h => by
    unfold b_run
    by_cases h1 : b.2.2.2 = 1
    · rw [if_pos h1]
      obtain ⟨a1, a2⟩ := b_pass_ok (nx := nx) (w := w) hM h h1
      obtain ⟨c1, c2, c3⟩ := b_run_ok (nx := nx) (w := w) hM n _ a1
      exact ⟨c1, by omega, fun e => by rw [c3 e]; omega⟩
    · rw [if_neg h1]
      exact ⟨h, Nat.le_refl _, fun e => absurd e h1⟩
theorem b_all_end {nM : Nat} {nx : Nat → Int32 → Option Int32} {cap : Nat} {w : Int32 → Bool} {s : Int32} (hM : nM ≤ 40) (hc : 0 < cap) : BOK cap (b_all nM nx cap w s) ∧ (b_all nM nx cap w s).2.2.2 ≠ 1 := by
  obtain ⟨a, b, c⟩ := b_run_ok (nx := nx) (w := w) hM cap (b_new w s) (b_new_ok hc w s)
  refine ⟨a, fun e => ?_⟩
  have h1 := c e
  have h2 := a.2.2.2.2.2.2.1 e
  have h3 := a.2.1
  have h4 : (b_new w s).2.2.1 = 0 := rfl
  unfold b_all at *
  omega
/-- what can be come to at all -/
def Rch (nM : Nat) (nx : Nat → Int32 → Option Int32) (s t : Int32) : Prop := ∀ S : Int32 → Prop, S s → (∀ x m y, m < nM → S x → nx m x = some y → S y) → S t
theorem Rch.refl (nM : Nat) (nx : Nat → Int32 → Option Int32) (s : Int32) : Rch nM nx s s := fun _ h _ => h
theorem Rch.step {nM : Nat} {nx : Nat → Int32 → Option Int32} {s x y : Int32} {m : Nat} (h : Rch nM nx s x) (hm : m < nM) (e : nx m x = some y) : Rch nM nx s y := fun S h0 hc => hc x m y hm (h S h0 hc) e
theorem Rch.mono {nM : Nat} {nx nx' : Nat → Int32 → Option Int32} {s t : Int32} (hs : ∀ m x y, nx' m x = some y → nx m x = some y) (h : Rch nM nx' s t) : Rch nM nx s t := fun S h0 hc => h S h0 (fun x m y hm hx e => hc x m y hm hx (hs m x y e))
/-- what holds of a search of its own, at each of its stages -/
def BIn (nM : Nat) (nx : Nat → Int32 → Option Int32) (w : Int32 → Bool) (s : Int32) (cap full : Nat) (b : BS) : Prop :=
  (b.1.getD 0 0 = s) ∧ (∀ x, x ∈ b.1 → Rch nM nx s x) ∧ (b.2.2.2 = 2 → w (b.1.getD (b.1.length - 1) 0) = true) ∧ (b.2.2.2 ≠ 2 → ∀ x, x ∈ b.1 → w x = false) ∧
  (b.2.2.2 = 4 → b.1.length = cap ∧ ∃ t, t ∉ b.1 ∧ Rch nM nx s t) ∧
  (b.2.2.2 = 1 ∨ b.2.2.2 = 3 → ∀ i, i < full → ∀ m, m < nM → ∀ t, nx m (b.1.getD i 0) = some t → t ∈ b.1) ∧
  (∀ i, 0 < i → i < b.1.length → nx (b.2.1.getD i (0, 0)).2 (b.1.getD (b.2.1.getD i (0, 0)).1 0) = some (b.1.getD i 0) ∧ (b.2.1.getD i (0, 0)).2 < nM)
theorem getD_mem {l : List Int32} {i : Nat} (h : i < l.length) : l.getD i 0 ∈ l := by
  simp [List.getD, h]
theorem mem_getD {l : List Int32} {x : Int32} (h : x ∈ l) : ∃ i, i < l.length ∧ l.getD i 0 = x := by
  obtain ⟨i, hi, e⟩ := List.getElem_of_mem h
  exact ⟨i, hi, by simp [List.getD, hi, e]⟩
theorem b_meet_in {nM : Nat} {nx : Nat → Int32 → Option Int32} {w : Int32 → Bool} {s : Int32} {cap full : Nat} {b : BS} {t : Int32} {l : Nat × Nat} (h : BIn nM nx w s cap full b) (hk : BOKp cap b) (h1 : b.2.2.2 = 1) (ht : t ∉ b.1) (hf : full ≤ b.1.length) (hl : l.1 < b.1.length) (hm : l.2 < nM) (e : nx l.2 (b.1.getD l.1 0) = some t) : BIn nM nx w s cap full (b_meet cap w t l b) := by
  obtain ⟨g1, g2, g3, g4, g5, g6, g7⟩ := h
  have hR : Rch nM nx s t := (g2 _ (getD_mem hl)).step hm e
  have h0 := hk.1
  have hlk := hk.2.2.1
  unfold b_meet
  by_cases hc : b.1.length = cap
  · rw [if_pos hc]
    refine ⟨g1, g2, fun e => absurd e (by decide : ¬ 4 = 2), fun _ => g4 (by omega), fun _ => ⟨hc, t, ht, hR⟩, ?_, g7⟩
    rintro (e | e)
    · exact absurd e (by decide : ¬ 4 = 1)
    · exact absurd e (by decide : ¬ 4 = 3)
  · rw [if_neg hc]
    refine ⟨?_, ?_, ?_, ?_, ?_, ?_, ?_⟩
    · show (b.1 ++ [t]).getD 0 0 = s
      rw [getD_app, if_pos h0]; exact g1
    · intro x hx
      rcases List.mem_append.mp hx with hx | hx
      · exact g2 x hx
      · simp at hx; rw [hx]; exact hR
    · intro e2
      show w ((b.1 ++ [t]).getD ((b.1 ++ [t]).length - 1) 0) = true
      rw [getD_app]
      simp only [List.length_append, List.length_cons, List.length_nil]
      rw [if_neg (by omega), if_pos (by omega)]
      by_cases hw : w t = true
      · exact hw
      · simp [hw] at e2
    · intro e2 x hx
      rcases List.mem_append.mp hx with hx | hx
      · exact g4 (by omega) x hx
      · simp at hx
        rw [hx]
        by_cases hw : w t = true
        · simp [hw] at e2
        · simpa using hw
    · intro e2
      exfalso
      by_cases hw : w t = true
      · simp [hw] at e2
      · simp [hw] at e2
    · intro _ i hi m hm2 t2 e3
      have e4 : (b.1 ++ [t]).getD i 0 = b.1.getD i 0 := by rw [getD_app, if_pos (by omega)]
      have e5 : nx m ((b.1 ++ [t]).getD i 0) = some t2 := e3
      rw [e4] at e5
      exact List.mem_append.mpr (Or.inl (g6 (Or.inl h1) i hi m hm2 t2 e5))
    · intro i hi hi2
      show nx ((b.2.1 ++ [l]).getD i (0, 0)).2 ((b.1 ++ [t]).getD ((b.2.1 ++ [l]).getD i (0, 0)).1 0) = some ((b.1 ++ [t]).getD i 0) ∧ ((b.2.1 ++ [l]).getD i (0, 0)).2 < nM
      have hi3 : i < b.1.length + 1 := by simpa using hi2
      rw [getD_app b.2.1, hlk]
      by_cases hi4 : i < b.1.length
      · rw [if_pos hi4, getD_app b.1, getD_app b.1, if_pos hi4]
        have q := hk.2.2.2.2.2.1 i hi hi4
        rw [if_pos (by omega)]
        exact g7 i hi hi4
      · have hi5 : i = b.1.length := by omega
        rw [if_neg hi4, if_pos hi5, getD_app b.1, getD_app b.1, if_pos hl, if_neg hi4, if_pos hi5]
        exact ⟨e, hm⟩
theorem b_mvs_in {nM : Nat} {nx : Nat → Int32 → Option Int32} {w : Int32 → Bool} {s : Int32} {cap : Nat} {i : Nat} {c0 : Int32} (hM : nM ≤ 40) : ∀ (c m : Nat) (b : BS), m + c = nM → BIn nM nx w s cap i b → BOKp cap b → i < b.1.length → b.1.getD i 0 = c0 → b.2.2.2 ≠ 3 →
    (b.2.2.2 = 1 → ∀ k, k < m → ∀ t, nx k c0 = some t → t ∈ b.1) → BIn nM nx w s cap (i + 1) (b_mvs nx cap w i c0 c m b) ∧ (b_mvs nx cap w i c0 c m b).2.2.2 ≠ 3
  | 0, m, b, hm, h, hk, hi, e, h3, hd => by
    refine ⟨⟨h.1, h.2.1, h.2.2.1, h.2.2.2.1, h.2.2.2.2.1, ?_, h.2.2.2.2.2.2⟩, h3⟩
    intro h1 k hk2 m2 hm2 t et
    show t ∈ b.1
    have h1' : b.2.2.2 = 1 := by
      rcases h1 with h1 | h1
      · exact h1
      · exact absurd h1 h3
    by_cases hki : k = i
    · subst hki
      have et2 : nx m2 (b.1.getD k 0) = some t := et
      rw [e] at et2
      exact hd h1' m2 (by omega) t et2
    · exact h.2.2.2.2.2.1 (Or.inl h1') k (by omega) m2 hm2 t et
  | c + 1, m, b, hm, h, hk, hi, e, h3, hd => by
    show BIn nM nx w s cap (i + 1) (b_mvs nx cap w i c0 c (m + 1) (b_try nx cap w i c0 m b)) ∧ _
    obtain ⟨a1, a2, a3⟩ := b_try_ok (nx := nx) (w := w) (s := c0) (m := m) hk hi (by omega)
    have key : BIn nM nx w s cap i (b_try nx cap w i c0 m b) ∧ (b_try nx cap w i c0 m b).1.getD i 0 = c0 ∧ (b_try nx cap w i c0 m b).2.2.2 ≠ 3 ∧ ((b_try nx cap w i c0 m b).2.2.2 = 1 → ∀ k, k < m + 1 → ∀ t, nx k c0 = some t → t ∈ (b_try nx cap w i c0 m b).1) := by
      unfold b_try
      by_cases h1 : b.2.2.2 = 1
      · rw [if_pos h1]
        cases en : nx m c0 with
        | none =>
          refine ⟨h, e, h3, fun _ k hk2 t et => ?_⟩
          by_cases hkm : k = m
          · subst hkm; rw [en] at et; cases et
          · exact hd h1 k (by omega) t et
        | some t =>
          show BIn nM nx w s cap i (if t ∈ b.1 then b else b_meet cap w t (i, m) b) ∧ (if t ∈ b.1 then b else b_meet cap w t (i, m) b).1.getD i 0 = c0 ∧ (if t ∈ b.1 then b else b_meet cap w t (i, m) b).2.2.2 ≠ 3 ∧ ((if t ∈ b.1 then b else b_meet cap w t (i, m) b).2.2.2 = 1 → ∀ k, k < m + 1 → ∀ t', nx k c0 = some t' → t' ∈ (if t ∈ b.1 then b else b_meet cap w t (i, m) b).1)
          by_cases ht : t ∈ b.1
          · rw [if_pos ht]
            refine ⟨h, e, h3, fun _ k hk2 t' et => ?_⟩
            by_cases hkm : k = m
            · subst hkm; rw [en] at et; cases et; exact ht
            · exact hd h1 k (by omega) t' et
          · rw [if_neg ht]
            have hb := b_meet_in (l := (i, m)) h hk h1 ht (Nat.le_of_lt hi) hi (by show m < nM; omega) (by show nx m (b.1.getD i 0) = some t; rw [e]; exact en)
            refine ⟨hb, ?_, ?_, ?_⟩
            · unfold b_meet
              split
              · exact e
              · show (b.1 ++ [t]).getD i 0 = c0
                rw [getD_app, if_pos hi]; exact e
            · unfold b_meet
              split
              · show (4 : Nat) ≠ 3; decide
              · show (if w t then 2 else 1) ≠ 3; split <;> decide
            · intro h4 k hk2 t' et
              unfold b_meet at h4 ⊢
              split at h4
              · exact absurd h4 (by decide : ¬ 4 = 1)
              · rename_i hc
                rw [if_neg hc]
                show t' ∈ b.1 ++ [t]
                by_cases hkm : k = m
                · subst hkm; rw [en] at et; cases et; simp
                · exact List.mem_append.mpr (Or.inl (hd h1 k (by omega) t' et))
      · rw [if_neg h1]
        exact ⟨h, e, h3, fun h4 => absurd h4 h1⟩
    obtain ⟨k1, k2, k3, k4⟩ := key
    exact b_mvs_in hM c (m + 1) _ (by omega) k1 a1 (Nat.lt_of_lt_of_le hi a2) k2 k3 k4
theorem b_pass_in {nM : Nat} {nx : Nat → Int32 → Option Int32} {w : Int32 → Bool} {s : Int32} {cap : Nat} {b : BS} (hM : nM ≤ 40) (h : BIn nM nx w s cap b.2.2.1 b) (hk : BOK cap b) (h1 : b.2.2.2 = 1) : BIn nM nx w s cap (b_pass nM nx cap w b).2.2.1 (b_pass nM nx cap w b) ∧ ((b_pass nM nx cap w b).2.2.2 = 3 → (b_pass nM nx cap w b).2.2.1 = (b_pass nM nx cap w b).1.length) := by
  obtain ⟨g0, g1, g2, g3, g4, g5, g6, g7, g8⟩ := hk
  have hg := g6 h1
  have hp : BOKp cap (b.1, b.2.1, b.2.2.1 + 1, b.2.2.2) := ⟨g0, g1, g2, hg, g4, g5, g7, g8⟩
  obtain ⟨a1, a2, a3⟩ := b_mvs_ok (nx := nx) (w := w) (i := b.2.2.1) (s := b.1.getD b.2.2.1 0) nM 0 _ hp hg (by omega)
  have q := b_mvs_in (nx := nx) (w := w) (s := s) (cap := cap) (i := b.2.2.1) (c0 := b.1.getD b.2.2.1 0) hM nM 0 (b.1, b.2.1, b.2.2.1 + 1, b.2.2.2) (by omega) h hp hg rfl (by show b.2.2.2 ≠ 3; omega) (fun _ k hk2 => absurd hk2 (Nat.not_lt_zero k))
  unfold b_pass b_fin
  generalize b_mvs nx cap w b.2.2.1 (b.1.getD b.2.2.1 0) nM 0 (b.1, b.2.1, b.2.2.1 + 1, b.2.2.2) = c at *
  obtain ⟨⟨q1, q2, q3, q4, q5, q6, q7⟩, q8⟩ := q
  have a4 : c.2.2.1 = b.2.2.1 + 1 := a3
  split
  · rename_i hc
    refine ⟨⟨q1, q2, fun e => absurd e (by decide : ¬ 3 = 2), fun _ => q4 (by omega), fun e => absurd e (by decide : ¬ 3 = 4), ?_, q7⟩, fun _ => hc.2⟩
    intro _
    show ∀ i, i < c.2.2.1 → _
    rw [a4]
    exact q6 (Or.inl hc.1)
  · refine ⟨⟨q1, q2, q3, q4, q5, ?_, q7⟩, fun e => absurd e q8⟩
    rw [a4]
    exact q6
theorem b_new_in {nM : Nat} {nx : Nat → Int32 → Option Int32} {w : Int32 → Bool} {s : Int32} {cap : Nat} : BIn nM nx w s cap 0 (b_new w s) := by
  unfold b_new
  refine ⟨rfl, ?_, ?_, ?_, ?_, ?_, ?_⟩
  · intro x hx
    simp at hx
    rw [hx]; exact Rch.refl nM nx s
  · intro e
    show w s = true
    by_cases hw : w s = true
    · exact hw
    · simp [hw] at e
  · intro e x hx
    simp at hx
    rw [hx]
    by_cases hw : w s = true
    · simp [hw] at e
    · simpa using hw
  · intro e
    by_cases hw : w s = true
    · simp [hw] at e
    · simp [hw] at e
  · intro _ i hi; exact absurd hi (Nat.not_lt_zero i)
  · intro i h1 h2; simp at h2; omega
theorem b_run_in {nM : Nat} {nx : Nat → Int32 → Option Int32} {w : Int32 → Bool} {s : Int32} {cap : Nat} (hM : nM ≤ 40) : ∀ (n : Nat) (b : BS), BIn nM nx w s cap b.2.2.1 b → BOK cap b → (b.2.2.2 = 3 → b.2.2.1 = b.1.length) → BIn nM nx w s cap (b_run nM nx cap w n b).2.2.1 (b_run nM nx cap w n b) ∧ ((b_run nM nx cap w n b).2.2.2 = 3 → (b_run nM nx cap w n b).2.2.1 = (b_run nM nx cap w n b).1.length)
  | 0, b, h, hk, h3 => ⟨h, h3⟩
  | n + 1, b, h, hk, h3 => by
    unfold b_run
    by_cases h1 : b.2.2.2 = 1
    · rw [if_pos h1]
      obtain ⟨a1, a2⟩ := b_pass_in hM h hk h1
      exact b_run_in hM n _ a1 (b_pass_ok hM hk h1).1 a2
    · rw [if_neg h1]; exact ⟨h, h3⟩
theorem b_all_in {nM : Nat} {nx : Nat → Int32 → Option Int32} {w : Int32 → Bool} {s : Int32} {cap : Nat} (hM : nM ≤ 40) (hc : 0 < cap) : BIn nM nx w s cap (b_all nM nx cap w s).2.2.1 (b_all nM nx cap w s) ∧ ((b_all nM nx cap w s).2.2.2 = 3 → (b_all nM nx cap w s).2.2.1 = (b_all nM nx cap w s).1.length) := by
  apply b_run_in hM cap _ b_new_in (b_new_ok hc w s)
  intro e
  exfalso
  unfold b_new at e
  by_cases hw : w s = true
  · simp [hw] at e
  · simp [hw] at e
/-- none leads: all that can be come to was met, few enough, and nothing of it is as wished -/
theorem b_all_3 {nM : Nat} {nx : Nat → Int32 → Option Int32} {w : Int32 → Bool} {s : Int32} {cap : Nat} (hM : nM ≤ 40) (hc : 0 < cap) (h : (b_all nM nx cap w s).2.2.2 = 3) : ∃ xs : List Int32, xs.length ≤ cap ∧ (∀ t, Rch nM nx s t → t ∈ xs) ∧ ∀ x, x ∈ xs → w x = false := by
  obtain ⟨⟨g1, g2, g3, g4, g5, g6, g7⟩, h3⟩ := b_all_in (nx := nx) (w := w) (s := s) hM hc
  obtain ⟨k0, k1, _⟩ := (b_all_end (nx := nx) (w := w) (s := s) hM hc).1
  refine ⟨(b_all nM nx cap w s).1, k1, ?_, g4 (by omega)⟩
  intro t ht
  apply ht (fun x => x ∈ (b_all nM nx cap w s).1)
  · have q := getD_mem k0
    rw [g1] at q; exact q
  · intro x m y hm hx e
    obtain ⟨i, hi, ei⟩ := mem_getD hx
    exact g6 (Or.inr h) i (by rw [h3 h]; exact hi) m hm y (by rw [ei]; exact e)
/-- and the other way round -/
theorem b_all_3r {nM : Nat} {nx : Nat → Int32 → Option Int32} {w : Int32 → Bool} {s : Int32} {cap : Nat} (hM : nM ≤ 40) (hc : 0 < cap) {xs : List Int32} (hl : xs.length ≤ cap) (hx : ∀ t, Rch nM nx s t → t ∈ xs) (hw : ∀ x, Rch nM nx s x → w x = false) : (b_all nM nx cap w s).2.2.2 = 3 := by
  obtain ⟨⟨g1, g2, g3, g4, g5, g6, g7⟩, h3⟩ := b_all_in (nx := nx) (w := w) (s := s) hM hc
  obtain ⟨⟨k0, k1, k2, k3, k4, k5, k6, k7, k8⟩, ke⟩ := b_all_end (nx := nx) (w := w) (s := s) hM hc
  have n2 : (b_all nM nx cap w s).2.2.2 ≠ 2 := by
    intro e
    have := g3 e
    rw [hw _ (g2 _ (getD_mem (by omega)))] at this
    cases this
  have n4 : (b_all nM nx cap w s).2.2.2 ≠ 4 := by
    intro e
    obtain ⟨e1, t, ht, hR⟩ := g5 e
    have := nodup_sub_len (t :: (b_all nM nx cap w s).1) xs (List.nodup_cons.mpr ⟨ht, k4⟩) (by
      intro x hx2
      rcases List.mem_cons.mp hx2 with rfl | hx2
      · exact hx _ hR
      · exact hx _ (g2 x hx2))
    simp only [List.length_cons] at this
    omega
  omega
theorem b_all_mono {nM : Nat} {nx nx' : Nat → Int32 → Option Int32} {w : Int32 → Bool} {s : Int32} {cap : Nat} (hM : nM ≤ 40) (hc : 0 < cap) (hs : ∀ m x y, nx' m x = some y → nx m x = some y) (h : (b_all nM nx cap w s).2.2.2 = 3) : (b_all nM nx' cap w s).2.2.2 = 3 := by
  obtain ⟨xs, h1, h2, h3⟩ := b_all_3 hM hc h
  exact b_all_3r hM hc h1 (fun t ht => h2 t (ht.mono hs)) (fun x hx => h3 x (h2 x (hx.mono hs)))
/-- the row that was found leads there without the moves that it does not have -/
theorem b_row_reach {nM : Nat} {nx nx' : Nat → Int32 → Option Int32} {w : Int32 → Bool} {s : Int32} {cap full : Nat} {b : BS} (hk : BOK cap b) (h : BIn nM nx w s cap full b) : ∀ (n i : Nat), i ≤ n → i < b.1.length → (∀ m, m ∈ b_row b.2.1 n i → ∀ x y, nx m x = some y → nx' m x = some y) → Rch nM nx' s (b.1.getD i 0)
  | 0, i, hi, hl, _ => by
    have : i = 0 := by omega
    subst this
    rw [h.1]; exact Rch.refl nM nx' s
  | n + 1, i, hi, hl, ha => by
    by_cases h0 : i = 0
    · subst h0
      rw [h.1]; exact Rch.refl nM nx' s
    · have hb : b_row b.2.1 (n + 1) i = (b.2.1.getD i (0, 0)).2 :: b_row b.2.1 n (b.2.1.getD i (0, 0)).1 := by
        show (if i = 0 then [] else _) = _
        rw [if_neg h0]
      rw [hb] at ha
      have q := hk.2.2.2.2.2.1 i (by omega) hl
      obtain ⟨e1, e2⟩ := h.2.2.2.2.2.2 i (by omega) hl
      have ih := b_row_reach hk h n (b.2.1.getD i (0, 0)).1 (by omega) (by omega) (fun m hm => ha m (List.mem_cons_of_mem _ hm))
      exact ih.step e2 (ha _ (List.mem_cons_self) _ _ e1)
/-- a row that was found, and the moves of which still are there: never 'none leads' -/
theorem b_all_row {nM : Nat} {nx nx' : Nat → Int32 → Option Int32} {w : Int32 → Bool} {s : Int32} {cap : Nat} (hM : nM ≤ 40) (hc : 0 < cap) (h2 : (b_all nM nx cap w s).2.2.2 = 2)
    (ha : ∀ m, m ∈ b_row (b_all nM nx cap w s).2.1 (b_all nM nx cap w s).1.length ((b_all nM nx cap w s).1.length - 1) → ∀ x y, nx m x = some y → nx' m x = some y) : (b_all nM nx' cap w s).2.2.2 ≠ 3 := by
  intro h3
  obtain ⟨g, _⟩ := b_all_in (nx := nx) (w := w) (s := s) hM hc
  obtain ⟨hk, ke⟩ := b_all_end (nx := nx) (w := w) (s := s) hM hc
  obtain ⟨xs, q1, q2, q3⟩ := b_all_3 hM hc h3
  have hk0 := hk.1
  have hR := b_row_reach (nx' := nx') hk g _ _ (by omega) (by omega) ha
  have := g.2.2.1 h2
  rw [q3 _ (q2 _ hR)] at this
  cases this
