/-! least: the lightest rows, pure -/
def Pth (nM : Nat) (nx : Nat → Int32 → Option Int32) (c : Nat → Nat) (s t : Int32) (v : Nat) : Prop := ∀ S : Int32 → Nat → Prop, S s 0 → (∀ x y u m, m < nM → S x u → nx m x = some y → S y (u + c m)) → S t v
theorem Pth.nil {nM : Nat} {nx : Nat → Int32 → Option Int32} {c : Nat → Nat} {s : Int32} : Pth nM nx c s s 0 := fun _ h _ => h
theorem Pth.cons {nM : Nat} {nx : Nat → Int32 → Option Int32} {c : Nat → Nat} {s x y : Int32} {v m : Nat} (h : Pth nM nx c s x v) (hm : m < nM) (e : nx m x = some y) : Pth nM nx c s y (v + c m) := fun S h0 hc => hc x y v m hm (h S h0 hc) e
theorem Pth.rch {nM : Nat} {nx : Nat → Int32 → Option Int32} {c : Nat → Nat} {s t : Int32} {v : Nat} (h : Pth nM nx c s t v) : Rch nM nx s t := h (fun t _ => Rch nM nx s t) (Rch.refl _ _ _) (fun _ _ _ _ hm ih e => ih.step hm e)
theorem Rch.pth {nM : Nat} {nx : Nat → Int32 → Option Int32} (c : Nat → Nat) {s t : Int32} (h : Rch nM nx s t) : ∃ v, Pth nM nx c s t v :=
  h (fun t => ∃ v, Pth nM nx c s t v) ⟨0, Pth.nil⟩ (fun _ _ _ hm ⟨v, hv⟩ e => ⟨v + _, hv.cons hm e⟩)
/-- what least must answer -/
def LeastS (nM : Nat) (nx : Nat → Int32 → Option Int32) (c : Nat → Nat) (w : Int32 → Bool) (s : Int32) (r : Int32) : Prop :=
  ((¬ ∃ xs : List Int32, xs.length ≤ 500 ∧ ∀ t, Rch nM nx s t → t ∈ xs) ∧ r = -3) ∨
  ((∃ xs : List Int32, xs.length ≤ 500 ∧ ∀ t, Rch nM nx s t → t ∈ xs) ∧
    (((∀ t, Rch nM nx s t → w t = false) ∧ r = -2) ∨ ∃ v t, Pth nM nx c s t v ∧ w t = true ∧ (∀ t' v', Pth nM nx c s t' v' → w t' = true → v ≤ v') ∧ r = nI v))
theorem LeastS.one {nM : Nat} {nx : Nat → Int32 → Option Int32} {c : Nat → Nat} {w : Int32 → Bool} {s r r' : Int32} (h : LeastS nM nx c w s r) (h' : LeastS nM nx c w s r') : r = r' := by
  rcases h with ⟨a, rfl⟩ | ⟨a, b⟩
  · rcases h' with ⟨_, rfl⟩ | ⟨a', _⟩
    · rfl
    · exact absurd a' a
  · rcases h' with ⟨a', _⟩ | ⟨_, b'⟩
    · exact absurd a a'
    · rcases b with ⟨n, rfl⟩ | ⟨v, t, p, q, m, rfl⟩
      · rcases b' with ⟨_, rfl⟩ | ⟨v, t, p, q, _, _⟩
        · rfl
        · rw [n t p.rch] at q; cases q
      · rcases b' with ⟨n, _⟩ | ⟨v', t', p', q', m', rfl⟩
        · rw [n t p.rch] at q; cases q
        · rw [Nat.le_antisymm (m t' v' p' q') (m' t v p q)]
/-- the rows as they stand between two passes -/
def DJ (nM : Nat) (nx : Nat → Int32 → Option Int32) (c : Nat → Nat) (s : Int32) (xs : List Int32) (wt : Nat → Option Nat) (dn : Nat → Bool) : Prop :=
  (0 < xs.length ∧ xs.getD 0 0 = s ∧ wt 0 = some 0) ∧ (∀ i, i < xs.length → ∀ v, wt i = some v → Pth nM nx c s (xs.getD i 0) v) ∧
  (∀ i, i < xs.length → dn i = true → ∃ a, wt i = some a ∧ ∀ m, m < nM → ∀ t, nx m (xs.getD i 0) = some t → ∃ j b, j < xs.length ∧ xs.getD j 0 = t ∧ wt j = some b ∧ b ≤ a + c m) ∧
  (∀ i j a b, i < xs.length → j < xs.length → dn i = true → dn j = false → wt i = some a → wt j = some b → a ≤ b)
/-- within a pass: the place p is gone through, its moves below m0 are weighed -/
def DJm (nM : Nat) (nx : Nat → Int32 → Option Int32) (c : Nat → Nat) (s : Int32) (xs : List Int32) (wt : Nat → Option Nat) (dn : Nat → Bool) (p ap m0 : Nat) : Prop :=
  (0 < xs.length ∧ xs.getD 0 0 = s ∧ wt 0 = some 0) ∧ (∀ i, i < xs.length → ∀ v, wt i = some v → Pth nM nx c s (xs.getD i 0) v) ∧
  (∀ i, i < xs.length → dn i = true → ∃ a, wt i = some a ∧ a ≤ ap ∧ ∀ m, m < nM → (i = p → m < m0) → ∀ t, nx m (xs.getD i 0) = some t → ∃ j b, j < xs.length ∧ xs.getD j 0 = t ∧ wt j = some b ∧ b ≤ a + c m) ∧
  (∀ j b, j < xs.length → dn j = false → wt j = some b → ap ≤ b) ∧ (p < xs.length ∧ dn p = true ∧ wt p = some ap)
theorem DJ.path {nM : Nat} {nx : Nat → Int32 → Option Int32} {c : Nat → Nat} {s : Int32} {xs : List Int32} {wt : Nat → Option Nat} {dn : Nat → Bool} (h : DJ nM nx c s xs wt dn) {t : Int32} {v : Nat} (hp : Pth nM nx c s t v) : ∃ j b, j < xs.length ∧ wt j = some b ∧ b ≤ v ∧ (dn j = true → xs.getD j 0 = t) := by
  obtain ⟨⟨h0, h1, h2⟩, h3, h4, h5⟩ := h
  refine hp (fun t v => ∃ j b, j < xs.length ∧ wt j = some b ∧ b ≤ v ∧ (dn j = true → xs.getD j 0 = t)) ?_ ?_
  · exact ⟨0, 0, h0, h2, Nat.le_refl _, fun _ => h1⟩
  · intro x y v m hm ih e
    obtain ⟨j, b, q1, q2, q3, q4⟩ := ih
    cases hd : dn j with
    | false => exact ⟨j, b, q1, q2, by omega, fun z => by rw [hd] at z; cases z⟩
    | true =>
      obtain ⟨a, w1, w2⟩ := h4 j q1 hd
      rw [q2] at w1
      cases w1
      rw [← q4 hd] at e
      obtain ⟨j', b', r1, r2, r3, r4⟩ := w2 m hm y e
      exact ⟨j', b', r1, r3, by omega, fun _ => r2⟩
theorem DJ.start {nM : Nat} {nx : Nat → Int32 → Option Int32} {c : Nat → Nat} {s : Int32} {xs : List Int32} {wt : Nat → Option Nat} {dn : Nat → Bool} (h : DJ nM nx c s xs wt dn) {p ap : Nat} (hp : p < xs.length) (hd : dn p = false) (hw : wt p = some ap) (hl : ∀ j b, j < xs.length → dn j = false → wt j = some b → ap ≤ b) : DJm nM nx c s xs wt (va_up dn p true) p ap 0 := by
  obtain ⟨h1, h3, h4, h5⟩ := h
  refine ⟨h1, h3, fun i hi q => ?_, fun j b hj q r => ?_, hp, up_s _ _ _, hw⟩
  · by_cases e : i = p
    · subst e
      exact ⟨ap, hw, Nat.le_refl _, fun m hm z => absurd (z rfl) (Nat.not_lt_zero m)⟩
    · rw [up_n e] at q
      obtain ⟨a, w1, w2⟩ := h4 i hi q
      exact ⟨a, w1, h5 i p a ap hi hp q hd w1 hw, fun m hm _ => w2 m hm⟩
  · by_cases e : j = p
    · subst e; rw [up_s] at q; cases q
    · rw [up_n e] at q; exact hl j b hj q r
theorem DJm.fin {nM : Nat} {nx : Nat → Int32 → Option Int32} {c : Nat → Nat} {s : Int32} {xs : List Int32} {wt : Nat → Option Nat} {dn : Nat → Bool} {p ap : Nat} (h : DJm nM nx c s xs wt dn p ap nM) : DJ nM nx c s xs wt dn := by
  obtain ⟨h1, h3, h4, h5, _⟩ := h
  refine ⟨h1, h3, fun i hi q => ?_, fun i j a b hi hj q r w1 w2 => ?_⟩
  · obtain ⟨a, w1, _, w2⟩ := h4 i hi q
    exact ⟨a, w1, fun m hm => w2 m hm (fun _ => hm)⟩
  · obtain ⟨a', w3, w4, _⟩ := h4 i hi q
    rw [w1] at w3
    cases w3
    exact Nat.le_trans w4 (h5 j b hj r w2)
theorem DJm.skip {nM : Nat} {nx : Nat → Int32 → Option Int32} {c : Nat → Nat} {s : Int32} {xs : List Int32} {wt : Nat → Option Nat} {dn : Nat → Bool} {p ap m : Nat} (h : DJm nM nx c s xs wt dn p ap m) (hs : ∀ t, nx m (xs.getD p 0) = some t → ∃ j b, j < xs.length ∧ xs.getD j 0 = t ∧ wt j = some b ∧ b ≤ ap + c m) : DJm nM nx c s xs wt dn p ap (m + 1) := by
  obtain ⟨h1, h3, h4, h5, h6⟩ := h
  refine ⟨h1, h3, fun i hi q => ?_, h5, h6⟩
  obtain ⟨a, w1, w2, w3⟩ := h4 i hi q
  refine ⟨a, w1, w2, fun m' hm z t e => ?_⟩
  by_cases y : i = p ∧ m' = m
  · obtain ⟨y1, y2⟩ := y
    subst y1; subst y2
    rw [h6.2.2] at w1
    cases w1
    exact hs t e
  · exact w3 m' hm (fun u => by have := z u; omega) t e
/-- a weight is set: of a place that is there, or of a new one behind the last -/
theorem DJm.upd {nM : Nat} {nx : Nat → Int32 → Option Int32} {c : Nat → Nat} {s : Int32} {xs xs' : List Int32} {wt : Nat → Option Nat} {dn dn' : Nat → Bool} {p ap m k : Nat} {t : Int32} (h : DJm nM nx c s xs wt dn p ap m) (hm : m < nM) (e : nx m (xs.getD p 0) = some t) (hx : xs.length ≤ xs'.length ∧ (∀ i, i < xs.length → xs'.getD i 0 = xs.getD i 0) ∧ ∀ i, xs.length ≤ i → i < xs'.length → i = k) (hk : k < xs'.length) (hkt : xs'.getD k 0 = t) (hd : dn' k = false ∧ ∀ i, i ≠ k → dn' i = dn i) (ho : k < xs.length → dn k = false ∧ (wt k = none ∨ ∃ b, wt k = some b ∧ ap + c m ≤ b)) : DJm nM nx c s xs' (va_up wt k (some (ap + c m))) dn' p ap (m + 1) := by
  obtain ⟨⟨h0, h1, h2⟩, h3, h4, h5, h6, h7, h8⟩ := h
  have pk : p ≠ k := fun z => by subst z; have := (ho h6).1; rw [h7] at this; cases this
  have old : ∀ i, i < xs'.length → i ≠ k → i < xs.length := fun i hi q => by
    rcases Nat.lt_or_ge i xs.length with z | z
    · exact z
    · exact absurd (hx.2.2 i z hi) q
  refine ⟨⟨by omega, by rw [hx.2.1 0 h0]; exact h1, ?_⟩, fun i hi v q => ?_, fun i hi q => ?_, fun j b hj q r => ?_, by omega, by rw [hd.2 p pk]; exact h7, by rw [up_n pk]; exact h8⟩
  · by_cases z : 0 = k
    · subst z
      rcases (ho h0).2 with y | ⟨b, y1, y2⟩
      · rw [h2] at y; cases y
      · rw [h2] at y1
        cases y1
        rw [up_s, show ap + c m = 0 by omega]
    · rw [up_n z]; exact h2
  · by_cases z : i = k
    · subst z
      rw [up_s] at q
      cases q
      rw [hkt]
      exact (h3 p h6 ap h8).cons hm e
    · rw [up_n z] at q
      rw [hx.2.1 i (old i hi z)]
      exact h3 i (old i hi z) v q
  · have ik : i ≠ k := fun z => by subst z; rw [hd.1] at q; cases q
    rw [hd.2 i ik] at q
    have hi' := old i hi ik
    obtain ⟨a, w1, w2, w3⟩ := h4 i hi' q
    refine ⟨a, by rw [up_n ik]; exact w1, w2, fun m' hm' z t' e' => ?_⟩
    rw [hx.2.1 i hi'] at e'
    by_cases y : i = p ∧ m' = m
    · obtain ⟨y1, y2⟩ := y
      subst y1; subst y2
      rw [h8] at w1
      cases w1
      rw [e] at e'
      cases e'
      exact ⟨k, ap + c m', hk, hkt, up_s _ _ _, Nat.le_refl _⟩
    · obtain ⟨j, b, r1, r2, r3, r4⟩ := w3 m' hm' (fun u => by have := z u; omega) t' e'
      by_cases jk : j = k
      · subst jk
        refine ⟨j, ap + c m, hk, by rw [hkt, ← r2, ← hkt, hx.2.1 j r1], up_s _ _ _, ?_⟩
        rcases (ho r1).2 with y | ⟨b', y1, y2⟩
        · rw [r3] at y; cases y
        · rw [r3] at y1; cases y1; omega
      · exact ⟨j, b, by omega, by rw [hx.2.1 j r1]; exact r2, by rw [up_n jk]; exact r3, r4⟩
  · by_cases z : j = k
    · subst z
      rw [up_s] at r
      cases r
      omega
    · rw [hd.2 j z] at q
      rw [up_n z] at r
      exact h5 j b (old j hj z) q r
theorem DJ.rows {nM : Nat} {nx : Nat → Int32 → Option Int32} {c : Nat → Nat} {s : Int32} {xs : List Int32} {wt : Nat → Option Nat} {dn : Nat → Bool} (h : DJ nM nx c s xs wt dn) (ha : ∀ j, j < xs.length → dn j = false → wt j = none) {t : Int32} {v : Nat} (hp : Pth nM nx c s t v) : ∃ j b, j < xs.length ∧ wt j = some b ∧ b ≤ v ∧ dn j = true ∧ xs.getD j 0 = t := by
  obtain ⟨j, b, q1, q2, q3, q4⟩ := h.path hp
  cases hd : dn j with
  | false => rw [ha j q1 hd] at q2; cases q2
  | true => exact ⟨j, b, q1, q2, q3, hd, q4 hd⟩
theorem DJ.found {nM : Nat} {nx : Nat → Int32 → Option Int32} {c : Nat → Nat} {s : Int32} {xs : List Int32} {wt : Nat → Option Nat} {dn : Nat → Bool} {w : Int32 → Bool} (h : DJ nM nx c s xs wt dn) {p ap : Nat} (hp : p < xs.length) (hw : wt p = some ap) (hl : ∀ j b, j < xs.length → dn j = false → wt j = some b → ap ≤ b) (hy : w (xs.getD p 0) = true) (hn : ∀ i, i < xs.length → dn i = true → w (xs.getD i 0) = false) (hf : ∃ xs : List Int32, xs.length ≤ 500 ∧ ∀ t, Rch nM nx s t → t ∈ xs) : LeastS nM nx c w s (nI ap) := by
  refine Or.inr ⟨hf, Or.inr ⟨ap, xs.getD p 0, h.2.1 p hp ap hw, hy, fun t' v' p' q' => ?_, rfl⟩⟩
  obtain ⟨j, b, q1, q2, q3, q4⟩ := h.path p'
  cases hd : dn j with
  | false => exact Nat.le_trans (hl j b q1 hd q2) q3
  | true =>
    have := hn j q1 hd
    rw [q4 hd, q'] at this
    cases this
theorem DJ.nothing {nM : Nat} {nx : Nat → Int32 → Option Int32} {c : Nat → Nat} {s : Int32} {xs : List Int32} {wt : Nat → Option Nat} {dn : Nat → Bool} {w : Int32 → Bool} (h : DJ nM nx c s xs wt dn) (ha : ∀ j, j < xs.length → dn j = false → wt j = none) (hn : ∀ i, i < xs.length → dn i = true → w (xs.getD i 0) = false) (hf : ∃ xs : List Int32, xs.length ≤ 500 ∧ ∀ t, Rch nM nx s t → t ∈ xs) : LeastS nM nx c w s (-2) := by
  refine Or.inr ⟨hf, Or.inl ⟨fun t r => ?_, rfl⟩⟩
  obtain ⟨v, hv⟩ := r.pth c
  obtain ⟨j, b, q1, q2, q3, q4, q5⟩ := h.rows ha hv
  rw [← q5]
  exact hn j q1 q4
def bstI (o : Option Nat) : Int32 := match o with | none => -2 | some v => nI v
/-- the best so far, of those gone through -/
def DJb (w : Int32 → Bool) (xs : List Int32) (wt : Nat → Option Nat) (dn : Nat → Bool) : Option Nat → Prop
  | none => ∀ i, i < xs.length → dn i = true → w (xs.getD i 0) = false
  | some v => (∃ i, i < xs.length ∧ dn i = true ∧ w (xs.getD i 0) = true ∧ wt i = some v) ∧ ∀ i b, i < xs.length → dn i = true → w (xs.getD i 0) = true → wt i = some b → v ≤ b
theorem DJ.ended {nM : Nat} {nx : Nat → Int32 → Option Int32} {c : Nat → Nat} {s : Int32} {xs : List Int32} {wt : Nat → Option Nat} {dn : Nat → Bool} {w : Int32 → Bool} (h : DJ nM nx c s xs wt dn) (ha : ∀ j, j < xs.length → dn j = true) (hl : xs.length ≤ 500) {o : Option Nat} (hb : DJb w xs wt dn o) : LeastS nM nx c w s (bstI o) := by
  have ha' : ∀ j, j < xs.length → dn j = false → wt j = none := fun j hj q => by rw [ha j hj] at q; cases q
  have hf : ∃ xs : List Int32, xs.length ≤ 500 ∧ ∀ t, Rch nM nx s t → t ∈ xs := ⟨xs, hl, fun t r => by
    obtain ⟨v, hv⟩ := r.pth c
    obtain ⟨j, b, q1, q2, q3, q4, q5⟩ := h.rows ha' hv
    rw [← q5]; exact getD_mem q1⟩
  cases o with
  | none => exact h.nothing ha' hb hf
  | some v =>
    obtain ⟨⟨i, i1, i2, i3, i4⟩, m⟩ := hb
    refine Or.inr ⟨hf, Or.inr ⟨v, xs.getD i 0, h.2.1 i i1 v i4, i3, fun t' v' p' q' => ?_, rfl⟩⟩
    obtain ⟨j, b, q1, q2, q3, q4, q5⟩ := h.rows ha' p'
    rw [← q5] at q'
    exact Nat.le_trans (m j b q1 q4 q' q2) q3
