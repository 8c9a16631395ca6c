/-! pure helpers: truth values, lists out of functions, hash tables by linear probing, bits -/
def b2i (b : Bool) : Int32 := if b then 1 else 0
theorem b2i_01 (b : Bool) : b2i b = 0 ∨ b2i b = 1 := by cases b <;> simp [b2i]
theorem b2i_t : b2i true = 1 := rfl
theorem b2i_f : b2i false = 0 := rfl
theorem b2i_eq0 (b : Bool) : (b2i b = 0) ↔ b = false := by cases b <;> simp [b2i]
theorem b2i_eq1 (b : Bool) : (b2i b = 1) ↔ b = true := by cases b <;> simp [b2i]
theorem ck_b2i (b : Bool) (k : Option ej_R) : ckk (b2i b = 0 ∨ b2i b = 1) k = k := ckk_t (b2i_01 b) k
theorem nI_lit (n : Nat) : nI n = Int32.ofNat n := rfl
def lst {α : Type} (f : Nat → α) (n : Nat) : List α := (List.range n).map f
theorem lst_len {α : Type} (f : Nat → α) (n : Nat) : (lst f n).length = n := by simp [lst]
theorem lst_0 {α : Type} (f : Nat → α) : lst f 0 = [] := rfl
theorem lst_succ {α : Type} (f : Nat → α) (n : Nat) : lst f (n + 1) = lst f n ++ [f n] := by simp [lst, List.range_succ]
theorem lst_get {α : Type} {f : Nat → α} {n k : Nat} (h : k < n) (d : α) : (lst f n).getD k d = f k := by
  simp [lst, List.getD, h]
theorem lst_get_ge {α : Type} {f : Nat → α} {n k : Nat} (h : n ≤ k) (d : α) : (lst f n).getD k d = d := by
  simp [lst, List.getD, h]
theorem lst_congr {α : Type} {f g : Nat → α} {n : Nat} (h : ∀ k, k < n → f k = g k) : lst f n = lst g n := by
  unfold lst
  apply List.map_congr_left
  intro a ha
  exact h a (List.mem_range.mp ha)
theorem lst_ext {α : Type} {f g : Nat → α} {n : Nat} (h : lst f n = lst g n) : ∀ k, k < n → f k = g k := by
  intro k hk
  rw [← lst_get (f := f) hk (f 0), h, lst_get hk]
theorem lst_inj {α : Type} {f g : Nat → α} {n m : Nat} (h : lst f n = lst g m) : n = m := by
  have := congrArg List.length h
  simpa [lst_len] using this
theorem mem_lst {α : Type} {f : Nat → α} {n : Nat} {x : α} : x ∈ lst f n ↔ ∃ k, k < n ∧ f k = x := by
  simp [lst]
theorem up_s {α : Type} (f : Nat → α) (k : Nat) (v : α) : va_up f k v k = v := by simp [va_upe]
theorem up_n {α : Type} {f : Nat → α} {k j : Nat} {v : α} (h : j ≠ k) : va_up f k v j = f j := by simp [va_upe, h]
theorem up_self {α : Type} (f : Nat → α) (k : Nat) : va_up f k (f k) = f := by
  funext j
  by_cases h : j = k
  · subst h; simp [va_upe]
  · simp [va_upe, h]
theorem lst_up_ge {α : Type} {f : Nat → α} {n k : Nat} {v : α} (h : n ≤ k) : lst (va_up f k v) n = lst f n :=
  lst_congr fun j hj => up_n (by omega)
theorem lst_up_add {α : Type} (f : Nat → α) (n : Nat) (v : α) : lst (va_up f n v) (n + 1) = lst f n ++ [v] := by
  rw [lst_succ, lst_up_ge (Nat.le_refl n), up_s]
theorem lst_up_set {α : Type} (f : Nat → α) (n k : Nat) (v : α) : lst (va_up f k v) n = (lst f n).set k v := by
  apply List.ext_getElem
  · simp [lst]
  · intro i h1 h2
    simp [lst, List.getElem_set, va_upe]
    by_cases h : i = k
    · simp [h]
    · simp [h, Ne.symm h]
/-! no two alike, within another list: not longer -/
theorem nodup_sub_len {α : Type} : ∀ (xs ys : List α), xs.Nodup → (∀ x, x ∈ xs → x ∈ ys) → xs.length ≤ ys.length
  | [], _, _, _ => Nat.zero_le _
  | x :: r, ys, hn, hs => by
    have hx : x ∈ ys := hs x (List.mem_cons_self)
    obtain ⟨a, b, rfl⟩ := List.append_of_mem hx
    have hn' := List.nodup_cons.mp hn
    have h := nodup_sub_len r (a ++ b) hn'.2 (by
      intro y hy
      have h1 := hs y (List.mem_cons_of_mem _ hy)
      simp only [List.mem_append, List.mem_cons] at h1 ⊢
      rcases h1 with h1 | h1 | h1
      · exact Or.inl h1
      · subst h1; exact absurd hy hn'.1
      · exact Or.inr h1)
    simp only [List.length_append, List.length_cons] at h ⊢
    omega
/-! hash tables with linear probing: 'sl q' is the place of what stands there, plus one, or 0 -/
def cnz (sl : Nat → Nat) : Nat → Nat
  | 0 => 0
  | n + 1 => cnz sl n + (if sl n = 0 then 0 else 1)
theorem cnz_le (sl : Nat → Nat) : ∀ n, cnz sl n ≤ n
  | 0 => Nat.le_refl 0
  | n + 1 => by
    have := cnz_le sl n
    unfold cnz
    split <;> omega
theorem cnz_free (sl : Nat → Nat) : ∀ n, cnz sl n < n → ∃ q, q < n ∧ sl q = 0
  | 0, h => absurd h (Nat.lt_irrefl 0)
  | n + 1, h => by
    by_cases h0 : sl n = 0
    · exact ⟨n, Nat.lt_succ_self n, h0⟩
    · unfold cnz at h
      rw [if_neg h0] at h
      obtain ⟨q, hq, h1⟩ := cnz_free sl n (by omega)
      exact ⟨q, by omega, h1⟩
theorem cnz_up_ge {sl : Nat → Nat} {q v : Nat} : ∀ n, n ≤ q → cnz (va_up sl q v) n = cnz sl n
  | 0, _ => rfl
  | n + 1, h => by
    unfold cnz
    rw [cnz_up_ge n (by omega), up_n (by omega)]
theorem cnz_up {sl : Nat → Nat} {q v : Nat} : ∀ n, q < n → cnz (va_up sl q v) n + (if sl q = 0 then 0 else 1) = cnz sl n + (if v = 0 then 0 else 1)
  | 0, h => absurd h (Nat.not_lt_zero q)
  | n + 1, h => by
    unfold cnz
    by_cases hq : q = n
    · subst hq
      rw [cnz_up_ge q (Nat.le_refl q), up_s]
      omega
    · have := cnz_up (sl := sl) (v := v) n (by omega : q < n)
      rw [up_n (Ne.symm hq)]
      omega
theorem cnz_0 {sl : Nat → Nat} : ∀ n, (∀ q, q < n → sl q = 0) → cnz sl n = 0
  | 0, _ => rfl
  | n + 1, h => by
    unfold cnz
    rw [cnz_0 n (fun q hq => h q (by omega)), if_pos (h n (Nat.lt_succ_self n))]
def prb (N : Nat) (h : Int32 → Nat) (s : Int32) (i : Nat) : Nat := (h s + i) % N
def Tab (N : Nat) (h : Int32 → Nat) (sl : Nat → Nat) (xs : Nat → Int32) (n : Nat) : Prop :=
  (∀ q, q < N → sl q ≤ n) ∧ cnz sl N = n ∧ (∀ q r, q < N → r < N → sl q = sl r → sl q ≠ 0 → q = r) ∧
  ∀ k, k < n → ∃ i, i < N ∧ sl (prb N h (xs k) i) = k + 1 ∧ ∀ j, j < i → 1 ≤ sl (prb N h (xs k) j) ∧ sl (prb N h (xs k) j) ≤ k
theorem prb_lt {N : Nat} (hN : 0 < N) (h : Int32 → Nat) (s : Int32) (i : Nat) : prb N h s i < N := Nat.mod_lt _ hN
theorem prb_next {N : Nat} (hN : 0 < N) (h : Int32 → Nat) (s : Int32) (i : Nat) : prb N h s (i + 1) = if prb N h s i + 1 < N then prb N h s i + 1 else 0 := by
  unfold prb
  have h1 := Nat.mod_lt (h s + i) hN
  have h2 : h s + (i + 1) = h s + i + 1 := by omega
  rw [h2, Nat.add_mod]
  by_cases h3 : (h s + i) % N + 1 < N
  · rw [if_pos h3]
    rcases Nat.lt_or_ge 1 N with h4 | h4
    · rw [Nat.mod_eq_of_lt h4, Nat.mod_eq_of_lt h3]
    · omega
  · rw [if_neg h3]
    have h5 : (h s + i) % N = N - 1 := by omega
    rcases Nat.lt_or_ge 1 N with h4 | h4
    · rw [Nat.mod_eq_of_lt h4, h5]
      have : N - 1 + 1 = N := by omega
      rw [this, Nat.mod_self]
    · have : N = 1 := by omega
      subst this
      exact Nat.mod_one _
theorem prb_0 {N : Nat} {h : Int32 → Nat} {s : Int32} (hs : h s < N) : prb N h s 0 = h s := Nat.mod_eq_of_lt hs
theorem prb_all {N : Nat} (h : Int32 → Nat) (s : Int32) (hs : h s < N) {q : Nat} (hq : q < N) : ∃ i, i < N ∧ prb N h s i = q := by
  by_cases h1 : h s ≤ q
  · refine ⟨q - h s, by omega, ?_⟩
    unfold prb
    have : h s + (q - h s) = q := by omega
    rw [this, Nat.mod_eq_of_lt hq]
  · refine ⟨q + N - h s, by omega, ?_⟩
    unfold prb
    have : h s + (q + N - h s) = q + N := by omega
    rw [this, Nat.add_mod_right, Nat.mod_eq_of_lt hq]
theorem Tab.emp {N : Nat} {h : Int32 → Nat} {sl : Nat → Nat} (xs : Nat → Int32) (h0 : ∀ q, q < N → sl q = 0) : Tab N h sl xs 0 :=
  ⟨fun q hq => by rw [h0 q hq]; exact Nat.le_refl 0, cnz_0 N h0, fun q r hq _ _ h2 => absurd (h0 q hq) h2, fun k hk => absurd hk (Nat.not_lt_zero k)⟩
theorem Tab.zero {N : Nat} {h : Int32 → Nat} {sl : Nat → Nat} {xs : Nat → Int32} (t : Tab N h sl xs 0) : ∀ q, q < N → sl q = 0 := fun q hq => Nat.le_zero.mp (t.1 q hq)
theorem Tab.congr {N : Nat} {h : Int32 → Nat} {sl sl' : Nat → Nat} {xs xs' : Nat → Int32} {n : Nat} (hN : 0 < N) (t : Tab N h sl xs n) (h1 : ∀ q, q < N → sl' q = sl q) (h2 : ∀ k, k < n → xs' k = xs k) : Tab N h sl' xs' n := by
  obtain ⟨a, b, c, d⟩ := t
  refine ⟨fun q hq => by rw [h1 q hq]; exact a q hq, ?_, fun q r hq hr e e0 => c q r hq hr (by rw [← h1 q hq, ← h1 r hr]; exact e) (by rw [← h1 q hq]; exact e0), ?_⟩
  · rw [← b]
    clear a b c d h2
    induction N with
    | zero => rfl
    | succ m ih =>
      unfold cnz
      rw [h1 m (Nat.lt_succ_self m)]
      by_cases hm : 0 < m
      · rw [ih hm (fun q hq => h1 q (by omega))]
      · have : m = 0 := by omega
        subst this; rfl
  · intro k hk
    obtain ⟨i, hi, e, f⟩ := d k hk
    refine ⟨i, hi, ?_, ?_⟩
    · rw [h2 k hk, h1 _ (prb_lt hN h _ _)]; exact e
    · intro j hj
      rw [h2 k hk, h1 _ (prb_lt hN h _ _)]
      exact f j hj
/-- where the search for s ends: a free slot, or its own -/
theorem Tab.find {N : Nat} {h : Int32 → Nat} {sl : Nat → Nat} {xs : Nat → Int32} {n : Nat} (t : Tab N h sl xs n) (hn : n < N) (s : Int32) (hs : h s < N)
    (hd : ∀ a b, a < n → b < n → xs a = xs b → a = b) :
    ∃ i, i < N ∧ (sl (prb N h s i) = 0 ∨ (sl (prb N h s i) ≠ 0 ∧ xs (sl (prb N h s i) - 1) = s)) ∧ (∀ j, j < i → sl (prb N h s j) ≠ 0 ∧ xs (sl (prb N h s j) - 1) ≠ s) ∧
      (∀ k, k < n → xs k = s → sl (prb N h s i) = k + 1) ∧ ((∀ k, k < n → xs k ≠ s) → sl (prb N h s i) = 0) := by
  obtain ⟨q, hq, h0⟩ := cnz_free sl N (by rw [t.2.1]; exact hn)
  obtain ⟨i0, hi0, e0⟩ := prb_all h s hs hq
  obtain ⟨i, hi, hm⟩ := pk_least (fun i => sl (prb N h s i) = 0 ∨ (sl (prb N h s i) ≠ 0 ∧ xs (sl (prb N h s i) - 1) = s)) ⟨i0, Or.inl (by rw [e0]; exact h0)⟩
  have hiN : i < N := by
    rcases Nat.lt_or_ge i0 i with h1 | h1
    · exact absurd (Or.inl (by rw [e0]; exact h0)) (hm i0 h1)
    · omega
  have hN : 0 < N := by omega
  refine ⟨i, hiN, hi, fun j hj => ?_, ?_, ?_⟩
  · have h2 := hm j hj
    have h3 : sl (prb N h s j) ≠ 0 := fun e => h2 (Or.inl e)
    exact ⟨h3, fun e => h2 (Or.inr ⟨h3, e⟩)⟩
  · intro k hk ek
    obtain ⟨ik, hik, e1, e2⟩ := t.2.2.2 k hk
    rw [ek] at e1 e2
    rcases Nat.lt_trichotomy i ik with h1 | h1 | h1
    · obtain ⟨g1, g2⟩ := e2 i h1
      rcases hi with g | ⟨_, g⟩
      · omega
      · have := hd (sl (prb N h s i) - 1) k (by omega) hk (by rw [g, ek])
        omega
    · rw [h1]; exact e1
    · have g := hm ik h1
      exact absurd (Or.inr ⟨by omega, by rw [e1]; exact ek⟩) g
  · intro hno
    rcases hi with g | ⟨g0, g⟩
    · exact g
    · have := t.1 _ (prb_lt hN h s i)
      exact absurd g (hno _ (by omega))
theorem Tab.ins {N : Nat} {h : Int32 → Nat} {sl : Nat → Nat} {xs : Nat → Int32} {n : Nat} (t : Tab N h sl xs n) (s : Int32) {i : Nat} (hi : i < N)
    (h0 : sl (prb N h s i) = 0) (hj : ∀ j, j < i → sl (prb N h s j) ≠ 0) : Tab N h (va_up sl (prb N h s i) (n + 1)) (va_up xs n s) (n + 1) := by
  obtain ⟨a, b, c, d⟩ := t
  have hN : 0 < N := by omega
  have hp := prb_lt hN h s i
  refine ⟨?_, ?_, ?_, ?_⟩
  · intro q hq
    have := a q hq
    rw [va_upe]
    split <;> omega
  · have := cnz_up (sl := sl) (v := n + 1) N hp
    rw [if_pos h0, if_neg (by omega)] at this
    omega
  · intro q r hq hr e e0
    have hq' := a q hq
    have hr' := a r hr
    rw [va_upe, va_upe] at e
    rw [va_upe] at e0
    by_cases g1 : q = prb N h s i
    · by_cases g2 : r = prb N h s i
      · rw [g1, g2]
      · rw [if_pos g1, if_neg g2] at e; omega
    · by_cases g2 : r = prb N h s i
      · rw [if_neg g1, if_pos g2] at e; omega
      · rw [if_neg g1, if_neg g2] at e
        rw [if_neg g1] at e0
        exact c q r hq hr e e0
  · intro k hk
    by_cases hkn : k = n
    · subst hkn
      refine ⟨i, hi, ?_, ?_⟩
      · rw [up_s, up_s]
      · intro j hji
        rw [up_s]
        have g1 := hj j hji
        have g2 : prb N h s j ≠ prb N h s i := fun e => g1 (by rw [e]; exact h0)
        rw [up_n g2]
        have := a _ (prb_lt hN h s j)
        omega
    · obtain ⟨ik, hik, e1, e2⟩ := d k (by omega)
      refine ⟨ik, hik, ?_, ?_⟩
      · rw [up_n hkn]
        have g : prb N h (xs k) ik ≠ prb N h s i := fun e => by rw [e, h0] at e1; omega
        rw [up_n g]; exact e1
      · intro j hji
        rw [up_n hkn]
        have g1 := e2 j hji
        have g : prb N h (xs k) j ≠ prb N h s i := fun e => by rw [e, h0] at g1; omega
        rw [up_n g]; exact g1
theorem Tab.del {N : Nat} {h : Int32 → Nat} {sl : Nat → Nat} {xs : Nat → Int32} {n : Nat} (hN : 0 < N) (t : Tab N h sl xs (n + 1)) {q : Nat} (hq : q < N) (hv : sl q = n + 1) : Tab N h (va_up sl q 0) xs n := by
  obtain ⟨a, b, c, d⟩ := t
  refine ⟨?_, ?_, ?_, ?_⟩
  · intro r hr
    rw [va_upe]
    by_cases g : r = q
    · rw [if_pos g]; omega
    · rw [if_neg g]
      have g1 := a r hr
      by_cases g2 : sl r = n + 1
      · exact absurd (c r q hr hq (by rw [g2, hv]) (by omega)) g
      · omega
  · have := cnz_up (sl := sl) (v := 0) N hq
    rw [if_pos rfl, if_neg (by omega)] at this
    omega
  · intro r r' hr hr' e e0
    rw [va_upe, va_upe] at e
    rw [va_upe] at e0
    by_cases g1 : r = q
    · rw [if_pos g1] at e0; exact absurd rfl e0
    · rw [if_neg g1] at e e0
      by_cases g2 : r' = q
      · rw [if_pos g2] at e; exact absurd e e0
      · rw [if_neg g2] at e
        exact c r r' hr hr' e e0
  · intro k hk
    obtain ⟨i, hi, e1, e2⟩ := d k (by omega)
    refine ⟨i, hi, ?_, ?_⟩
    · have g : prb N h (xs k) i ≠ q := fun e => by rw [e, hv] at e1; omega
      rw [up_n g]; exact e1
    · intro j hj
      have g1 := e2 j hj
      have g : prb N h (xs k) j ≠ q := fun e => by rw [e, hv] at g1; omega
      rw [up_n g]; exact g1
