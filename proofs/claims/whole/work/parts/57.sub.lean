/-! all sets within a set, one after the other; the first of the least -/
def dpn : Nat → Nat → Nat → Nat
  | 0, _, _ => 0
  | n + 1, A, i => if A % 2 = 1 then i % 2 + 2 * dpn n (A / 2) (i / 2) else 2 * dpn n (A / 2) i
def nxn (n A s : Nat) : Nat := ((s + 2 ^ n - A) % 2 ^ n) &&& A
theorem pcn_s (n A : Nat) : pcn (n + 1) A = A % 2 + pcn n (A / 2) := rfl
theorem and_sp (x y : Nat) : x &&& y = 2 * (x / 2 &&& y / 2) + (x % 2) * (y % 2) := by
  have h := and2 (x / 2) (x % 2) (y / 2) (y % 2) (Nat.mod_lt _ (by decide)) (Nat.mod_lt _ (by decide))
  rw [show 2 * (x / 2) + x % 2 = x by omega, show 2 * (y / 2) + y % 2 = y by omega] at h
  exact h
theorem dpn_le : ∀ n A i, A < 2 ^ n → dpn n A i ≤ A
  | 0, A, i, h => by simp at h; subst h; exact Nat.le_refl 0
  | n + 1, A, i, h => by
    have ih := fun j => dpn_le n (A / 2) j (by rw [Nat.pow_succ] at h; omega)
    unfold dpn
    split
    · have := ih (i / 2); omega
    · have := ih i; omega
theorem dpn_sub : ∀ n A i, A < 2 ^ n → dpn n A i &&& A = dpn n A i
  | 0, A, i, h => by simp [dpn]
  | n + 1, A, i, h => by
    have ih := fun j => dpn_sub n (A / 2) j (by rw [Nat.pow_succ] at h; omega)
    unfold dpn
    split
    · rename_i q
      rw [and_sp, show (i % 2 + 2 * dpn n (A / 2) (i / 2)) / 2 = dpn n (A / 2) (i / 2) by omega, ih, show (i % 2 + 2 * dpn n (A / 2) (i / 2)) % 2 = i % 2 by omega, q]
      omega
    · rename_i q
      rw [and_sp, show 2 * dpn n (A / 2) i / 2 = dpn n (A / 2) i by omega, ih, show 2 * dpn n (A / 2) i % 2 = 0 by omega]
      omega
theorem dpn_comp : ∀ n A i, A < 2 ^ n → (dpn n A i + 2 ^ n - A - 1) &&& A = dpn n A i
  | 0, A, i, h => by simp at h; subst h; simp [dpn]
  | n + 1, A, i, h => by
    rw [Nat.pow_succ] at h
    have hle := fun j => dpn_le n (A / 2) j (by omega)
    have ih := fun j => dpn_comp n (A / 2) j (by omega)
    unfold dpn
    rw [Nat.pow_succ]
    split
    · rename_i q
      have h1 := hle (i / 2)
      have h2 := ih (i / 2)
      generalize dpn n (A / 2) (i / 2) = s at *
      rw [and_sp, show (i % 2 + 2 * s + 2 ^ n * 2 - A - 1) / 2 = s + 2 ^ n - A / 2 - 1 by omega, h2, show (i % 2 + 2 * s + 2 ^ n * 2 - A - 1) % 2 = i % 2 by omega, q]
      omega
    · rename_i q
      have h1 := hle i
      have h2 := ih i
      generalize dpn n (A / 2) i = s at *
      rw [and_sp, show (2 * s + 2 ^ n * 2 - A - 1) / 2 = s + 2 ^ n - A / 2 - 1 by omega, h2, show A % 2 = 0 by omega]
      omega
theorem pow_pc (n A : Nat) : 0 < 2 ^ pcn n A := Nat.two_pow_pos _
theorem nxn_dpn : ∀ n A i, A < 2 ^ n → i < 2 ^ pcn n A → nxn n A (dpn n A i) = if i + 1 < 2 ^ pcn n A then dpn n A (i + 1) else 0
  | 0, A, i, h, hi => by
    simp at h; subst h
    have : i = 0 := by simpa [pcn] using hi
    subst this
    simp [nxn, dpn, pcn]
  | n + 1, A, i, h, hi => by
    have h' := h
    rw [Nat.pow_succ] at h'
    have hle := fun j => dpn_le n (A / 2) j (by omega)
    have hcp := fun j => dpn_comp n (A / 2) j (by omega)
    have ih := fun j hj => nxn_dpn n (A / 2) j (by omega) hj
    have hs := pcn_s n A
    by_cases q : A % 2 = 1
    · have hp : 2 ^ pcn (n + 1) A = 2 * 2 ^ pcn n (A / 2) := by rw [hs, q, Nat.add_comm, Nat.pow_succ]; omega
      rw [hp] at hi ⊢
      have e1 : dpn (n + 1) A i = i % 2 + 2 * dpn n (A / 2) (i / 2) := by show (if A % 2 = 1 then _ else _) = _; rw [if_pos q]
      have e2 : dpn (n + 1) A (i + 1) = (i + 1) % 2 + 2 * dpn n (A / 2) ((i + 1) / 2) := by show (if A % 2 = 1 then _ else _) = _; rw [if_pos q]
      rw [e1, e2]
      unfold nxn
      rw [Nat.pow_succ]
      have h1 := hle (i / 2)
      by_cases c : i % 2 = 0
      · rw [if_pos (by omega), c, show (i + 1) / 2 = i / 2 by omega, show (i + 1) % 2 = 1 by omega]
        have h2 := hcp (i / 2)
        generalize dpn n (A / 2) (i / 2) = s at *
        rw [Nat.mod_eq_of_lt (by omega : 0 + 2 * s + 2 ^ n * 2 - A < 2 ^ n * 2), and_sp, show (0 + 2 * s + 2 ^ n * 2 - A) / 2 = s + 2 ^ n - A / 2 - 1 by omega, h2, show (0 + 2 * s + 2 ^ n * 2 - A) % 2 = 1 by omega, q]
        omega
      · have c1 : i % 2 = 1 := by omega
        have h2 := ih (i / 2) (by omega)
        unfold nxn at h2
        have e3 : (i % 2 + 2 * dpn n (A / 2) (i / 2) + 2 ^ n * 2 - A) % (2 ^ n * 2) = 2 * ((dpn n (A / 2) (i / 2) + 2 ^ n - A / 2) % 2 ^ n) := by
          rw [c1, show 1 + 2 * dpn n (A / 2) (i / 2) + 2 ^ n * 2 - A = 2 * (dpn n (A / 2) (i / 2) + 2 ^ n - A / 2) by omega, Nat.mul_comm (2 ^ n) 2, Nat.mul_mod_mul_left]
        rw [e3, and_sp, show 2 * ((dpn n (A / 2) (i / 2) + 2 ^ n - A / 2) % 2 ^ n) / 2 = (dpn n (A / 2) (i / 2) + 2 ^ n - A / 2) % 2 ^ n by omega, h2, show 2 * ((dpn n (A / 2) (i / 2) + 2 ^ n - A / 2) % 2 ^ n) % 2 = 0 by omega, show (i + 1) / 2 = i / 2 + 1 by omega, show (i + 1) % 2 = 0 by omega]
        by_cases z : i / 2 + 1 < 2 ^ pcn n (A / 2)
        · rw [if_pos z, if_pos (by omega)]; omega
        · rw [if_neg z, if_neg (by omega)]; omega
    · have q0 : A % 2 = 0 := by omega
      have hp : 2 ^ pcn (n + 1) A = 2 ^ pcn n (A / 2) := by rw [hs, q0, Nat.zero_add]
      rw [hp] at hi ⊢
      have e1 : ∀ j, dpn (n + 1) A j = 2 * dpn n (A / 2) j := by intro j; show (if A % 2 = 1 then _ else _) = _; rw [if_neg q]
      rw [e1, e1]
      have h2 := ih i hi
      have h1 := hle i
      unfold nxn at h2 ⊢
      rw [Nat.pow_succ]
      have e3 : (2 * dpn n (A / 2) i + 2 ^ n * 2 - A) % (2 ^ n * 2) = 2 * ((dpn n (A / 2) i + 2 ^ n - A / 2) % 2 ^ n) := by
        rw [show 2 * dpn n (A / 2) i + 2 ^ n * 2 - A = 2 * (dpn n (A / 2) i + 2 ^ n - A / 2) by omega, Nat.mul_comm (2 ^ n) 2, Nat.mul_mod_mul_left]
      rw [e3, and_sp, show 2 * ((dpn n (A / 2) i + 2 ^ n - A / 2) % 2 ^ n) / 2 = (dpn n (A / 2) i + 2 ^ n - A / 2) % 2 ^ n by omega, h2, q0]
      split <;> omega
theorem dpn_0 : ∀ n A, dpn n A 0 = 0
  | 0, _ => rfl
  | n + 1, A => by
    unfold dpn
    rw [show 0 / 2 = 0 from rfl, dpn_0 n]
    split <;> rfl
theorem dpn_pos : ∀ n A i, A < 2 ^ n → i < 2 ^ pcn n A → dpn n A i = 0 → i = 0
  | 0, A, i, h, hi, _ => by simpa [pcn] using hi
  | n + 1, A, i, h, hi, e => by
    rw [Nat.pow_succ] at h
    have hs := pcn_s n A
    unfold dpn at e
    by_cases q : A % 2 = 1
    · rw [if_pos q] at e
      have hp : 2 ^ pcn (n + 1) A = 2 * 2 ^ pcn n (A / 2) := by rw [hs, q, Nat.add_comm, Nat.pow_succ]; omega
      rw [hp] at hi
      have := dpn_pos n (A / 2) (i / 2) (by omega) (by omega) (by omega)
      omega
    · rw [if_neg q] at e
      have hp : 2 ^ pcn (n + 1) A = 2 ^ pcn n (A / 2) := by rw [hs, show A % 2 = 0 by omega, Nat.zero_add]
      rw [hp] at hi
      exact dpn_pos n (A / 2) i (by omega) hi (by omega)
theorem dpn_all : ∀ n A s, A < 2 ^ n → s &&& A = s → ∃ i, i < 2 ^ pcn n A ∧ dpn n A i = s
  | 0, A, s, h, e => by
    simp at h; subst h
    simp at e; subst e
    exact ⟨0, by simp [pcn], rfl⟩
  | n + 1, A, s, h, e => by
    rw [Nat.pow_succ] at h
    have hs := pcn_s n A
    have h2 := and_sp s A
    rw [e] at h2
    have hlo : (s % 2) * (A % 2) = s % 2 ∧ s / 2 &&& A / 2 = s / 2 := by
      have a : s % 2 = 0 ∨ s % 2 = 1 := by omega
      have b : A % 2 = 0 ∨ A % 2 = 1 := by omega
      rcases a with a | a <;> rcases b with b | b <;> rw [a, b] at h2 ⊢ <;> omega
    obtain ⟨i, hi, ei⟩ := dpn_all n (A / 2) (s / 2) (by omega) hlo.2
    by_cases q : A % 2 = 1
    · have hp : 2 ^ pcn (n + 1) A = 2 * 2 ^ pcn n (A / 2) := by rw [hs, q, Nat.add_comm, Nat.pow_succ]; omega
      refine ⟨2 * i + s % 2, by rw [hp]; omega, ?_⟩
      unfold dpn
      rw [if_pos q, show (2 * i + s % 2) / 2 = i by omega, ei]
      omega
    · have hp : 2 ^ pcn (n + 1) A = 2 ^ pcn n (A / 2) := by rw [hs, show A % 2 = 0 by omega, Nat.zero_add]
      refine ⟨i, by rw [hp]; exact hi, ?_⟩
      unfold dpn
      rw [if_neg q, ei]
      have := hlo.1
      rw [show A % 2 = 0 by omega, Nat.mul_zero] at this
      omega
theorem pcn_sub : ∀ n a b, b < 2 ^ n → a &&& b = a → pcn n a ≤ pcn n b ∧ (a ≠ b → pcn n a < pcn n b)
  | 0, a, b, h, e => by
    simp at h; subst h
    simp at e; subst e
    exact ⟨Nat.le_refl _, fun q => absurd rfl q⟩
  | n + 1, a, b, h, e => by
    rw [Nat.pow_succ] at h
    have h2 := and_sp a b
    rw [e] at h2
    have hlo : (a % 2) * (b % 2) = a % 2 ∧ a / 2 &&& b / 2 = a / 2 := by
      have x : a % 2 = 0 ∨ a % 2 = 1 := by omega
      have y : b % 2 = 0 ∨ b % 2 = 1 := by omega
      rcases x with x | x <;> rcases y with y | y <;> rw [x, y] at h2 ⊢ <;> omega
    have ih := pcn_sub n (a / 2) (b / 2) (by omega) hlo.2
    rw [pcn_s, pcn_s]
    have hle : a % 2 ≤ b % 2 := by
      have x : a % 2 = 0 ∨ a % 2 = 1 := by omega
      have y : b % 2 = 0 ∨ b % 2 = 1 := by omega
      rcases x with x | x <;> rcases y with y | y <;> rw [x, y] at hlo ⊢ <;> omega
    refine ⟨by omega, fun q => ?_⟩
    by_cases z : a / 2 = b / 2
    · have : a % 2 ≠ b % 2 := by omega
      have := ih.1
      omega
    · have := ih.2 z
      omega
/-- the same of ints -/
def xS (a : Int32) (i : Nat) : Int32 := nI (dpn 32 a.toBitVec.toNat i)
def cS (a : Int32) : Nat := 2 ^ pc a
theorem xS_nat (a : Int32) (i : Nat) : (xS a i).toBitVec.toNat = dpn 32 a.toBitVec.toNat i := pk_tn (Nat.lt_of_le_of_lt (dpn_le 32 _ i a.toBitVec.isLt) a.toBitVec.isLt)
theorem xS_0 (a : Int32) : xS a 0 = 0 := by unfold xS; rw [dpn_0]; rfl
theorem xS_next (a : Int32) {i : Nat} (hi : i < cS a) : (xS a i - a) &&& a = if i + 1 < cS a then xS a (i + 1) else 0 := by
  have h := nxn_dpn 32 a.toBitVec.toNat i a.toBitVec.isLt hi
  apply Int32.toBitVec_inj.mp
  apply BitVec.eq_of_toNat_eq
  rw [Int32.toBitVec_and, Int32.toBitVec_sub, BitVec.toNat_and, BitVec.toNat_sub, xS_nat]
  unfold nxn at h
  rw [show 2 ^ 32 - a.toBitVec.toNat + dpn 32 a.toBitVec.toNat i = dpn 32 a.toBitVec.toNat i + 2 ^ 32 - a.toBitVec.toNat by have := a.toBitVec.isLt; omega, h]
  show _ = (if i + 1 < 2 ^ pcn 32 a.toBitVec.toNat then xS a (i + 1) else 0).toBitVec.toNat
  split
  · rw [xS_nat]
  · rfl
theorem xS_sub (a : Int32) (i : Nat) : xS a i &&& a = xS a i := by
  apply Int32.toBitVec_inj.mp
  apply BitVec.eq_of_toNat_eq
  rw [Int32.toBitVec_and, BitVec.toNat_and, xS_nat, dpn_sub 32 _ i a.toBitVec.isLt]
theorem nextS_eq {s a : Int32} (h : s &&& a = s) : ((s ||| (a ^^^ -1)) + 1) &&& a = (s - a) &&& a := by
  apply Int32.toBitVec_inj.mp
  have h' : s.toBitVec &&& a.toBitVec = s.toBitVec := by rw [← Int32.toBitVec_and, h]
  have e1 : (-1 : Int32).toBitVec = BitVec.allOnes 32 := by decide
  have e2 : (1 : Int32).toBitVec = 1#32 := by decide
  rw [Int32.toBitVec_and, Int32.toBitVec_and, Int32.toBitVec_add, Int32.toBitVec_or, Int32.toBitVec_xor, Int32.toBitVec_sub, e1, e2, BitVec.xor_allOnes]
  have h3 : s.toBitVec &&& ~~~a.toBitVec = 0#32 := by
    rw [← h', BitVec.and_assoc]
    simp
  rw [← BitVec.add_eq_or_of_and_eq_zero _ _ h3, BitVec.add_assoc, ← BitVec.neg_eq_not_add, ← BitVec.sub_eq_add_neg]
theorem xS_pos (a : Int32) {i : Nat} (hi : i < cS a) (e : xS a i = 0) : i = 0 := by
  apply dpn_pos 32 a.toBitVec.toNat i a.toBitVec.isLt hi
  rw [← xS_nat, e]; rfl
theorem xS_all {a s : Int32} (h : s &&& a = s) : ∃ i, i < cS a ∧ xS a i = s := by
  have h' : s.toBitVec.toNat &&& a.toBitVec.toNat = s.toBitVec.toNat := by rw [← BitVec.toNat_and, ← Int32.toBitVec_and, h]
  obtain ⟨i, hi, e⟩ := dpn_all 32 _ _ a.toBitVec.isLt h'
  refine ⟨i, hi, ?_⟩
  unfold xS
  rw [e, nI_self]
theorem pc_sub {a b : Int32} (h : a &&& b = a) : pc a ≤ pc b ∧ (a ≠ b → pc a < pc b) := by
  have h' : a.toBitVec.toNat &&& b.toBitVec.toNat = a.toBitVec.toNat := by rw [← BitVec.toNat_and, ← Int32.toBitVec_and, h]
  obtain ⟨h1, h2⟩ := pcn_sub 32 _ _ b.toBitVec.isLt h'
  refine ⟨h1, fun q => h2 (fun e => q ?_)⟩
  rw [← nI_self a, ← nI_self b, e]
/-! the first of the least -/
def AM (T : Nat) (ok : Nat → Bool) (sz : Nat → Nat) (r : Option Nat) : Prop := match r with
  | none => ∀ i, i < T → ok i = false
  | some i => i < T ∧ ok i = true ∧ ∀ j, j < T → ok j = true → sz i ≤ sz j ∧ (sz j = sz i → i ≤ j)
theorem AM.uniq {T : Nat} {ok : Nat → Bool} {sz : Nat → Nat} {r r' : Option Nat} (h : AM T ok sz r) (h' : AM T ok sz r') : r = r' := by
  cases r with
  | none =>
    cases r' with
    | none => rfl
    | some j => have := h j h'.1; rw [h'.2.1] at this; cases this
  | some i =>
    cases r' with
    | none => have := h' i h.1; rw [h.2.1] at this; cases this
    | some j =>
      obtain ⟨a1, a2, a3⟩ := h
      obtain ⟨b1, b2, b3⟩ := h'
      have c1 := a3 j b1 b2
      have c2 := b3 i a1 a2
      have e : sz i = sz j := by omega
      have := c1.2 e.symm
      have := c2.2 e
      rw [show i = j by omega]
theorem AM.step {n : Nat} {ok : Nat → Bool} {sz : Nat → Nat} {r : Option Nat} (h : AM n ok sz r) : AM (n + 1) ok sz (if ok n = true ∧ (r = none ∨ ∃ i, r = some i ∧ sz n < sz i) then some n else r) := by
  by_cases q : ok n = true ∧ (r = none ∨ ∃ i, r = some i ∧ sz n < sz i)
  · rw [if_pos q]
    refine ⟨by omega, q.1, fun j hj oj => ?_⟩
    by_cases e : j = n
    · subst e; exact ⟨Nat.le_refl _, fun _ => Nat.le_refl _⟩
    · rcases q.2 with rfl | ⟨i, rfl, hlt⟩
      · have := h j (by omega); rw [oj] at this; cases this
      · have := h.2.2 j (by omega) oj
        exact ⟨by omega, fun z => by omega⟩
  · rw [if_neg q]
    cases r with
    | none =>
      intro i hi
      by_cases e : i = n
      · subst e
        cases o : ok i
        · rfl
        · exact absurd ⟨o, Or.inl rfl⟩ q
      · exact h i (by omega)
    | some i =>
      refine ⟨by have := h.1; omega, h.2.1, fun j hj oj => ?_⟩
      by_cases e : j = n
      · subst e
        have : ¬ sz j < sz i := fun z => q ⟨oj, Or.inr ⟨i, rfl, z⟩⟩
        have := h.1
        exact ⟨by omega, fun _ => by omega⟩
      · exact h.2.2 j (by omega) oj
/-- those alone that are not idle -/
theorem AM.idle {T : Nat} {ok fr : Nat → Bool} {sz : Nat → Nat} (hd : ∀ i, i < T → ok i = true → fr i = false → ∃ j, j < T ∧ ok j = true ∧ sz j < sz i) {r : Option Nat} (h : AM T (fun i => ok i && fr i) sz r) : AM T ok sz r := by
  have key : ∀ n i, sz i ≤ n → i < T → ok i = true → ∃ j, j < T ∧ ok j = true ∧ fr j = true ∧ sz j ≤ sz i ∧ (fr i = false → sz j < sz i) := by
    intro n
    induction n with
    | zero =>
      intro i hn hi oi
      cases fi : fr i
      · obtain ⟨j, hj, oj, hlt⟩ := hd i hi oi fi
        omega
      · exact ⟨i, hi, oi, fi, Nat.le_refl _, fun z => by cases z⟩
    | succ n ih =>
      intro i hn hi oi
      cases fi : fr i
      · obtain ⟨j, hj, oj, hlt⟩ := hd i hi oi fi
        obtain ⟨j', a, b, c, d, _⟩ := ih j (by omega) hj oj
        exact ⟨j', a, b, c, by omega, fun _ => by omega⟩
      · exact ⟨i, hi, oi, fi, Nat.le_refl _, fun z => by cases z⟩
  cases r with
  | none =>
    intro i hi
    cases oi : ok i
    · rfl
    · obtain ⟨j, hj, oj, fj, _⟩ := key (sz i) i (Nat.le_refl _) hi oi
      have : (ok j && fr j) = false := h j hj
      rw [oj, fj] at this
      cases this
  | some i =>
    obtain ⟨h1, h2, h3⟩ := h
    rw [Bool.and_eq_true] at h2
    refine ⟨h1, h2.1, fun j hj oj => ?_⟩
    obtain ⟨j', hj', oj', fj', hle, hlt⟩ := key (sz j) j (Nat.le_refl _) hj oj
    have a := h3 j' hj' (by show (ok j' && fr j') = true; rw [oj', fj']; rfl)
    refine ⟨by omega, fun e => ?_⟩
    cases fj : fr j
    · have := hlt fj
      omega
    · exact (h3 j hj (by show (ok j && fr j) = true; rw [oj, fj]; rfl)).2 e
