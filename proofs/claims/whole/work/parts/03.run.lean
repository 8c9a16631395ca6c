/-! one step goes on at one place, or ends: so the machine is a function without fuel -/
def ej_one (f : ej_K → Option ej_R) : Prop := (∃ o, ∀ K, f K = o) ∨ ∃ p l s m, ∀ K : ej_K, f K = K p l s m
theorem one_c (o : Option ej_R) : ej_one (fun _ => o) := Or.inl ⟨o, fun _ => rfl⟩
theorem one_k (p : Nat) (l : ej_L) (s : List Value) (m : ej_Mem) : ej_one (fun K => K p l s m) := Or.inr ⟨p, l, s, m, fun _ => rfl⟩
theorem one_ite {c : Prop} [Decidable c] {f g : ej_K → Option ej_R} (hf : ej_one f) (hg : ej_one g) : ej_one (fun K => if c then f K else g K) := by
  by_cases h : c
  · simpa [h] using hf
  · simpa [h] using hg
theorem one_ckk {c : Prop} [Decidable c] {f : ej_K → Option ej_R} (hf : ej_one f) : ej_one (fun K => ckk c (f K)) := one_ite hf (one_c none)
theorem one_ckb {j : Int32} {n : Nat} {f : ej_K → Option ej_R} (hf : ej_one f) : ej_one (fun K => ckb j n (f K)) := one_ckk hf
theorem one_uI {st : List Value} {f : Int32 → List Value → ej_K → Option ej_R} (h : ∀ x r, ej_one (f x r)) : ej_one (fun K => uI st (fun x r => f x r K)) := by
  unfold uI; split
  · exact h _ _
  · exact one_c none
theorem one_uL {st : List Value} {f : Int64 → List Value → ej_K → Option ej_R} (h : ∀ x r, ej_one (f x r)) : ej_one (fun K => uL st (fun x r => f x r K)) := by
  unfold uL; split
  · exact h _ _
  · exact one_c none
theorem one_uR {st : List Value} {f : Nat → List Value → ej_K → Option ej_R} (h : ∀ x r, ej_one (f x r)) : ej_one (fun K => uR st (fun x r => f x r K)) := by
  unfold uR; split
  · exact h _ _
  · exact one_c none
theorem one_uQ {st : List Value} {f : Option Nat → List Value → ej_K → Option ej_R} (h : ∀ x r, ej_one (f x r)) : ej_one (fun K => uQ st (fun x r => f x r K)) := by
  unfold uQ; split
  · exact h _ _
  · exact h _ _
  · exact one_c none
theorem one_uV {st : List Value} {f : Value → List Value → ej_K → Option ej_R} (h : ∀ x r, ej_one (f x r)) : ej_one (fun K => uV st (fun x r => f x r K)) := by
  unfold uV; split
  · exact h _ _
  · exact h _ _
  · exact h _ _
  · exact one_c none
theorem one_uW {v : Value} {f : ej_K → Option ej_R} (h : ej_one f) : ej_one (fun K => uW v (f K)) := by
  unfold uW; split
  · exact h
  · exact h
  · exact h
  · exact one_c none
theorem one_ld {ls : ej_L} {i : Nat} {f : Value → ej_K → Option ej_R} (h : ∀ x, ej_one (f x)) : ej_one (fun K => ej_ld ls i (fun x => f x K)) := by
  unfold ej_ld; split
  · exact h _
  · exact one_c none
theorem one_cnd {b : Nat} {x y : Int32} {f g : ej_K → Option ej_R} (hf : ej_one f) (hg : ej_one g) : ej_one (fun K => ej_cnd b x y (f K) (g K)) := by
  unfold ej_cnd; split
  · exact one_ite hf hg
  · exact one_ite hg hf
  · exact one_ite hf hg
  · exact one_ite hf hg
  · exact one_ite hf hg
  · exact one_ite hf hg
theorem one_ckq {M : ej_Mem} {a : Nat} {q : Option Nat} {f : ej_K → Option ej_R} (hf : ej_one f) : ej_one (fun K => ej_ckq M a q (f K)) := by
  unfold ej_ckq; split
  · exact hf
  · exact one_ckk hf
theorem one_ckn {a : Nat} {x : Int32} {f : ej_K → Option ej_R} (hf : ej_one f) : ej_one (fun K => ej_ckn a x (f K)) := by
  unfold ej_ckn; split
  · exact hf
  · exact one_ckk hf
  · exact one_ckk hf
  · exact one_ckk hf
theorem one_q {q : Option Nat} {f g : ej_K → Option ej_R} (hf : ej_one f) (hg : ej_one g) : ej_one (fun K => match q with | none => f K | some _ => g K) := by
  cases q
  · exact hf
  · exact hg
theorem one_swi {x : Int32} {k : Nat → ej_K → Option ej_R} {df : ej_K → Option ej_R} (hk : ∀ t, ej_one (k t)) (hd : ej_one df) : ∀ ts : List (Int32 × Nat), ej_one (fun K => ej_swi x ts (fun t => k t K) (df K))
  | [] => hd
  | (v, t) :: r => by
    show ej_one (fun K => if x = v then k t K else ej_swi x r (fun t => k t K) (df K))
    exact one_ite (hk t) (one_swi hk hd r)
theorem one_deR {q : Option Nat} {f : Nat → ej_K → Option ej_R} (h : ∀ a, ej_one (f a)) : ej_one (fun K => deR q (fun a => f a K)) := by
  unfold deR; split
  · exact h _
  · exact one_c none
theorem one_deQ {q : Option Nat} {g : ej_K → Option ej_R} {f : Nat → ej_K → Option ej_R} (hg : ej_one g) (h : ∀ a, ej_one (f a)) : ej_one (fun K => deQ q (g K) (fun a => f a K)) := by
  unfold deQ; split
  · exact hg
  · exact h _
theorem one_bkV {r : Option ej_R} {f : ej_Mem → ej_K → Option ej_R} (h : ∀ m, ej_one (f m)) : ej_one (fun K => bkV r (fun m => f m K)) := by
  unfold bkV; split
  · exact h _
  · exact one_c none
theorem one_bkI {r : Option ej_R} {f : Int32 → ej_Mem → ej_K → Option ej_R} (h : ∀ x m, ej_one (f x m)) : ej_one (fun K => bkI r (fun x m => f x m K)) := by
  unfold bkI; split
  · exact h _ _
  · exact one_c none
theorem one_bkJ {r : Option ej_R} {f : Int64 → ej_Mem → ej_K → Option ej_R} (h : ∀ x m, ej_one (f x m)) : ej_one (fun K => bkJ r (fun x m => f x m K)) := by
  unfold bkJ; split
  · exact h _ _
  · exact one_c none
theorem one_bkQ {r : Option ej_R} {g : ej_Mem → ej_K → Option ej_R} {f : Nat → ej_Mem → ej_K → Option ej_R} (hg : ∀ m, ej_one (g m)) (h : ∀ x m, ej_one (f x m)) : ej_one (fun K => bkQ r (fun m => g m K) (fun x m => f x m K)) := by
  unfold bkQ; split
  · exact h _ _
  · exact hg _
  · exact one_c none
set_option maxHeartbeats 4000000 in
theorem one_stp (sw : Nat → List (Int32 × Nat)) (cl : Nat → List Value → ej_Mem → Option ej_R) (i : ej_I) (pc len : Nat) (ls : ej_L) (st : List Value) (M : ej_Mem) : ej_one (ej_stp sw cl i pc len ls st M) := by
  show ej_one (fun K => ej_stp sw cl i pc len ls st M K)
  unfold ej_stp
  split <;> repeat' (first | exact one_k _ _ _ _ | exact one_c _ | apply one_uI | apply one_uL | apply one_uR | apply one_uQ | apply one_uV | apply one_uW | apply one_ld | apply one_ckb | apply one_ckk | apply one_cnd | apply one_ckq | apply one_ckn | apply one_q | (refine one_swi ?_ ?_ _) | apply one_deR | apply one_deQ | apply one_bkV | apply one_bkI | apply one_bkJ | apply one_bkQ | apply one_ite | intro _)
section RUN
variable (sw : Nat → List (Int32 × Nat)) (code : Nat → Option (ej_I × Nat)) (cl : Nat → List Value → ej_Mem → Option ej_R)
abbrev ej_sp (pc : Nat) (ls : ej_L) (st : List Value) (M : ej_Mem) (K : ej_K) : Option ej_R := match code pc with
  | some (i, len) => ej_stp sw cl i pc len ls st M K
  | none => none
theorem one_sp (pc : Nat) (ls : ej_L) (st : List Value) (M : ej_Mem) : ej_one (ej_sp sw code cl pc ls st M) := by
  show ej_one (fun K => ej_sp sw code cl pc ls st M K)
  unfold ej_sp
  split
  · exact one_stp sw cl _ _ _ _ _ _
  · exact one_c none
def ej_rf : Nat → ej_K
  | 0, _, _, _, _ => none
  | n + 1, pc, ls, st, M => ej_sp sw code cl pc ls st M (ej_rf n)
theorem rf_mono : ∀ (n : Nat) (pc : Nat) (ls : ej_L) (st : List Value) (M : ej_Mem) (r : ej_R), ej_rf sw code cl n pc ls st M = some r → ej_rf sw code cl (n + 1) pc ls st M = some r
  | 0, _, _, _, _, _, h => by cases h
  | n + 1, pc, ls, st, M, r, h => by
    rcases one_sp sw code cl pc ls st M with ⟨o, ho⟩ | ⟨p, l, s, m, hk⟩
    · have h' : ej_sp sw code cl pc ls st M (ej_rf sw code cl n) = some r := h
      show ej_sp sw code cl pc ls st M (ej_rf sw code cl (n + 1)) = some r
      rw [ho] at h' ⊢
      exact h'
    · have h' : ej_sp sw code cl pc ls st M (ej_rf sw code cl n) = some r := h
      show ej_sp sw code cl pc ls st M (ej_rf sw code cl (n + 1)) = some r
      rw [hk] at h' ⊢
      exact rf_mono n p l s m r h'
theorem rf_le {n k : Nat} (hnk : n ≤ k) {pc : Nat} {ls : ej_L} {st : List Value} {M : ej_Mem} {r : ej_R} (h : ej_rf sw code cl n pc ls st M = some r) : ej_rf sw code cl k pc ls st M = some r := by
  induction hnk with
  | refl => exact h
  | step _ ih => exact rf_mono sw code cl _ _ _ _ _ _ ih

noncomputable def ej_run : ej_K := fun pc ls st M => @dite _ (∃ r n, ej_rf sw code cl n pc ls st M = some r) (Classical.propDecidable _) (fun h => some (Classical.choose h)) (fun _ => none)
theorem run_iff (pc : Nat) (ls : ej_L) (st : List Value) (M : ej_Mem) (r : ej_R) : ej_run sw code cl pc ls st M = some r ↔ ∃ n, ej_rf sw code cl n pc ls st M = some r := by
  unfold ej_run
  by_cases h : ∃ r n, ej_rf sw code cl n pc ls st M = some r
  · rw [dif_pos h]
    obtain ⟨n, hn⟩ := Classical.choose_spec h
    constructor
    · intro e
      cases e
      exact ⟨n, hn⟩
    · rintro ⟨k, hk⟩
      have h1 := rf_le sw code cl (Nat.le_max_left n k) hn
      have h2 := rf_le sw code cl (Nat.le_max_right n k) hk
      rw [h1] at h2
      exact h2
  · rw [dif_neg h]
    constructor
    · intro e
      cases e
    · rintro ⟨k, hk⟩
      exact absurd ⟨r, k, hk⟩ h
theorem opt_ext {α : Type} {x y : Option α} (h : ∀ r, x = some r ↔ y = some r) : x = y := by
  cases x with
  | none => cases y with
    | none => rfl
    | some b => exact absurd ((h b).mpr rfl) (by intro e; cases e)
  | some a => exact ((h a).mp rfl).symm
/-- the machine's own equation -/
theorem run_eq (pc : Nat) (ls : ej_L) (st : List Value) (M : ej_Mem) : ej_run sw code cl pc ls st M = ej_sp sw code cl pc ls st M (ej_run sw code cl) := by
  apply opt_ext
  intro r
  rw [run_iff]
  rcases one_sp sw code cl pc ls st M with ⟨o, ho⟩ | ⟨p, l, s, m, hk⟩
  · rw [ho]
    constructor
    · rintro ⟨n, hn⟩
      cases n with
      | zero => cases hn
      | succ n =>
        have h' : ej_sp sw code cl pc ls st M (ej_rf sw code cl n) = some r := hn
        rw [ho] at h'
        exact h'
    · intro e
      refine ⟨1, ?_⟩
      show ej_sp sw code cl pc ls st M (ej_rf sw code cl 0) = some r
      rw [ho]; exact e
  · rw [hk, run_iff]
    constructor
    · rintro ⟨n, hn⟩
      cases n with
      | zero => cases hn
      | succ n =>
        have h' : ej_sp sw code cl pc ls st M (ej_rf sw code cl n) = some r := hn
        rw [hk] at h'
        exact ⟨n, h'⟩
    · rintro ⟨n, hn⟩
      refine ⟨n + 1, ?_⟩
      show ej_sp sw code cl pc ls st M (ej_rf sw code cl n) = some r
      rw [hk]; exact hn
/-- down a tree of tests, to the places in 'stop' -/
abbrev ej_go (stop : List Nat) : Nat → ej_K → ej_K
  | 0, K => K
  | n + 1, K => fun pc ls st M => if stop.contains pc then K pc ls st M else ej_sp sw code cl pc ls st M (ej_go stop n K)
theorem go_eq (stop : List Nat) : ∀ n, ej_go sw code cl stop n (ej_run sw code cl) = ej_run sw code cl
  | 0 => rfl
  | n + 1 => by
    funext pc ls st M
    show (if stop.contains pc then ej_run sw code cl pc ls st M else ej_sp sw code cl pc ls st M (ej_go sw code cl stop n (ej_run sw code cl))) = _
    rw [go_eq stop n]
    split
    · rfl
    · rw [← run_eq]
end RUN
def ej_args : List Value → ej_L
  | [] => []
  | v :: r => some v :: (if v.category = 2 then none :: ej_args r else ej_args r)
def ej_ent (nL : Nat) (args : List Value) : ej_L := ej_args args ++ List.replicate (nL - (ej_args args).length) none
section CALL
variable (sw : Nat → List (Int32 × Nat)) (code : Nat → Nat → Option (ej_I × Nat)) (mx : Nat → Nat)
/-- a method's run, calls as deep as d at most -/
noncomputable def ej_call : Nat → Nat → List Value → ej_Mem → Option ej_R
  | 0, _, _, _ => none
  | d + 1, m, args, M => if (ej_args args).length ≤ mx m then ej_run sw (code m) (ej_call d) 0 (ej_ent (mx m) args) [] M else none
end CALL
