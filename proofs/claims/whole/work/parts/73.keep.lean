/-! methods that make no cell keep the room -/
def kz (Z S : Nat) (f : ej_K → Option ej_R) : Prop := ∀ K : ej_K, (∀ p l s m, mZ m = Z → mS m = S → ∀ r, K p l s m = some r → mZ r.2 = Z ∧ mS r.2 = S) → ∀ r, f K = some r → mZ r.2 = Z ∧ mS r.2 = S
theorem kz_n {Z S : Nat} : kz Z S (fun _ => none) := fun _ _ _ h => by cases h
theorem kz_r {Z S : Nat} {v : Option Value} {M : ej_Mem} (h1 : mZ M = Z) (h2 : mS M = S) : kz Z S (fun _ => some (v, M)) := fun _ _ r h => by cases h; exact ⟨h1, h2⟩
theorem kz_k {Z S : Nat} {p : Nat} {l : ej_L} {s : List Value} {m : ej_Mem} (h1 : mZ m = Z) (h2 : mS m = S) : kz Z S (fun K => K p l s m) := fun K hK r h => hK p l s m h1 h2 r h
theorem kz_ite {Z S : Nat} {c : Prop} [Decidable c] {f g : ej_K → Option ej_R} (hf : kz Z S f) (hg : kz Z S g) : kz Z S (fun K => if c then f K else g K) := by
  intro K hK r h
  split at h
  · exact hf K hK r h
  · exact hg K hK r h
theorem kz_ckk {Z S : Nat} {c : Prop} [Decidable c] {f : ej_K → Option ej_R} (hf : kz Z S f) : kz Z S (fun K => ckk c (f K)) := kz_ite hf kz_n
theorem kz_ckb {Z S : Nat} {j : Int32} {n : Nat} {f : ej_K → Option ej_R} (hf : kz Z S f) : kz Z S (fun K => ckb j n (f K)) := kz_ckk hf
theorem kz_uI {Z S : Nat} {st : List Value} {f : Int32 → List Value → ej_K → Option ej_R} (h : ∀ x r, kz Z S (f x r)) : kz Z S (fun K => uI st (fun x r => f x r K)) := by
  unfold uI; split
  · exact h _ _
  · exact kz_n
theorem kz_uL {Z S : Nat} {st : List Value} {f : Int64 → List Value → ej_K → Option ej_R} (h : ∀ x r, kz Z S (f x r)) : kz Z S (fun K => uL st (fun x r => f x r K)) := by
  unfold uL; split
  · exact h _ _
  · exact kz_n
theorem kz_uR {Z S : Nat} {st : List Value} {f : Nat → List Value → ej_K → Option ej_R} (h : ∀ x r, kz Z S (f x r)) : kz Z S (fun K => uR st (fun x r => f x r K)) := by
  unfold uR; split
  · exact h _ _
  · exact kz_n
theorem kz_uQ {Z S : Nat} {st : List Value} {f : Option Nat → List Value → ej_K → Option ej_R} (h : ∀ x r, kz Z S (f x r)) : kz Z S (fun K => uQ st (fun x r => f x r K)) := by
  unfold uQ; split
  · exact h _ _
  · exact h _ _
  · exact kz_n
theorem kz_uV {Z S : Nat} {st : List Value} {f : Value → List Value → ej_K → Option ej_R} (h : ∀ x r, kz Z S (f x r)) : kz Z S (fun K => uV st (fun x r => f x r K)) := by
  unfold uV; split
  · exact h _ _
  · exact h _ _
  · exact h _ _
  · exact kz_n
theorem kz_uW {Z S : Nat} {v : Value} {f : ej_K → Option ej_R} (h : kz Z S f) : kz Z S (fun K => uW v (f K)) := by
  unfold uW; split
  · exact h
  · exact h
  · exact h
  · exact kz_n
theorem kz_ld {Z S : Nat} {ls : ej_L} {i : Nat} {f : Value → ej_K → Option ej_R} (h : ∀ x, kz Z S (f x)) : kz Z S (fun K => ej_ld ls i (fun x => f x K)) := by
  unfold ej_ld; split
  · exact h _
  · exact kz_n
theorem kz_cnd {Z S : Nat} {b : Nat} {x y : Int32} {f g : ej_K → Option ej_R} (hf : kz Z S f) (hg : kz Z S g) : kz Z S (fun K => ej_cnd b x y (f K) (g K)) := by
  unfold ej_cnd; split
  · exact kz_ite hf hg
  · exact kz_ite hg hf
  · exact kz_ite hf hg
  · exact kz_ite hf hg
  · exact kz_ite hf hg
  · exact kz_ite hf hg
theorem kz_ckq {Z S : Nat} {M : ej_Mem} {a : Nat} {q : Option Nat} {f : ej_K → Option ej_R} (hf : kz Z S f) : kz Z S (fun K => ej_ckq M a q (f K)) := by
  unfold ej_ckq; split
  · exact hf
  · exact kz_ckk hf
theorem kz_ckn {Z S : Nat} {a : Nat} {x : Int32} {f : ej_K → Option ej_R} (hf : kz Z S f) : kz Z S (fun K => ej_ckn a x (f K)) := by
  unfold ej_ckn; split
  · exact hf
  · exact kz_ckk hf
  · exact kz_ckk hf
  · exact kz_ckk hf
theorem kz_q {Z S : Nat} {q : Option Nat} {f g : ej_K → Option ej_R} (hf : kz Z S f) (hg : kz Z S g) : kz Z S (fun K => match q with | none => f K | some _ => g K) := by
  cases q
  · exact hf
  · exact hg
theorem kz_swi {Z S : Nat} {x : Int32} {k : Nat → ej_K → Option ej_R} {df : ej_K → Option ej_R} (hk : ∀ t, kz Z S (k t)) (hd : kz Z S df) : ∀ ts : List (Int32 × Nat), kz Z S (fun K => ej_swi x ts (fun t => k t K) (df K))
  | [] => hd
  | (v, t) :: r => by
    show kz Z S (fun K => if x = v then k t K else ej_swi x r (fun t => k t K) (df K))
    exact kz_ite (hk t) (kz_swi hk hd r)
theorem kz_deR {Z S : Nat} {q : Option Nat} {f : Nat → ej_K → Option ej_R} (h : ∀ a, kz Z S (f a)) : kz Z S (fun K => deR q (fun a => f a K)) := by
  unfold deR; split
  · exact h _
  · exact kz_n
theorem kz_deQ {Z S : Nat} {q : Option Nat} {g : ej_K → Option ej_R} {f : Nat → ej_K → Option ej_R} (hg : kz Z S g) (h : ∀ a, kz Z S (f a)) : kz Z S (fun K => deQ q (g K) (fun a => f a K)) := by
  unfold deQ; split
  · exact hg
  · exact h _
def kzr (Z S : Nat) (r : Option ej_R) : Prop := ∀ x, r = some x → mZ x.2 = Z ∧ mS x.2 = S
theorem kz_bkV {Z S : Nat} {r : Option ej_R} {f : ej_Mem → ej_K → Option ej_R} (hr : kzr Z S r) (h : ∀ m, mZ m = Z → mS m = S → kz Z S (f m)) : kz Z S (fun K => bkV r (fun m => f m K)) := by
  unfold bkV; split
  · have := hr _ rfl
    exact h _ this.1 this.2
  · exact kz_n
theorem kz_bkI {Z S : Nat} {r : Option ej_R} {f : Int32 → ej_Mem → ej_K → Option ej_R} (hr : kzr Z S r) (h : ∀ x m, mZ m = Z → mS m = S → kz Z S (f x m)) : kz Z S (fun K => bkI r (fun x m => f x m K)) := by
  unfold bkI; split
  · have := hr _ rfl
    exact h _ _ this.1 this.2
  · exact kz_n
theorem kz_bkJ {Z S : Nat} {r : Option ej_R} {f : Int64 → ej_Mem → ej_K → Option ej_R} (hr : kzr Z S r) (h : ∀ x m, mZ m = Z → mS m = S → kz Z S (f x m)) : kz Z S (fun K => bkJ r (fun x m => f x m K)) := by
  unfold bkJ; split
  · have := hr _ rfl
    exact h _ _ this.1 this.2
  · exact kz_n
theorem kz_bkQ {Z S : Nat} {r : Option ej_R} {g : ej_Mem → ej_K → Option ej_R} {f : Nat → ej_Mem → ej_K → Option ej_R} (hr : kzr Z S r) (hg : ∀ m, mZ m = Z → mS m = S → kz Z S (g m)) (h : ∀ x m, mZ m = Z → mS m = S → kz Z S (f x m)) : kz Z S (fun K => bkQ r (fun m => g m K) (fun x m => f x m K)) := by
  unfold bkQ; split
  · have := hr _ rfl
    exact h _ _ this.1 this.2
  · have := hr _ rfl
    exact hg _ this.1 this.2
  · exact kz_n
/-- an instruction that makes no cell and calls only such methods -/
def gdI (G : Nat → Bool) (i : ej_I) : Bool := match i with
  | (36, _, _, _, _, _) => false
  | (37, _, _, _, _, _) => false
  | (38, _, _, _, _, _) => false
  | (55, _, _, _, _, _) => false
  | (60, a, _, _, _, _) => G a
  | (61, a, _, _, _, _) => G a
  | (62, a, _, _, _, _) => G a
  | (63, a, _, _, _, _) => G a
  | (64, a, _, _, _, _) => G a
  | (65, a, _, _, _, _) => G a
  | (66, a, _, _, _, _) => G a
  | (67, a, _, _, _, _) => G a
  | (68, a, _, _, _, _) => G a
  | _ => true
set_option maxHeartbeats 4000000 in
theorem kz_stp (sw : Nat → List (Int32 × Nat)) (cl : Nat → List Value → ej_Mem → Option ej_R) (G : Nat → Bool) (i : ej_I) (pc len : Nat) (ls : ej_L) (st : List Value) (M : ej_Mem) {Z S : Nat} (h1 : mZ M = Z) (h2 : mS M = S) (hg : gdI G i = true) (hc : ∀ a args M1, G a = true → mZ M1 = Z → mS M1 = S → kzr Z S (cl a args M1)) : kz Z S (ej_stp sw cl i pc len ls st M) := by
  show kz Z S (fun K => ej_stp sw cl i pc len ls st M K)
  unfold ej_stp
  split <;> first
    | exact absurd hg Bool.false_ne_true
    | (repeat' (first | exact kz_k h1 h2 | exact kz_r h1 h2 | exact kz_n | apply kz_uI | apply kz_uL | apply kz_uR | apply kz_uQ | apply kz_uV | apply kz_uW | apply kz_ld | apply kz_ckb | apply kz_ckk | apply kz_cnd | apply kz_ckq | apply kz_ckn | apply kz_q | (refine kz_swi ?_ ?_ _) | apply kz_deR | apply kz_deQ | (refine kz_bkV (hc _ _ _ hg h1 h2) ?_) | (refine kz_bkI (hc _ _ _ hg h1 h2) ?_) | (refine kz_bkJ (hc _ _ _ hg h1 h2) ?_) | (refine kz_bkQ (hc _ _ _ hg h1 h2) ?_ ?_) | apply kz_ite | (intro _ a b; exact kz_k a b) | (intro _ _ a b; exact kz_k a b) | (intro a b; exact kz_k a b) | intro _))
