/-! methods that write no row of references keep these -/
def KQ (N : Nat) (A : Nat → Nat → Option Nat) (m : ej_Mem) : Prop := N ≤ mZ m ∧ ∀ o, o < N → aR m o = A o
theorem KQ.new {N : Nat} {A : Nat → Nat → Option Nat} {m : ej_Mem} (h : KQ N A m) (k l s : Nat) : KQ N A (newM m k l s) := ⟨Nat.le_succ_of_le h.1, fun o ho => by
  show (if o = mZ m then (fun _ => none) else aR m o) = A o
  have := h.1
  rw [if_neg (by omega)]; exact h.2 o ho⟩
theorem KQ.cln {N : Nat} {A : Nat → Nat → Option Nat} {m : ej_Mem} (h : KQ N A m) (o : Nat) : KQ N A (cloneM m o) := KQ.new h 100 (mN m o) (mN m o)
def kq (I : ej_Mem → Prop) (f : ej_K → Option ej_R) : Prop := ∀ K : ej_K, (∀ p l s m, I m → ∀ r, K p l s m = some r → I r.2) → ∀ r, f K = some r → I r.2
theorem kq_n {I : ej_Mem → Prop} : kq I (fun _ => none) := fun _ _ _ h => by cases h
theorem kq_r {I : ej_Mem → Prop} {v : Option Value} {M : ej_Mem} (h1 : I M) : kq I (fun _ => some (v, M)) := fun _ _ r h => by cases h; exact h1
theorem kq_k {I : ej_Mem → Prop} {p : Nat} {l : ej_L} {s : List Value} {m : ej_Mem} (h1 : I m) : kq I (fun K => K p l s m) := fun K hK r h => hK p l s m h1 r h
theorem kq_ite {I : ej_Mem → Prop} {c : Prop} [Decidable c] {f g : ej_K → Option ej_R} (hf : kq I f) (hg : kq I g) : kq I (fun K => if c then f K else g K) := by
  intro K hK r h
  split at h
  · exact hf K hK r h
  · exact hg K hK r h
theorem kq_ckk {I : ej_Mem → Prop} {c : Prop} [Decidable c] {f : ej_K → Option ej_R} (hf : kq I f) : kq I (fun K => ckk c (f K)) := kq_ite hf kq_n
theorem kq_ckb {I : ej_Mem → Prop} {j : Int32} {n : Nat} {f : ej_K → Option ej_R} (hf : kq I f) : kq I (fun K => ckb j n (f K)) := kq_ckk hf
theorem kq_uI {I : ej_Mem → Prop} {st : List Value} {f : Int32 → List Value → ej_K → Option ej_R} (h : ∀ x r, kq I (f x r)) : kq I (fun K => uI st (fun x r => f x r K)) := by
  unfold uI; split
  · exact h _ _
  · exact kq_n
theorem kq_uL {I : ej_Mem → Prop} {st : List Value} {f : Int64 → List Value → ej_K → Option ej_R} (h : ∀ x r, kq I (f x r)) : kq I (fun K => uL st (fun x r => f x r K)) := by
  unfold uL; split
  · exact h _ _
  · exact kq_n
theorem kq_uR {I : ej_Mem → Prop} {st : List Value} {f : Nat → List Value → ej_K → Option ej_R} (h : ∀ x r, kq I (f x r)) : kq I (fun K => uR st (fun x r => f x r K)) := by
  unfold uR; split
  · exact h _ _
  · exact kq_n
theorem kq_uQ {I : ej_Mem → Prop} {st : List Value} {f : Option Nat → List Value → ej_K → Option ej_R} (h : ∀ x r, kq I (f x r)) : kq I (fun K => uQ st (fun x r => f x r K)) := by
  unfold uQ; split
  · exact h _ _
  · exact h _ _
  · exact kq_n
theorem kq_uV {I : ej_Mem → Prop} {st : List Value} {f : Value → List Value → ej_K → Option ej_R} (h : ∀ x r, kq I (f x r)) : kq I (fun K => uV st (fun x r => f x r K)) := by
  unfold uV; split
  · exact h _ _
  · exact h _ _
  · exact h _ _
  · exact kq_n
theorem kq_uW {I : ej_Mem → Prop} {v : Value} {f : ej_K → Option ej_R} (h : kq I f) : kq I (fun K => uW v (f K)) := by
  unfold uW; split
  · exact h
  · exact h
  · exact h
  · exact kq_n
theorem kq_ld {I : ej_Mem → Prop} {ls : ej_L} {i : Nat} {f : Value → ej_K → Option ej_R} (h : ∀ x, kq I (f x)) : kq I (fun K => ej_ld ls i (fun x => f x K)) := by
  unfold ej_ld; split
  · exact h _
  · exact kq_n
theorem kq_cnd {I : ej_Mem → Prop} {b : Nat} {x y : Int32} {f g : ej_K → Option ej_R} (hf : kq I f) (hg : kq I g) : kq I (fun K => ej_cnd b x y (f K) (g K)) := by
  unfold ej_cnd; split
  · exact kq_ite hf hg
  · exact kq_ite hg hf
  · exact kq_ite hf hg
  · exact kq_ite hf hg
  · exact kq_ite hf hg
  · exact kq_ite hf hg
theorem kq_ckq {I : ej_Mem → Prop} {M : ej_Mem} {a : Nat} {q : Option Nat} {f : ej_K → Option ej_R} (hf : kq I f) : kq I (fun K => ej_ckq M a q (f K)) := by
  unfold ej_ckq; split
  · exact hf
  · exact kq_ckk hf
theorem kq_ckn {I : ej_Mem → Prop} {a : Nat} {x : Int32} {f : ej_K → Option ej_R} (hf : kq I f) : kq I (fun K => ej_ckn a x (f K)) := by
  unfold ej_ckn; split
  · exact hf
  · exact kq_ckk hf
  · exact kq_ckk hf
  · exact kq_ckk hf
theorem kq_q {I : ej_Mem → Prop} {q : Option Nat} {f g : ej_K → Option ej_R} (hf : kq I f) (hg : kq I g) : kq I (fun K => match q with | none => f K | some _ => g K) := by
  cases q
  · exact hf
  · exact hg
theorem kq_swi {I : ej_Mem → Prop} {x : Int32} {k : Nat → ej_K → Option ej_R} {df : ej_K → Option ej_R} (hk : ∀ t, kq I (k t)) (hd : kq I df) : ∀ ts : List (Int32 × Nat), kq I (fun K => ej_swi x ts (fun t => k t K) (df K))
  | [] => hd
  | (v, t) :: r => by
    show kq I (fun K => if x = v then k t K else ej_swi x r (fun t => k t K) (df K))
    exact kq_ite (hk t) (kq_swi hk hd r)
theorem kq_deR {I : ej_Mem → Prop} {q : Option Nat} {f : Nat → ej_K → Option ej_R} (h : ∀ a, kq I (f a)) : kq I (fun K => deR q (fun a => f a K)) := by
  unfold deR; split
  · exact h _
  · exact kq_n
theorem kq_deQ {I : ej_Mem → Prop} {q : Option Nat} {g : ej_K → Option ej_R} {f : Nat → ej_K → Option ej_R} (hg : kq I g) (h : ∀ a, kq I (f a)) : kq I (fun K => deQ q (g K) (fun a => f a K)) := by
  unfold deQ; split
  · exact hg
  · exact h _
def kqr (I : ej_Mem → Prop) (r : Option ej_R) : Prop := ∀ x, r = some x → I x.2
theorem kq_bkV {I : ej_Mem → Prop} {r : Option ej_R} {f : ej_Mem → ej_K → Option ej_R} (hr : kqr I r) (h : ∀ m, I m → kq I (f m)) : kq I (fun K => bkV r (fun m => f m K)) := by
  unfold bkV; split
  · have := hr _ rfl
    exact h _ this
  · exact kq_n
theorem kq_bkI {I : ej_Mem → Prop} {r : Option ej_R} {f : Int32 → ej_Mem → ej_K → Option ej_R} (hr : kqr I r) (h : ∀ x m, I m → kq I (f x m)) : kq I (fun K => bkI r (fun x m => f x m K)) := by
  unfold bkI; split
  · have := hr _ rfl
    exact h _ _ this
  · exact kq_n
theorem kq_bkJ {I : ej_Mem → Prop} {r : Option ej_R} {f : Int64 → ej_Mem → ej_K → Option ej_R} (hr : kqr I r) (h : ∀ x m, I m → kq I (f x m)) : kq I (fun K => bkJ r (fun x m => f x m K)) := by
  unfold bkJ; split
  · have := hr _ rfl
    exact h _ _ this
  · exact kq_n
theorem kq_bkQ {I : ej_Mem → Prop} {r : Option ej_R} {g : ej_Mem → ej_K → Option ej_R} {f : Nat → ej_Mem → ej_K → Option ej_R} (hr : kqr I r) (hg : ∀ m, I m → kq I (g m)) (h : ∀ x m, I m → kq I (f x m)) : kq I (fun K => bkQ r (fun m => g m K) (fun x m => f x m K)) := by
  unfold bkQ; split
  · have := hr _ rfl
    exact h _ _ this
  · have := hr _ rfl
    exact hg _ this
  · exact kq_n
/-- an instruction that makes no cell and calls only such methods -/
def gdQ (G : Nat → Bool) (i : ej_I) : Bool := match i with
  | (34, _, _, _, _, _) => false
  | (60, a, _, _, _, _) => G a
  | (61, a, _, _, _, _) => G a
  | (62, a, _, _, _, _) => G a
  | (63, a, _, _, _, _) => G a
  | (64, a, _, _, _, _) => G a
  | (65, a, _, _, _, _) => G a
  | (66, a, _, _, _, _) => G a
  | (67, a, _, _, _, _) => G a
  | (68, a, _, _, _, _) => G a
  | _ => true
set_option maxHeartbeats 4000000 in
theorem kq_stp (sw : Nat → List (Int32 × Nat)) (cl : Nat → List Value → ej_Mem → Option ej_R) (G : Nat → Bool) (i : ej_I) (pc len : Nat) (ls : ej_L) (st : List Value) (M : ej_Mem) {N : Nat} {A : Nat → Nat → Option Nat} (h1 : KQ N A M) (hg : gdQ G i = true) (hc : ∀ a args M1, G a = true → KQ N A M1 → kqr (KQ N A) (cl a args M1)) : kq (KQ N A) (ej_stp sw cl i pc len ls st M) := by
  show kq (KQ N A) (fun K => ej_stp sw cl i pc len ls st M K)
  unfold ej_stp
  split <;> first
    | exact absurd hg Bool.false_ne_true
    | (repeat' (first | exact kq_k h1 | exact kq_k (h1.new _ _ _) | exact kq_k (h1.cln _) | exact kq_r h1 | exact kq_n | apply kq_uI | apply kq_uL | apply kq_uR | apply kq_uQ | apply kq_uV | apply kq_uW | apply kq_ld | apply kq_ckb | apply kq_ckk | apply kq_cnd | apply kq_ckq | apply kq_ckn | apply kq_q | (refine kq_swi ?_ ?_ _) | apply kq_deR | apply kq_deQ | (refine kq_bkV (hc _ _ _ hg h1) ?_) | (refine kq_bkI (hc _ _ _ hg h1) ?_) | (refine kq_bkJ (hc _ _ _ hg h1) ?_) | (refine kq_bkQ (hc _ _ _ hg h1) ?_ ?_) | apply kq_ite | (intro _ a; exact kq_k a) | (intro _ _ a; exact kq_k a) | (intro a; exact kq_k a) | intro _))
theorem kq_rf (sw : Nat → List (Int32 × Nat)) (code : Nat → Option (ej_I × Nat)) (cl : Nat → List Value → ej_Mem → Option ej_R) (G : Nat → Bool) {N : Nat} {A : Nat → Nat → Option Nat} (hcode : ∀ pc i len, code pc = some (i, len) → gdQ G i = true) (hc : ∀ a args M1, G a = true → KQ N A M1 → kqr (KQ N A) (cl a args M1)) : ∀ (n pc : Nat) (ls : ej_L) (st : List Value) (M : ej_Mem), KQ N A M → kqr (KQ N A) (ej_rf sw code cl n pc ls st M)
  | 0, _, _, _, _, _ => fun _ h => by cases h
  | n + 1, pc, ls, st, M, h1 => by
    intro r h
    have h' : ej_sp sw code cl pc ls st M (ej_rf sw code cl n) = some r := h
    unfold ej_sp at h'
    cases e : code pc with
    | none => rw [e] at h'; cases h'
    | some x =>
      obtain ⟨i, len⟩ := x
      rw [e] at h'
      exact kq_stp sw cl G i pc len ls st M h1 (hcode pc i len e) hc (ej_rf sw code cl n) (fun p l s m a => kq_rf sw code cl G hcode hc n p l s m a) r h'
def qB : List Nat := [106, 107, 221, 47, 57, 78]
def qG (m : Nat) : Bool := Nat.blt m 222 && !(qB.any (Nat.beq m))
theorem qG_chk : (List.range 222).all (fun m => !qG m || (ej_tabs.getD m []).all (fun e => gdQ qG e.2.1)) = true := by decide +kernel
theorem qG_tab {m : Nat} (h : qG m = true) : ∀ e, e ∈ ej_tabs.getD m [] → gdQ qG e.2.1 = true := by
  have hm : m < 222 := by
    unfold qG at h
    rw [Bool.and_eq_true] at h
    exact Nat.blt_eq.mp h.1
  have := List.all_eq_true.mp qG_chk m (List.mem_range.mpr hm)
  rw [h] at this
  exact fun e he => List.all_eq_true.mp this e he
theorem qG_code {m : Nat} (h : qG m = true) (pc : Nat) (i : ej_I) (len : Nat) (e : ej_code m pc = some (i, len)) : gdQ qG i = true := by
  unfold ej_code at e
  rw [Option.map_eq_some_iff] at e
  obtain ⟨x, hx, ex⟩ := e
  have := qG_tab h x (List.mem_of_find?_eq_some hx)
  rw [ex] at this
  exact this
theorem kq_call {N : Nat} {A : Nat → Nat → Option Nat} : ∀ (d m : Nat) (args : List Value) (M : ej_Mem), qG m = true → KQ N A M → kqr (KQ N A) (ej_call ej_sw ej_code ej_mx d m args M)
  | 0, _, _, _, _, _ => fun _ h => by cases h
  | d + 1, m, args, M, hm, hI => by
    intro r h
    unfold ej_call at h
    split at h
    · obtain ⟨n, hn⟩ := (run_iff ej_sw (ej_code m) (ej_call ej_sw ej_code ej_mx d) 0 _ [] M r).mp h
      exact kq_rf ej_sw (ej_code m) _ qG (qG_code hm) (fun a args M1 ha e1 => kq_call d a args M1 ha e1) n 0 _ [] M hI r hn
    · cases h
theorem keepR {D m : Nat} {args : List Value} {M M' : ej_Mem} {v : Option Value} (h : cal D m args M = some (v, M')) (hm : qG m = true) : ∀ o, o < mZ M → aR M' o = aR M o := (kq_call (N := mZ M) (A := aR M) D m args M hm ⟨Nat.le_refl _, fun _ _ => rfl⟩ (v, M') h).2
