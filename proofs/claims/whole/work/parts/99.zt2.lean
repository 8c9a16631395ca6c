/-! methods that set no Hunt into a land keep the lands' Hunts -/
def KH (N : Nat) (C : Nat → Nat) (A : Nat → Option Nat) (m : ej_Mem) : Prop := N ≤ mZ m ∧ (∀ o, o < N → mC m o = C o) ∧ ∀ o, o < N → C o = 3 → mR m o 7 = A o
theorem KH.new {N : Nat} {C : Nat → Nat} {A : Nat → Option Nat} {m : ej_Mem} (h : KH N C A m) (k l s : Nat) : KH N C A (newM m k l s) := by
  have hz := h.1
  refine ⟨Nat.le_succ_of_le h.1, fun o ho => ?_, fun o ho hc => ?_⟩
  · show (if o = mZ m then k else mC m o) = C o
    rw [if_neg (by omega)]; exact h.2.1 o ho
  · show (if o = mZ m then (fun _ => none) else mR m o) 7 = A o
    rw [if_neg (by omega)]; exact h.2.2 o ho hc
theorem KH.cln {N : Nat} {C : Nat → Nat} {A : Nat → Option Nat} {m : ej_Mem} (h : KH N C A m) (o : Nat) : KH N C A (cloneM m o) := KH.new h 100 (mN m o) (mN m o)
theorem KH.put {N : Nat} {C : Nat → Nat} {A : Nat → Option Nat} {m : ej_Mem} (h : KH N C A m) {o a b : Nat} {v : Option Nat} (hc : mC m o = a) (hg : (!(Nat.beq a 3 && Nat.beq b 7)) = true) : KH N C A (setR m o b v) := by
  refine ⟨h.1, h.2.1, fun q hq c3 => ?_⟩
  rw [gR_n (fun z => ?_)]
  · exact h.2.2 q hq c3
  · obtain ⟨rfl, rfl⟩ := z
    have e : a = 3 := by rw [← hc, h.2.1 q hq, c3]
    subst e
    exact absurd hg (by decide)
theorem kq_ckkc {I : ej_Mem → Prop} {c : Prop} [Decidable c] {f : ej_K → Option ej_R} (hf : c → kq I f) : kq I (fun K => ckk c (f K)) := by
  intro K hK r h
  unfold ckk at h
  split at h
  · rename_i hc
    exact hf hc K hK r h
  · cases h
def gdH (G : Nat → Bool) (i : ej_I) : Bool := match i with
  | (28, a, b, _, _, _) => !(Nat.beq a 3 && Nat.beq b 7)
  | (60, a, _, _, _, _) => G a
  | (61, a, _, _, _, _) => G a
  | (62, a, _, _, _, _) => G a
  | (63, a, _, _, _, _) => G a
  | (64, a, _, _, _, _) => G a
  | (65, a, _, _, _, _) => G a
  | (66, a, _, _, _, _) => G a
  | (67, a, _, _, _, _) => G a
  | (68, a, _, _, _, _) => G a
  | _ => true
set_option maxHeartbeats 4000000 in
theorem kh_stp (sw : Nat → List (Int32 × Nat)) (cl : Nat → List Value → ej_Mem → Option ej_R) (G : Nat → Bool) (i : ej_I) (pc len : Nat) (ls : ej_L) (st : List Value) (M : ej_Mem) {N : Nat} {C : Nat → Nat} {A : Nat → Option Nat} (h1 : KH N C A M) (hg : gdH G i = true) (hc : ∀ a args M1, G a = true → KH N C A M1 → kqr (KH N C A) (cl a args M1)) : kq (KH N C A) (ej_stp sw cl i pc len ls st M) := by
  show kq (KH N C A) (fun K => ej_stp sw cl i pc len ls st M K)
  unfold ej_stp
  split <;> first
    | (exact kq_uQ (fun v r => kq_uR (fun o r => kq_ckkc (fun hc => kq_k (h1.put hc hg)))))
    | (repeat' (first | exact kq_k h1 | exact kq_k (h1.new _ _ _) | exact kq_k (h1.cln _) | exact kq_r h1 | exact kq_n | apply kq_uI | apply kq_uL | apply kq_uR | apply kq_uQ | apply kq_uV | apply kq_uW | apply kq_ld | apply kq_ckb | apply kq_ckk | apply kq_cnd | apply kq_ckq | apply kq_ckn | apply kq_q | (refine kq_swi ?_ ?_ _) | apply kq_deR | apply kq_deQ | (refine kq_bkV (hc _ _ _ hg h1) ?_) | (refine kq_bkI (hc _ _ _ hg h1) ?_) | (refine kq_bkJ (hc _ _ _ hg h1) ?_) | (refine kq_bkQ (hc _ _ _ hg h1) ?_ ?_) | apply kq_ite | (intro _ a; exact kq_k a) | (intro _ _ a; exact kq_k a) | (intro a; exact kq_k a) | intro _))
theorem kh_rf (sw : Nat → List (Int32 × Nat)) (code : Nat → Option (ej_I × Nat)) (cl : Nat → List Value → ej_Mem → Option ej_R) (G : Nat → Bool) {N : Nat} {C : Nat → Nat} {A : Nat → Option Nat} (hcode : ∀ pc i len, code pc = some (i, len) → gdH G i = true) (hc : ∀ a args M1, G a = true → KH N C A M1 → kqr (KH N C A) (cl a args M1)) : ∀ (n pc : Nat) (ls : ej_L) (st : List Value) (M : ej_Mem), KH N C A M → kqr (KH N C A) (ej_rf sw code cl n pc ls st M)
  | 0, _, _, _, _, _ => fun _ h => by cases h
  | n + 1, pc, ls, st, M, h1 => by
    intro r h
    have h' : ej_sp sw code cl pc ls st M (ej_rf sw code cl n) = some r := h
    unfold ej_sp at h'
    cases e : code pc with
    | none => rw [e] at h'; cases h'
    | some x =>
      obtain ⟨i, len⟩ := x
      rw [e] at h'
      exact kh_stp sw cl G i pc len ls st M h1 (hcode pc i len e) hc (ej_rf sw code cl n) (fun p l s m a => kh_rf sw code cl G hcode hc n p l s m a) r h'
def hB0 : List Nat := [45, 56, 57, 58, 75, 87, 106, 107, 221]
def hG (m : Nat) : Bool := Nat.blt m 222 && !(hB0.any (Nat.beq m))
theorem hG_chk : (List.range 222).all (fun m => !hG m || (ej_tabs.getD m []).all (fun e => gdH hG e.2.1)) = true := by decide +kernel
theorem hG_tab {m : Nat} (h : hG m = true) : ∀ e, e ∈ ej_tabs.getD m [] → gdH hG e.2.1 = true := by
  have hm : m < 222 := by
    unfold hG at h
    rw [Bool.and_eq_true] at h
    exact Nat.blt_eq.mp h.1
  have := List.all_eq_true.mp hG_chk m (List.mem_range.mpr hm)
  rw [h] at this
  exact fun e he => List.all_eq_true.mp this e he
theorem hG_code {m : Nat} (h : hG m = true) (pc : Nat) (i : ej_I) (len : Nat) (e : ej_code m pc = some (i, len)) : gdH hG i = true := by
  unfold ej_code at e
  rw [Option.map_eq_some_iff] at e
  obtain ⟨x, hx, ex⟩ := e
  have := hG_tab h x (List.mem_of_find?_eq_some hx)
  rw [ex] at this
  exact this
theorem kh_call {N : Nat} {C : Nat → Nat} {A : Nat → Option Nat} : ∀ (d m : Nat) (args : List Value) (M : ej_Mem), hG m = true → KH N C A M → kqr (KH N C A) (ej_call ej_sw ej_code ej_mx d m args M)
  | 0, _, _, _, _, _ => fun _ h => by cases h
  | d + 1, m, args, M, hm, hI => by
    intro r h
    unfold ej_call at h
    split at h
    · obtain ⟨n, hn⟩ := (run_iff ej_sw (ej_code m) (ej_call ej_sw ej_code ej_mx d) 0 _ [] M r).mp h
      exact kh_rf ej_sw (ej_code m) _ hG (hG_code hm) (fun a args M1 ha e1 => kh_call d a args M1 ha e1) n 0 _ [] M hI r hn
    · cases h
theorem keepH {D m : Nat} {args : List Value} {M M' : ej_Mem} {v : Option Value} (h : cal D m args M = some (v, M')) (hm : hG m = true) : ∀ o, o < mZ M → mC M o = 3 → mR M' o 7 = mR M o 7 := (kh_call (N := mZ M) (C := mC M) (A := fun o => mR M o 7) D m args M hm ⟨Nat.le_refl _, fun _ _ => rfl, fun _ _ _ => rfl⟩ (v, M') h).2.2
