/-! cells are made, never unmade -/
def ej_mo (M : ej_Mem) (f : ej_K → Option ej_R) : Prop := ∀ (K : ej_K) (r : ej_R), (∀ p l s m, K p l s m = some r → mZ m ≤ mZ r.2 ∧ mS m ≤ mS r.2) → f K = some r → mZ M ≤ mZ r.2 ∧ mS M ≤ mS r.2
section MONO
variable {M : ej_Mem}
theorem mo_k {p : Nat} {l : ej_L} {s : List Value} {m : ej_Mem} (h : mZ M ≤ mZ m ∧ mS M ≤ mS m) : ej_mo M (fun K => K p l s m) := fun K r hK h2 => ⟨Nat.le_trans h.1 (hK _ _ _ _ h2).1, Nat.le_trans h.2 (hK _ _ _ _ h2).2⟩
theorem mo_r {v : Option Value} : ej_mo M (fun _ => some (v, M)) := fun K r hK h2 => by cases h2; exact ⟨Nat.le_refl _, Nat.le_refl _⟩
theorem mo_n : ej_mo M (fun _ => none) := fun K r hK h2 => by cases h2
theorem mo_ite {c : Prop} [Decidable c] {f g : ej_K → Option ej_R} (hf : ej_mo M f) (hg : ej_mo M g) : ej_mo M (fun K => if c then f K else g K) := by
  by_cases h : c
  · simpa [h] using hf
  · simpa [h] using hg
theorem mo_ckk {c : Prop} [Decidable c] {f : ej_K → Option ej_R} (hf : ej_mo M f) : ej_mo M (fun K => ckk c (f K)) := mo_ite hf mo_n
theorem mo_ckb {j : Int32} {n : Nat} {f : ej_K → Option ej_R} (hf : ej_mo M f) : ej_mo M (fun K => ckb j n (f K)) := mo_ckk hf
theorem mo_uI {st : List Value} {f : Int32 → List Value → ej_K → Option ej_R} (h : ∀ x r, ej_mo M (f x r)) : ej_mo M (fun K => uI st (fun x r => f x r K)) := by
  intro K r hK h2
  obtain ⟨x, s1, -, h3⟩ := uI_some h2
  exact h x s1 K r hK h3
theorem mo_uL {st : List Value} {f : Int64 → List Value → ej_K → Option ej_R} (h : ∀ x r, ej_mo M (f x r)) : ej_mo M (fun K => uL st (fun x r => f x r K)) := by
  intro K r hK h2
  obtain ⟨x, s1, -, h3⟩ := uL_some h2
  exact h x s1 K r hK h3
theorem mo_uR {st : List Value} {f : Nat → List Value → ej_K → Option ej_R} (h : ∀ x r, ej_mo M (f x r)) : ej_mo M (fun K => uR st (fun x r => f x r K)) := by
  intro K r hK h2
  obtain ⟨x, s1, -, h3⟩ := uR_some h2
  exact h x s1 K r hK h3
theorem mo_uQ {st : List Value} {f : Option Nat → List Value → ej_K → Option ej_R} (h : ∀ x r, ej_mo M (f x r)) : ej_mo M (fun K => uQ st (fun x r => f x r K)) := by
  intro K r hK h2
  obtain ⟨x, s1, -, h3⟩ := uQ_some h2
  exact h x s1 K r hK h3
theorem mo_uV {st : List Value} {f : Value → List Value → ej_K → Option ej_R} (h : ∀ x r, ej_mo M (f x r)) : ej_mo M (fun K => uV st (fun x r => f x r K)) := by
  intro K r hK h2
  obtain ⟨x, s1, -, -, h3⟩ := uV_some h2
  exact h x s1 K r hK h3
theorem mo_uW {v : Value} {f : ej_K → Option ej_R} (h : ej_mo M f) : ej_mo M (fun K => uW v (f K)) := by
  intro K r hK h2
  exact h K r hK (uW_some (a0 := fun _ => 0) (bs := 0) (vZ := .null) (Or.inl rfl) h2).2
theorem mo_ld {ls : ej_L} {i : Nat} {f : Value → ej_K → Option ej_R} (h : ∀ x, ej_mo M (f x)) : ej_mo M (fun K => ej_ld ls i (fun x => f x K)) := by
  intro K r hK h2
  obtain ⟨x, -, h3⟩ := ld_some h2
  exact h x K r hK h3
theorem mo_cnd {b : Nat} {x y : Int32} {f g : ej_K → Option ej_R} (hf : ej_mo M f) (hg : ej_mo M g) : ej_mo M (fun K => ej_cnd b x y (f K) (g K)) := by
  unfold ej_cnd; split
  · exact mo_ite hf hg
  · exact mo_ite hg hf
  · exact mo_ite hf hg
  · exact mo_ite hf hg
  · exact mo_ite hf hg
  · exact mo_ite hf hg
theorem mo_ckq {M1 : ej_Mem} {a : Nat} {q : Option Nat} {f : ej_K → Option ej_R} (hf : ej_mo M f) : ej_mo M (fun K => ej_ckq M1 a q (f K)) := fun K r hK h2 => hf K r hK (ckq_some h2).2
theorem mo_ckn {a : Nat} {x : Int32} {f : ej_K → Option ej_R} (hf : ej_mo M f) : ej_mo M (fun K => ej_ckn a x (f K)) := fun K r hK h2 => hf K r hK (ckn_some h2).2
theorem mo_q {q : Option Nat} {f g : ej_K → Option ej_R} (hf : ej_mo M f) (hg : ej_mo M g) : ej_mo M (fun K => match q with | none => f K | some _ => g K) := by
  cases q
  · exact hf
  · exact hg
theorem mo_swi {x : Int32} {k : Nat → ej_K → Option ej_R} {df : ej_K → Option ej_R} (hk : ∀ t, ej_mo M (k t)) (hd : ej_mo M df) : ∀ ts : List (Int32 × Nat), ej_mo M (fun K => ej_swi x ts (fun t => k t K) (df K))
  | [] => hd
  | (v, t) :: r => by
    show ej_mo M (fun K => if x = v then k t K else ej_swi x r (fun t => k t K) (df K))
    exact mo_ite (hk t) (mo_swi hk hd r)
theorem mo_deR {q : Option Nat} {f : Nat → ej_K → Option ej_R} (h : ∀ a, ej_mo M (f a)) : ej_mo M (fun K => deR q (fun a => f a K)) := by
  intro K r hK h2
  obtain ⟨x, -, h3⟩ := deR_some h2
  exact h x K r hK h3
theorem mo_deQ {q : Option Nat} {g : ej_K → Option ej_R} {f : Nat → ej_K → Option ej_R} (hg : ej_mo M g) (h : ∀ a, ej_mo M (f a)) : ej_mo M (fun K => deQ q (g K) (fun a => f a K)) := by
  cases q
  · exact hg
  · exact h _
theorem mo_le {M1 : ej_Mem} {f : ej_K → Option ej_R} (h : mZ M ≤ mZ M1 ∧ mS M ≤ mS M1) (hf : ej_mo M1 f) : ej_mo M f := fun K r hK h2 => ⟨Nat.le_trans h.1 (hf K r hK h2).1, Nat.le_trans h.2 (hf K r hK h2).2⟩
theorem mo_bkV {x : Option ej_R} {f : ej_Mem → ej_K → Option ej_R} (hx : ∀ v m, x = some (v, m) → mZ M ≤ mZ m ∧ mS M ≤ mS m) (h : ∀ m, ej_mo m (f m)) : ej_mo M (fun K => bkV x (fun m => f m K)) := by
  intro K r hK h2
  obtain ⟨m, h3, h4⟩ := bkV_some h2
  exact mo_le (hx _ _ h3) (h m) K r hK h4
theorem mo_bkI {x : Option ej_R} {f : Int32 → ej_Mem → ej_K → Option ej_R} (hx : ∀ v m, x = some (v, m) → mZ M ≤ mZ m ∧ mS M ≤ mS m) (h : ∀ y m, ej_mo m (f y m)) : ej_mo M (fun K => bkI x (fun y m => f y m K)) := by
  intro K r hK h2
  obtain ⟨y, m, h3, h4⟩ := bkI_some h2
  exact mo_le (hx _ _ h3) (h y m) K r hK h4
theorem mo_bkJ {x : Option ej_R} {f : Int64 → ej_Mem → ej_K → Option ej_R} (hx : ∀ v m, x = some (v, m) → mZ M ≤ mZ m ∧ mS M ≤ mS m) (h : ∀ y m, ej_mo m (f y m)) : ej_mo M (fun K => bkJ x (fun y m => f y m K)) := by
  intro K r hK h2
  obtain ⟨y, m, h3, h4⟩ := bkJ_some h2
  exact mo_le (hx _ _ h3) (h y m) K r hK h4
theorem mo_bkQ {x : Option ej_R} {g : ej_Mem → ej_K → Option ej_R} {f : Nat → ej_Mem → ej_K → Option ej_R} (hx : ∀ v m, x = some (v, m) → mZ M ≤ mZ m ∧ mS M ≤ mS m) (hg : ∀ m, ej_mo m (g m)) (h : ∀ y m, ej_mo m (f y m)) : ej_mo M (fun K => bkQ x (fun m => g m K) (fun y m => f y m K)) := by
  intro K r hK h2
  unfold bkQ at h2
  split at h2
  · exact mo_le (hx _ _ rfl) (h _ _) K r hK h2
  · exact mo_le (hx _ _ rfl) (hg _) K r hK h2
  · cases h2
end MONO
set_option maxHeartbeats 4000000 in
theorem mo_stp (sw : Nat → List (Int32 × Nat)) {cl : Nat → List Value → ej_Mem → Option ej_R} (hcl : ∀ a av M1 v M2, cl a av M1 = some (v, M2) → mZ M1 ≤ mZ M2 ∧ mS M1 ≤ mS M2) (i : ej_I) (pc len : Nat) (ls : ej_L) (st : List Value) (M : ej_Mem) : ej_mo M (ej_stp sw cl i pc len ls st M) := by
  show ej_mo M (fun K => ej_stp sw cl i pc len ls st M K)
  unfold ej_stp
  split <;> repeat' (first | exact mo_k ⟨Nat.le_refl _, Nat.le_refl _⟩ | exact mo_k ⟨Nat.le_succ _, Nat.le_add_right _ _⟩ | exact mo_r | exact mo_n | apply mo_uI | apply mo_uL | apply mo_uR | apply mo_uQ | apply mo_uV | apply mo_uW | apply mo_ld | apply mo_ckb | apply mo_ckk | apply mo_cnd | apply mo_ckq | apply mo_ckn | apply mo_q | (refine mo_swi ?_ ?_ _) | apply mo_deR | apply mo_deQ | (refine mo_bkV (fun v m h => hcl _ _ _ _ _ h) ?_) | (refine mo_bkI (fun v m h => hcl _ _ _ _ _ h) ?_) | (refine mo_bkJ (fun v m h => hcl _ _ _ _ _ h) ?_) | (refine mo_bkQ (fun v m h => hcl _ _ _ _ _ h) ?_ ?_) | apply mo_ite | intro _)
theorem mo_rf {sw : Nat → List (Int32 × Nat)} {code : Nat → Option (ej_I × Nat)} {cl : Nat → List Value → ej_Mem → Option ej_R} (hcl : ∀ a av M1 v M2, cl a av M1 = some (v, M2) → mZ M1 ≤ mZ M2 ∧ mS M1 ≤ mS M2) : ∀ (n : Nat) (pc : Nat) (ls : ej_L) (st : List Value) (M : ej_Mem) (r : ej_R), ej_rf sw code cl n pc ls st M = some r → mZ M ≤ mZ r.2 ∧ mS M ≤ mS r.2
  | 0, _, _, _, _, _, h => by cases h
  | n + 1, pc, ls, st, M, r, h => by
    have h : (match code pc with
      | some (i, len) => ej_stp sw cl i pc len ls st M (ej_rf sw code cl n)
      | none => none) = some r := h
    cases hc : code pc with
    | none => rw [hc] at h; cases h
    | some x =>
      obtain ⟨i, len⟩ := x
      rw [hc] at h
      exact mo_stp sw hcl i pc len ls st M _ r (fun p l s m hk => mo_rf hcl n p l s m r hk) h
section ALL
variable {p : Program} {l : Launch} {e : Env} {R : Room} {s : State} {m : MethodId} {args : Array Value} {below : List Frame} {meth : Method} {c : Code} {Q : State → Prop} {D : va_G} {cA : Nat → ClassId} {a0 : Nat → Nat} {bs : Nat} {vZ : Value} {L : Nat} {xs : Nat → Int32} {me z0 s0 d0 : Nat} {r : ej_R} {cl : Nat → List Value → ej_Mem → Option ej_R}
theorem stp99 {sw : Nat → List (Int32 × Nat)} {i : ej_I} {pc len : Nat} {ls : ej_L} {st : List Value} {M : ej_Mem} {K : ej_K} (h : i.1 = 99) : ej_stp sw cl i pc len ls st M K = none := by
  obtain ⟨op, a, b, d, cc, ee⟩ := i
  have h : op = 99 := h
  subst h
  rfl
theorem sound_rf (C : ej_Cx p s m args meth c D cA a0 bs vZ L xs me) (hme : me < 222) (hRc : mZ r.2 - z0 ≤ R.cells ∧ mS r.2 - s0 ≤ R.slots) (hR : d0 + 1 ≤ R.frames ∧ 38 * (d0 + 1) ≤ R.locals) (hcl : ∀ m av M1 v M2, m < 221 → cl m av M1 = some (v, M2) → ej_Met l D cA a0 bs vZ L xs d0 m av M1 v M2 ∧ mZ M1 ≤ mZ M2 ∧ mS M1 ≤ mS M2) (hcm : ∀ m av M1 v M2, cl m av M1 = some (v, M2) → mZ M1 ≤ mZ M2 ∧ mS M1 ≤ mS M2) (hI : ∀ {pc a : Nat} {ls : ej_L} {v : Int32} {M : ej_Mem}, decode (ej_b me) pc = .ok (.ireturn, 1) → ej_rk (ej_rt me) a = true → ej_nar a v → some (some (.int v), M) = some r → ej_G p l e R s m args below meth c Q D cA a0 bs vZ L xs me z0 s0 pc ls [.int v] M) (hJ : ∀ {pc : Nat} {ls : ej_L} {v : Int64} {M : ej_Mem}, decode (ej_b me) pc = .ok (.lreturn, 1) → ej_rt me = some .long → some (some (.long v), M) = some r → ej_G p l e R s m args below meth c Q D cA a0 bs vZ L xs me z0 s0 pc ls [.long v] M) (hA : ∀ {pc : Nat} {ls : ej_L} {q : Option Nat} {M : ej_Mem}, decode (ej_b me) pc = .ok (.areturn, 1) → ej_rr (ej_rt me) = true → some (some (va_rf q), M) = some r → ej_G p l e R s m args below meth c Q D cA a0 bs vZ L xs me z0 s0 pc ls [va_rf q] M) (hV : ∀ {pc : Nat} {ls : ej_L} {M : ej_Mem}, decode (ej_b me) pc = .ok (.return_, 1) → ej_rt me = none → some (none, M) = some r → ej_G p l e R s m args below meth c Q D cA a0 bs vZ L xs me z0 s0 pc ls [] M) :
    ∀ (n pc : Nat) (ls : ej_L) (st : List Value) (M : ej_Mem), ej_rf ej_sw (ej_code me) cl n pc ls st M = some r → ej_G p l e R s m args below meth c Q D cA a0 bs vZ L xs me z0 s0 pc ls st M
  | 0, _, _, _, _, h => by cases h
  | n + 1, pc, ls, st, M, h => by
    have h : (match ej_code me pc with
      | some (i, len) => ej_stp ej_sw cl i pc len ls st M (ej_rf ej_sw (ej_code me) cl n)
      | none => none) = some r := h
    cases hc : ej_code me pc with
    | none => rw [hc] at h; cases h
    | some x =>
      obtain ⟨i, len⟩ := x
      rw [hc] at h
      rcases code_ck hme hc with h99 | ⟨ins, hd, hm⟩
      · have h : ej_stp ej_sw cl i pc len ls st M (ej_rf ej_sw (ej_code me) cl n) = some r := h
        rw [stp99 h99] at h; cases h
      · exact sound_stp C hd hm h (fun pc ls st M hk => sound_rf C hme hRc hR hcl hcm hI hJ hA hV n pc ls st M hk) (fun pc ls st M hk => mo_rf hcm n pc ls st M r hk) hRc hR hcl hI hJ hA hV
theorem args_lv : ∀ (av : List Value) (hvz : vZ = .null ∨ ∃ t, vZ = .ref t) (k i : Nat) (v : Value), (ej_args av)[i]? = some (some v) → (k + i, ej_tr a0 bs vZ v) ∈ lv_args k (av.map (ej_tr a0 bs vZ))
  | [], _, k, i, v, h => by simp [ej_args] at h
  | w :: av, hvz, k, i, v, h => by
    rw [List.map_cons]
    unfold lv_args
    rw [tr_cat hvz]
    unfold ej_args at h
    cases i with
    | zero =>
      have : w = v := by simpa using h
      subst this
      exact List.mem_cons_self
    | succ j =>
      refine List.mem_cons_of_mem _ ?_
      by_cases hw : w.category = 2
      · rw [if_pos hw] at h ⊢
        cases j with
        | zero => simp at h
        | succ j =>
          have h : (ej_args av)[j]? = some (some v) := by simpa using h
          have := args_lv av hvz (k + 2) j v h
          rwa [show k + 2 + j = k + (j + 1 + 1) by omega] at this
      · rw [if_neg hw] at h ⊢
        have h : (ej_args av)[j]? = some (some v) := by simpa using h
        have := args_lv av hvz (k + 1) j v h
        rwa [show k + 1 + j = k + (j + 1) by omega] at this
theorem args_len : ∀ (av : List Value) (hvz : vZ = .null ∨ ∃ t, vZ = .ref t), (lg_sl (av.map (ej_tr a0 bs vZ))).length = (ej_args av).length
  | [], _ => rfl
  | w :: av, hvz => by
    have ih := args_len av hvz
    unfold ej_args
    have hc := tr_cat (a0 := a0) (bs := bs) hvz w
    simp only [lg_sl, List.map_cons, List.flatMap_cons, List.length_append, List.length_cons] at ih ⊢
    rw [hc]
    by_cases hw : w.category = 2
    · simp only [if_pos hw, List.length_cons, List.length_nil]
      omega
    · simp only [if_neg hw, List.length_cons, List.length_nil]
      omega
theorem ent_lc {av : List Value} {nL : Nat} (hvz : vZ = .null ∨ ∃ t, vZ = .ref t) (hle : (ej_args av).length ≤ nL) : ej_Lc a0 bs vZ nL ((lg_sl (av.map (ej_tr a0 bs vZ)) ++ List.replicate (nL - (lg_sl (av.map (ej_tr a0 bs vZ))).length) Slot.unset).toArray) (ej_ent nL av) := by
  have hl := lv_entry (av.map (ej_tr a0 bs vZ)) (n := nL) (by rw [args_len av hvz]; exact hle)
  refine ⟨hl.1, by simp [ej_ent]; omega, hl.2.1, fun i v hi => ?_⟩
  have hi2 : (ej_args av)[i]? = some (some v) := by
    unfold ej_ent at hi
    by_cases h : i < (ej_args av).length
    · rwa [List.getElem?_append_left h] at hi
    · rw [List.getElem?_append_right (by omega)] at hi
      have := List.mem_of_getElem? hi
      simp at this
  have := hl.2.2 _ (args_lv av hvz 0 i v hi2)
  simpa using this
end ALL
