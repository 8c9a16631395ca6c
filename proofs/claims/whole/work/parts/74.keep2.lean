theorem kz_rf (sw : Nat → List (Int32 × Nat)) (code : Nat → Option (ej_I × Nat)) (cl : Nat → List Value → ej_Mem → Option ej_R) (G : Nat → Bool) {Z S : Nat} (hcode : ∀ pc i len, code pc = some (i, len) → gdI G i = true) (hc : ∀ a args M1, G a = true → mZ M1 = Z → mS M1 = S → kzr Z S (cl a args M1)) : ∀ (n pc : Nat) (ls : ej_L) (st : List Value) (M : ej_Mem), mZ M = Z → mS M = S → kzr Z S (ej_rf sw code cl n pc ls st M)
  | 0, _, _, _, _, _, _ => fun _ h => by cases h
  | n + 1, pc, ls, st, M, h1, h2 => by
    intro r h
    have h' : ej_sp sw code cl pc ls st M (ej_rf sw code cl n) = some r := h
    unfold ej_sp at h'
    cases e : code pc with
    | none => rw [e] at h'; cases h'
    | some x =>
      obtain ⟨i, len⟩ := x
      rw [e] at h'
      exact kz_stp sw cl G i pc len ls st M h1 h2 (hcode pc i len e) hc (ej_rf sw code cl n) (fun p l s m a b => kz_rf sw code cl G hcode hc n p l s m a b) r h'
def kB : List Nat := [0, 1, 29, 43, 45, 56, 57, 58, 59, 66, 75, 78, 87, 106, 107, 117, 219, 221]
def kG (m : Nat) : Bool := Nat.blt m 222 && !(kB.any (Nat.beq m))
theorem kG_chk : (List.range 222).all (fun m => !kG m || (ej_tabs.getD m []).all (fun e => gdI kG e.2.1)) = true := by decide +kernel
theorem kG_tab {m : Nat} (h : kG m = true) : ∀ e, e ∈ ej_tabs.getD m [] → gdI kG e.2.1 = true := by
  have hm : m < 222 := by
    unfold kG at h
    rw [Bool.and_eq_true] at h
    exact Nat.blt_eq.mp h.1
  have := List.all_eq_true.mp kG_chk m (List.mem_range.mpr hm)
  rw [h] at this
  exact fun e he => List.all_eq_true.mp this e he
theorem kG_code {m : Nat} (h : kG m = true) (pc : Nat) (i : ej_I) (len : Nat) (e : ej_code m pc = some (i, len)) : gdI kG i = true := by
  unfold ej_code at e
  rw [Option.map_eq_some_iff] at e
  obtain ⟨x, hx, ex⟩ := e
  have := kG_tab h x (List.mem_of_find?_eq_some hx)
  rw [ex] at this
  exact this
theorem kz_call : ∀ (d m : Nat) (args : List Value) (M : ej_Mem), kG m = true → kzr (mZ M) (mS M) (ej_call ej_sw ej_code ej_mx d m args M)
  | 0, _, _, _, _ => fun _ h => by cases h
  | d + 1, m, args, M, hm => by
    intro r h
    unfold ej_call at h
    split at h
    · obtain ⟨n, hn⟩ := (run_iff ej_sw (ej_code m) (ej_call ej_sw ej_code ej_mx d) 0 _ [] M r).mp h
      exact kz_rf ej_sw (ej_code m) _ kG (kG_code hm) (fun a args M1 ha e1 e2 => by rw [← e1, ← e2]; exact kz_call d a args M1 ha) n 0 _ [] M rfl rfl r hn
    · cases h
theorem keep {D m : Nat} {args : List Value} {M M' : ej_Mem} {v : Option Value} (h : cal D m args M = some (v, M')) (hm : kG m = true) : mZ M' = mZ M ∧ mS M' = mS M := kz_call D m args M hm (v, M') h
