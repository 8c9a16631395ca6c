/-! every instruction of my tables is the decoded one: written by wip/gen/checks.py -/
def ej_ck (m : Nat) (e : Nat × ej_I × Nat) : Bool := Nat.beq e.2.1.1 99 || (match decode (ej_b m) e.1 with
  | .ok (ins, len) => Nat.beq len e.2.2 && ej_mt m e.1 len ins e.2.1
  | _ => false)
def ckP (m : Nat) : Prop := (ej_tabs.getD m []).all (ej_ck m) = true
theorem all_ch {α : Type} {l : List α} {f : α → Bool} (n : Nat) (hl : l.length ≤ 40 * n) (h : ∀ k, k < n → ((l.drop (40 * k)).take 40).all f = true) : l.all f = true := by
  rw [List.all_eq_true]
  intro x hx
  obtain ⟨i, hi⟩ := List.getElem?_of_mem hx
  have hlt := (List.getElem?_eq_some_iff.mp hi).1
  refine List.all_eq_true.mp (h (i / 40) (by omega)) x (List.mem_of_getElem? (i := i % 40) ?_)
  rw [List.getElem?_take, if_pos (by omega), List.getElem?_drop, show 40 * (i / 40) + i % 40 = i by omega]
  exact hi
theorem ck_221 : ∀ m, m < 222 → ckP m := sorry
theorem code_ck {m pc : Nat} {i : ej_I} {len : Nat} (hm : m < 222) (h : ej_code m pc = some (i, len)) : i.1 = 99 ∨ ∃ ins, decode (ej_b m) pc = .ok (ins, len) ∧ ej_mt m pc len ins i = true := by
  unfold ej_code at h
  cases hf : (ej_tabs.getD m []).find? (fun e => Nat.beq e.1 pc) with
  | none => rw [hf] at h; cases h
  | some e =>
    rw [hf] at h
    obtain ⟨pc', i', len'⟩ := e
    have h1 := List.find?_some hf
    have h2 := List.all_eq_true.mp (ck_221 m hm) _ (List.mem_of_find?_eq_some hf)
    have e1 : pc' = pc := Nat.eq_of_beq_eq_true h1
    have e2 : (i', len') = (i, len) := Option.some.inj h
    have ei : i' = i := congrArg Prod.fst e2
    have el : len' = len := congrArg Prod.snd e2
    rw [← ei, ← el, ← e1]
    simp only [ej_ck, Bool.or_eq_true] at h2
    rcases h2 with h2 | h2
    · exact Or.inl (Nat.eq_of_beq_eq_true h2)
    · refine Or.inr ?_
      split at h2
      · rename_i ins len2 hd
        simp only [Bool.and_eq_true] at h2
        have e3 : len2 = len' := Nat.eq_of_beq_eq_true h2.1
        rw [e3] at hd h2
        exact ⟨ins, hd, h2.2⟩
      · cases h2
