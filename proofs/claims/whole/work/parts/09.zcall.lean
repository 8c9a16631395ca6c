/-! a whole method of my machine is a contract of the model's -/
theorem rk_spec {t : Option FieldType} {a : Nat} {v : Int32} (h : ej_rk t a = true) (hn : ej_nar a v) : ∃ ty, t = some ty ∧ narrow ty (.int v) = .int v := by
  unfold ej_rk at h
  split at h
  · exact ⟨.int, rfl, rfl⟩
  · have e := Nat.eq_of_beq_eq_true h
    subst e
    refine ⟨.boolean, rfl, ?_⟩
    rcases hn with rfl | rfl <;> rfl
  · have e := Nat.eq_of_beq_eq_true h
    subst e
    exact ⟨.byte, rfl, hn⟩
  · have e := Nat.eq_of_beq_eq_true h
    subst e
    exact ⟨.char, rfl, hn⟩
  · cases h
theorem rr_spec {t : Option FieldType} (h : ej_rr t = true) : ∃ rt, t = some rt ∧ ((∃ n, rt = .object n) ∨ ∃ u, rt = .array u) := by
  unfold ej_rr at h
  split at h
  · exact ⟨_, rfl, Or.inl ⟨_, rfl⟩⟩
  · exact ⟨_, rfl, Or.inr ⟨_, rfl⟩⟩
  · cases h
theorem call_mo : ∀ (d m : Nat) (av : List Value) (M1 : ej_Mem) (v : Option Value) (M2 : ej_Mem), ej_call ej_sw ej_code ej_mx d m av M1 = some (v, M2) → mZ M1 ≤ mZ M2 ∧ mS M1 ≤ mS M2
  | 0, _, _, _, _, _, h => by cases h
  | d + 1, m, av, M1, v, M2, h => by
    unfold ej_call at h
    split at h
    · obtain ⟨n, hn⟩ := (run_iff _ _ _ _ _ _ _ _).mp h
      exact mo_rf (fun a av M1 v M2 hc => call_mo d a av M1 v M2 hc) n _ _ _ _ _ hn
    · cases h
theorem math_no : ∀ m, m < 222 → ej_own m = 13 → ej_tabs.getD m [] = [] := by
  intro m hm h
  have : ∀ m, m < 222 → Nat.beq (ej_own m) 13 = true → (ej_tabs.getD m []).isEmpty = true := by decide +kernel
  exact List.isEmpty_iff.mp (this m hm (by rw [h]; rfl))
section CALLS
variable {l : Launch} {D : va_G} {cA : Nat → ClassId} {a0 : Nat → Nat} {bs : Nat} {vZ : Value} {L : Nat} {xs : Nat → Int32}
set_option maxHeartbeats 1000000 in
theorem sound_call (hvz : vZ = .null ∨ ∃ t, vZ = .ref t) : ∀ (d m : Nat) (av : List Value) (M1 : ej_Mem) (v : Option Value) (M2 : ej_Mem), m < 221 → ej_call ej_sw ej_code ej_mx d m av M1 = some (v, M2) → ej_Met l D cA a0 bs vZ L xs d m av M1 v M2 ∧ mZ M1 ≤ mZ M2 ∧ mS M1 ≤ mS M2
  | 0, _, _, _, _, _, _, h => by cases h
  | d + 1, m, av, M1, v, M2, hm, h => by
    refine ⟨?_, call_mo _ _ _ _ _ _ h⟩
    unfold ej_call at h
    split at h
    · rename_i hle
      obtain ⟨n, hn⟩ := (run_iff _ _ _ _ _ _ _ _).mp h
      obtain ⟨hy, how, -⟩ := own_ok m (by omega)
      have hplain : Jvm.plainName (ej_y m).cls = true := by
        rcases (cls_ok _ how).2.2 with h13 | hp
        · exfalso
          have he := math_no m (by omega) h13
          cases n with
          | zero => cases hn
          | succ n =>
            have hn : (match ej_code m 0 with
              | some (i, len) => ej_stp ej_sw (ej_call ej_sw ej_code ej_mx d) i 0 len (ej_ent (ej_mx m) av) [] M1 (ej_rf ej_sw (ej_code m) (ej_call ej_sw ej_code ej_mx d) n)
              | none => none) = some (v, M2) := hn
            have hc : ej_code m 0 = none := by unfold ej_code; rw [he]; rfl
            rw [hc] at hn
            cases hn
        · rw [hy]; exact hp
      refine Met.ofW (cc := ej_b m) (maxL := ej_mx m) (ret := ej_rt m) hplain rfl ?_
      intro p e s m' args below meth c s₁ B hml hv
      obtain ⟨rfl, hSF, hWP⟩ := hv
      have hts := atoms_spec (ws := ej_ws m) B.pre
      have C : ej_Cx p s m' (av.map (ej_tr a0 bs vZ)).toArray meth c D cA a0 bs vZ L xs m := ⟨B.exec, B.bytes, hml, by rw [← hy]; exact findClass_of_methodNamed B.named, fun w hw => hts w (List.mem_cons_of_mem _ hw), hSF, by rw [hWP.2.1]; omega, fun hi => ((name_of_methodNamed B.named B.method).1).trans hi⟩
      rw [lg_entry_eq]
      have hG := sound_rf (l := l) (e := e) (below := below) (meth := meth) (Q := MQ below (ej_Qc D cA a0 bs vZ L xs v M2) (av.map (ej_tr a0 bs vZ)).toArray s (mZ M2 - mZ M1) (mS M2 - mS M1) (ej_A bs)) (R := ej_rm (d + 1) (mZ M2 - mZ M1) (mS M2 - mS M1)) (z0 := mZ M1) (s0 := mS M1) (d0 := d) (r := (v, M2)) C (by omega) ⟨Nat.le_refl _, Nat.le_refl _⟩ ⟨Nat.le_refl _, Nat.le_refl _⟩
        (fun a av1 M3 v1 M4 ha hc => sound_call hvz d a av1 M3 v1 M4 ha hc) (fun a av1 M3 v1 M4 hc => call_mo d a av1 M3 v1 M4 hc)
        (fun {pc a ls v' M} hd hk hnr he => by
          cases he
          intro H locs la hW hS hL hz hs
          obtain ⟨ty, hty, hnar⟩ := rk_spec hk hnr
          exact W.zret (ty := ty) C.1 C.2.1 (B.returns.trans hty) hnar (fun t ht _ => ⟨rfl, by rw [ht]; exact hW, hS.F ht⟩) (fun q hq => hS.2.2 q hq) hd B.notSynchronized)
        (fun {pc ls v' M} hd hk he => by
          cases he
          intro H locs la hW hS hL hz hs
          exact W.lret C.1 C.2.1 (B.returns.trans hk) (fun t ht _ => ⟨rfl, by rw [ht]; exact hW, hS.F ht⟩) (fun q hq => hS.2.2 q hq) hd B.notSynchronized)
        (fun {pc ls q M} hd hk he => by
          cases he
          intro H locs la hW hS hL hz hs
          obtain ⟨rt, hrt, hor⟩ := rr_spec hk
          exact W.aret (v := ej_tr a0 bs vZ (va_rf q)) C.1 C.2.1 (B.returns.trans hrt) hor (by cases q; exact Or.inl rfl; exact Or.inr ⟨_, rfl⟩) (fun t ht _ => ⟨rfl, by rw [ht]; exact hW, hS.F ht⟩) (fun q hq => hS.2.2 q hq) hd B.notSynchronized)
        (fun {pc ls M} hd hk he => by
          cases he
          intro H locs la hW hS hL hz hs
          exact W.vret C.1 C.2.1 (B.returns.trans hk) (fun t ht _ => ⟨rfl, by rw [ht]; exact hW, hS.F ht⟩) (fun q hq => hS.2.2 q hq) hd B.notSynchronized)
        n 0 (ej_ent (ej_mx m) av) [] M1 hn
      have hh := hG s.heap [] _ hWP va_S.rf (ent_lc hvz hle) (Nat.le_refl _) (Nat.le_refl _)
      rw [Nat.sub_self, Nat.sub_self] at hh
      exact hh
    · cases h
end CALLS
