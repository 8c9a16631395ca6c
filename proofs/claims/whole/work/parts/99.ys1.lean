/-! a new piece -/
theorem CXk.af0 {M M1 : ej_Mem} {t : Nat} {tp : Nat → Nat} {p dp br c lo0 : Nat} {xs : List Nat} {ps : List Prd} (h : CXk M t tp p dp br c xs ps lo0) (hc : c < 60) {set lo hi : Int32} (G2 : Fr (fun o k => 62 ≤ o ∨ (o = 61 ∧ 4 ≤ k)) M M1) (v62 : aI M1 62 = va_up (va_up (va_up (va_up (va_up (aI M 62) (5 * c) set) (5 * c + 1) lo) (5 * c + 2) hi) (5 * c + 3) (-1)) (5 * c + 4) (-1)) (v65 : aI M1 65 = va_up (aI M 65) ps.length (nI (5 * c))) (v66 : aI M1 66 = va_up (aI M 66) ps.length (nI (5 * c + 3))) (v67 : aI M1 67 = va_up (aI M 67) ps.length (nI (5 * c + 4))) (v64 : aI M1 64 = aI M 64) (i6 : mI M1 61 6 = nI (5 * c + 5)) (i16 : mI M1 61 16 = nI (ps.length + 1)) (i10 : mI M1 61 10 = mI M 61 10) (i11 : mI M1 61 11 = mI M 61 11) (i12 : mI M1 61 12 = mI M 61 12) : CXk M1 t tp p dp br (c + 1) xs (fP set lo hi :: ps) lo0 := by
  obtain ⟨h1, ⟨a6, a10, a11, a12, a16⟩, h3, h4⟩ := h
  have le := PSt_le ps c h4
  have c1 : CLk M1 t tp p 0 := h1.keep G2 (fun o k q => q)
  have c2 : mI M1 61 6 = nI (5 * (c + 1)) := by rw [i6, show 5 * (c + 1) = 5 * c + 5 by omega]
  have z3 : aI M1 62 (5 * c + 3) = -1 := by rw [v62, up_n (by omega), up_s]
  have z4 : aI M1 62 (5 * c + 4) = -1 := by rw [v62, up_s]
  have z0 : aI M1 62 (5 * c) = set := by rw [v62, up_n (by omega), up_n (by omega), up_n (by omega), up_n (by omega), up_s]
  have z1 : aI M1 62 (5 * c + 1) = lo := by rw [v62, up_n (by omega), up_n (by omega), up_n (by omega), up_s]
  have z2 : aI M1 62 (5 * c + 2) = hi := by rw [v62, up_n (by omega), up_n (by omega), up_s]
  have pc1 := Pce.one (F := aI M1 62) (lo := c) (by omega) z0 z1 z2
  have q1 : PSt (aI M1 62) (aI M1 65) (aI M1 66) (aI M1 67) lo0 c ps := by
    refine PSt_cg ps c (fun x l u => ?_) (fun i hi => ⟨by rw [v65, up_n (by omega)], by rw [v66, up_n (by omega)], by rw [v67, up_n (by omega)]⟩) h4
    rw [v62, up_n (by omega), up_n (by omega), up_n (by omega), up_n (by omega), up_n (by omega)]
  have q2 : aI M1 65 ps.length = nI (5 * c) := by rw [v65, up_s]
  have q3 : aI M1 66 ps.length = nI (5 * c + 3) := by rw [v66, up_s]
  have q4 : aI M1 67 ps.length = nI (5 * c + 4) := by rw [v67, up_s]
  have q5 : PSt (aI M1 62) (aI M1 65) (aI M1 66) (aI M1 67) lo0 (c + 1) (fP set lo hi :: ps) := ⟨c, [5 * c + 3], [5 * c + 4], ⟨le, Nat.lt_succ_self c⟩, q2, ⟨q3, z3⟩, ⟨q4, z4⟩, pc1, q1⟩
  exact ⟨c1, ⟨c2, i10.trans a10, i11.trans a11, i12.trans a12, i16⟩, v64.symm ▸ h3, q5⟩
theorem afM_i (M : ej_Mem) (c n : Nat) (set lo hi : Int32) : mI (afM M c n set lo hi) 61 6 = nI (5 * c + 5) ∧ mI (afM M c n set lo hi) 61 16 = nI (n + 1) ∧ mI (afM M c n set lo hi) 61 10 = mI M 61 10 ∧ mI (afM M c n set lo hi) 61 11 = mI M 61 11 ∧ mI (afM M c n set lo hi) 61 12 = mI M 61 12 := by
  unfold afM
  have e : ∀ (X : ej_Mem) (a b v), mI (setA X a b v) = mI X := fun _ _ _ _ => rfl
  refine ⟨gI_s _ _ _ _, ?_, ?_, ?_, ?_⟩
  · rw [gI_n (by omega), gI_s]
  · rw [gI_n (by omega), gI_n (by omega), e, e, e, e, e, e, e, e]
  · rw [gI_n (by omega), gI_n (by omega), e, e, e, e, e, e, e, e]
  · rw [gI_n (by omega), gI_n (by omega), e, e, e, e, e, e, e, e]
theorem CXk.af {M : ej_Mem} {t : Nat} {tp : Nat → Nat} {p dp br c lo0 : Nat} {xs : List Nat} {ps : List Prd} (h : CXk M t tp p dp br c xs ps lo0) (hc : c < 60) (set lo hi : Int32) : Fr (Pk lo0) M (afM M c ps.length set lo hi) ∧ CXk (afM M c ps.length set lo hi) t tp p dp br (c + 1) xs (fP set lo hi :: ps) lo0 := by
  have le := PSt_le ps c h.2.2.2
  have i := afM_i M c ps.length set lo hi
  have v62 := afM_62 M c ps.length set lo hi
  have v := afM_o M c ps.length set lo hi
  have g1 := afM_fr M c ps.length set lo hi (P := Pk lo0) (fun k hk => Or.inr (Or.inr ⟨rfl, by omega⟩)) (fun o k q1 q2 => Or.inr (Or.inl ⟨q1, q2⟩)) (Or.inl ⟨rfl, by omega⟩) (Or.inl ⟨rfl, by omega⟩)
  have g2 := afM_fr M c ps.length set lo hi (P := fun o k => 62 ≤ o ∨ (o = 61 ∧ 4 ≤ k)) (fun k _ => Or.inl (by decide)) (fun o k q1 q2 => Or.inl (by omega)) (Or.inr ⟨rfl, by decide⟩) (Or.inr ⟨rfl, by decide⟩)
  exact ⟨g1, h.af0 hc g2 v62 v.1 v.2.1 v.2.2.1 v.2.2.2 i.1 i.2.1 i.2.2.1 i.2.2.2.1 i.2.2.2.2⟩
