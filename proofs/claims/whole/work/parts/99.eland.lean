/-! a new land -/
theorem st_new {M : ej_Mem} (l f kd n : Nat) (hl : l < mZ M) : FrG (fun o k => o = l ∧ k = f) M (setR (newM M kd n n) l f (some (mZ M))) ∧ (mZ (setR (newM M kd n n) l f (some (mZ M))) = mZ M + 1 ∧ mS (setR (newM M kd n n) l f (some (mZ M))) = mS M + n) ∧ (mC (setR (newM M kd n n) l f (some (mZ M))) (mZ M) = kd ∧ mN (setR (newM M kd n n) l f (some (mZ M))) (mZ M) = n ∧ aI (setR (newM M kd n n) l f (some (mZ M))) (mZ M) = (fun _ => 0) ∧ aR (setR (newM M kd n n) l f (some (mZ M))) (mZ M) = fun _ => none) ∧ mR (setR (newM M kd n n) l f (some (mZ M))) l f = some (mZ M) := by
  have e : ∀ {α : Type} (a b : α), (if mZ M = mZ M then a else b) = a := fun a b => if_pos rfl
  exact ⟨(FrG.new _ M kd n n).trans (FrG.setR (P := fun o k => o = l ∧ k = f) _ _ ⟨rfl, rfl⟩), ⟨rfl, rfl⟩, ⟨e _ _, e _ _, e _ _, e _ _⟩, gR_s _ _ _ _⟩
theorem fill_loop (cl : Nat → List Value → ej_Mem → Option ej_R) {x : Nat} {v : Int32} {N : Nat} (hN : N < 2 ^ 31) : ∀ (n j : Nat) (M : ej_Mem), j + n = N → mC M x = 100 → mN M x = N → ∃ M', rn jm_Arrs_fill_53178 cl 5 [some (.ref x), some (.int v), some (.int (nI j)), some (.int (nI N))] [] M = some (none, M') ∧ Fr (fun o _ => o = x) M M' ∧ (∀ k, k < j → aI M' x k = aI M x k) ∧ ∀ k, j ≤ k → k < N → aI M' x k = v
  | 0, j, M, hj, hc, hn => by
    rw [eq_Arrs_fill_53178_5]
    rw [if_pos (nI_le (by omega) (by omega))]
    exact ⟨M, rfl, Fr.refl _ M, fun _ _ => rfl, fun k h1 h2 => by omega⟩
  | n + 1, j, M, hj, hc, hn => by
    rw [eq_Arrs_fill_53178_5]
    rw [if_neg (nI_ge (by omega) (by omega)), ckk_t hc, hn, ckb_n (by omega) hN, nI_clamp (by omega), nI_1]
    have f0 : Fr (fun o _ => o = x) M (setA M x j v) := Fr.setA (P := fun o _ => o = x) M v rfl
    obtain ⟨M', e, f, h1, h2⟩ := fill_loop cl hN n (j + 1) (setA M x j v) (by omega) hc hn
    refine ⟨M', e, f0.trans f, fun k hk => ?_, fun k a b => ?_⟩
    · rw [h1 k (by omega), gA_n (by omega)]
    · by_cases q : k = j
      · subst q; rw [h1 k (by omega), gA_s]
      · exact h2 k (by omega) b
theorem p_fill {D : Nat} (hD : 1 ≤ D) {M : ej_Mem} {x N : Nat} {v : Int32} (hN : N < 2 ^ 31) (hc : mC M x = 100) (hn : mN M x = N) : ∃ M', cal D jm_Arrs_fill_53178 [.ref x, .int v] M = some (none, M') ∧ Fr (fun o _ => o = x) M M' ∧ ∀ k, k < N → aI M' x k = v := by
  obtain ⟨d, rfl⟩ : ∃ d, D = d + 1 := ⟨D - 1, by omega⟩
  rw [ca_Arrs_fill_53178, eq_Arrs_fill_53178_0, ckk_t (by rw [hc]; decide), hn]
  obtain ⟨M', e, f, _, h⟩ := fill_loop (cal d) (v := v) hN N 0 M (by omega) hc hn
  exact ⟨M', e, f, fun k hk => h k (by omega) hk⟩
/-- new rolls -/
def RI (M : ej_Mem) (r : Nat) : Prop := (mC M r = 4 ∧ mR M r 1 = some (r + 1) ∧ mR M r 2 = some (r + 2) ∧ mR M r 3 = some (r + 3) ∧ mR M r 4 = some (r + 4)) ∧ (mC M (r + 1) = 100 ∧ mC M (r + 2) = 100 ∧ mC M (r + 3) = 100 ∧ mC M (r + 4) = 100) ∧ (mN M (r + 1) = 30 ∧ mN M (r + 2) = 30 ∧ mN M (r + 3) = 30 ∧ mN M (r + 4) = 720) ∧ mI M r 0 = 0
theorem p_rollsInit {D : Nat} (hD : 1 ≤ D) (M0 : ej_Mem) : ∃ M', cal D jm_Rolls_init [.ref (mZ M0)] (newM M0 4 0 5) = some (none, M') ∧ FrG (fun o _ => o = mZ M0) M0 M' ∧ RI M' (mZ M0) ∧ mZ M' = mZ M0 + 5 ∧ mS M' = mS M0 + 815 := by
  obtain ⟨d, rfl⟩ : ∃ d, D = d + 1 := ⟨D - 1, by omega⟩
  rw [ca_Rolls_init, eq_Rolls_init_0]
  have c0 : mC (newM M0 4 0 5) (mZ M0) = 4 := by rw [nw_c, if_pos rfl]
  rw [ckk_t c0]
  have f0 : FrG (fun o _ => o = mZ M0) M0 (setI (newM M0 4 0 5) (mZ M0) 0 0) := (FrG.new _ M0 4 0 5).trans (FrG.setI (P := fun o _ => o = mZ M0) _ _ rfl)
  have i0 : mI (setI (newM M0 4 0 5) (mZ M0) 0 0) (mZ M0) 0 = 0 := gI_s _ _ _ _
  have c0' : mC (setI (newM M0 4 0 5) (mZ M0) 0 0) (mZ M0) = 4 := c0
  have z0 : mZ (setI (newM M0 4 0 5) (mZ M0) 0 0) = mZ M0 + 1 := rfl
  have s0 : mS (setI (newM M0 4 0 5) (mZ M0) 0 0) = mS M0 + 5 := rfl
  generalize mZ M0 = r at *
  generalize setI (newM M0 4 0 5) r 0 0 = M1 at *
  have q1 := st_new (M := M1) r 1 100 30 (by omega)
  have k1 : mC (newM M1 100 30 30) r = 4 := by rw [nw_c, if_neg (by omega)]; exact c0'
  rw [eq_Rolls_init_9]
  rw [show Int32.toNatClampNeg 30 = 30 from by decide, ckk_t (by decide), ckk_t k1]
  rw [show mZ M1 = r + 1 by omega] at q1 ⊢
  generalize setR (newM M1 100 30 30) r 1 (some (r + 1)) = M2 at *
  obtain ⟨f1, ⟨z1, s1⟩, ⟨a1, b1, _, _⟩, r1⟩ := q1
  have c1 : mC M2 r = 4 := by rw [(f1.2.1 r (by omega)).1]; exact c0'
  have q2 := st_new (M := M2) r 2 100 30 (by omega)
  have k2 : mC (newM M2 100 30 30) r = 4 := by rw [nw_c, if_neg (by omega)]; exact c1
  rw [eq_Rolls_init_17]
  rw [show Int32.toNatClampNeg 30 = 30 from by decide, ckk_t (by decide), ckk_t k2]
  rw [show mZ M2 = r + 2 by omega] at q2 ⊢
  generalize setR (newM M2 100 30 30) r 2 (some (r + 2)) = M3 at *
  obtain ⟨f2, ⟨z2, s2⟩, ⟨a2, b2, _, _⟩, r2⟩ := q2
  have c2 : mC M3 r = 4 := by rw [(f2.2.1 r (by omega)).1]; exact c1
  have q3 := st_new (M := M3) r 3 100 30 (by omega)
  have k3 : mC (newM M3 100 30 30) r = 4 := by rw [nw_c, if_neg (by omega)]; exact c2
  rw [eq_Rolls_init_25]
  rw [show Int32.toNatClampNeg 30 = 30 from by decide, ckk_t (by decide), ckk_t k3]
  rw [show mZ M3 = r + 3 by omega] at q3 ⊢
  generalize setR (newM M3 100 30 30) r 3 (some (r + 3)) = M4 at *
  obtain ⟨f3, ⟨z3, s3⟩, ⟨a3, b3, _, _⟩, r3⟩ := q3
  have c3 : mC M4 r = 4 := by rw [(f3.2.1 r (by omega)).1]; exact c2
  have q4 := st_new (M := M4) r 4 100 720 (by omega)
  have k4 : mC (newM M4 100 720 720) r = 4 := by rw [nw_c, if_neg (by omega)]; exact c3
  rw [eq_Rolls_init_33]
  rw [show Int32.toNatClampNeg 720 = 720 from by decide, ckk_t (by decide), ckk_t k4]
  rw [show mZ M4 = r + 4 by omega] at q4 ⊢
  generalize setR (newM M4 100 720 720) r 4 (some (r + 4)) = M5 at *
  obtain ⟨f4, ⟨z4, s4⟩, ⟨a4, b4, _, _⟩, r4⟩ := q4
  have c4 : mC M5 r = 4 := by rw [(f4.2.1 r (by omega)).1]; exact c3
  rw [eq_Rolls_init_42]
  have F : FrG (fun o _ => o = r) M0 M5 := (((f0.trans (f1.mono (fun o k _ q => q.1))).trans (f2.mono (fun o k _ q => q.1))).trans (f3.mono (fun o k _ q => q.1))).trans (f4.mono (fun o k _ q => q.1))
  refine ⟨M5, rfl, F, ⟨⟨c4, ?_, ?_, ?_, r4⟩, ⟨?_, ?_, ?_, a4⟩, ⟨?_, ?_, ?_, b4⟩, ?_⟩, by omega, by omega⟩
  · rw [f4.ri (by omega) (by omega), f3.ri (by omega) (by omega), f2.ri (by omega) (by omega)]; exact r1
  · rw [f4.ri (by omega) (by omega), f3.ri (by omega) (by omega)]; exact r2
  · rw [f4.ri (by omega) (by omega)]; exact r3
  · rw [(f4.2.1 _ (by omega)).1, (f3.2.1 _ (by omega)).1, (f2.2.1 _ (by omega)).1]; exact a1
  · rw [(f4.2.1 _ (by omega)).1, (f3.2.1 _ (by omega)).1]; exact a2
  · rw [(f4.2.1 _ (by omega)).1]; exact a3
  · rw [(f4.2.1 _ (by omega)).2, (f3.2.1 _ (by omega)).2, (f2.2.1 _ (by omega)).2]; exact b1
  · rw [(f4.2.1 _ (by omega)).2, (f3.2.1 _ (by omega)).2]; exact b2
  · rw [(f4.2.1 _ (by omega)).2]; exact b3
  · rw [f4.ii (by omega) (by omega), f3.ii (by omega) (by omega), f2.ii (by omega) (by omega), f1.ii (by omega) (by omega)]; exact i0
