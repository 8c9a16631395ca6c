def V0 : View := (fun _ => 0, fun _ _ => (0, 0, 0, 0, 0, fun _ => false, fun _ => 0), fun _ => (0, 0), 0, fun _ => -1, (0, fun _ => (0, 0, [])), (b_none, 0, 0, 0))
theorem V0_ok : VOK V0 := ⟨fun k _ => Nat.zero_le _, fun m h => absurd h (Nat.not_lt_zero m), fun m h => absurd h (Nat.not_lt_zero m), ⟨Nat.zero_le _, fun m h => absurd h (Nat.not_lt_zero m)⟩, Or.inl rfl, fun r _ => ⟨show (-1 : Int32) ≤ -1 by decide, show (-1 : Int32) ≤ 15 by decide⟩⟩
def ownL (own : Nat → Nat) (l tag : Nat) (o : Nat) : Nat := if l ≤ o ∧ o ≤ l + 10 then tag else own o
theorem p_landInit {D : Nat} (hD : 2 ≤ D) {M0 : ej_Mem} (hS : ST M0) (hz : 3 ≤ mZ M0) (own : Nat → Nat) (tag : Nat) : ∃ M', cal D jm_Land_init [.ref (mZ M0)] (newM M0 3 0 11) = some (none, M') ∧ FrG (fun o _ => o = mZ M0) M0 M' ∧ LV M' (ownL own (mZ M0) tag) (mZ M0) tag V0 ∧ mR M' (mZ M0) 7 = none ∧ mZ M' = mZ M0 + 11 ∧ mS M' = mS M0 + 1006 := by
  obtain ⟨d, rfl⟩ : ∃ d, D = d + 1 := ⟨D - 1, by omega⟩
  have c0 : mC (newM M0 3 0 11) (mZ M0) = 3 := by rw [nw_c, if_pos rfl]
  have f0 : FrG (fun o _ => o = mZ M0) M0 (newM M0 3 0 11) := FrG.new _ M0 3 0 11
  have z0 : mZ (newM M0 3 0 11) = mZ M0 + 1 := rfl
  have s0 : mS (newM M0 3 0 11) = mS M0 + 11 := rfl
  rw [ca_Land_init]
  generalize hl : mZ M0 = l at *
  generalize newM M0 3 0 11 = M1 at *
  have F1 : FrG (fun o _ => o = l) M0 M1 := f0
  have q1 := st_new (M := M1) l 0 103 72 (by omega)
  have k1 : mC (newM M1 103 72 72) l = 3 := by rw [nw_c, if_neg (by omega)]; exact c0
  rw [eq_Land_init_0]
  rw [show Int32.toNatClampNeg 72 = 72 from by decide, ckk_t (by decide), ckk_t k1]
  rw [show mZ M1 = l + 1 by omega] at q1 ⊢
  generalize setR (newM M1 103 72 72) l 0 (some (l + 1)) = M2 at *
  obtain ⟨f1, ⟨z1, s1⟩, ⟨a1, b1, x1, y1⟩, r1⟩ := q1
  have c1 : mC M2 l = 3 := by rw [(f1.2.1 l (by omega)).1]; exact c0
  have F2 : FrG (fun o _ => o = l) M0 M2 := F1.trans (f1.mono (fun o k _ q => q.1))
  have q2 := st_new (M := M2) l 1 100 4 (by omega)
  have k2 : mC (newM M2 100 4 4) l = 3 := by rw [nw_c, if_neg (by omega)]; exact c1
  rw [eq_Land_init_13]
  rw [show Int32.toNatClampNeg 4 = 4 from by decide, ckk_t (by decide), ckk_t k2]
  rw [show mZ M2 = l + 2 by omega] at q2 ⊢
  generalize setR (newM M2 100 4 4) l 1 (some (l + 2)) = M3 at *
  obtain ⟨f2, ⟨z2, s2⟩, ⟨a2, b2, x2, y2⟩, r2⟩ := q2
  have c2 : mC M3 l = 3 := by rw [(f2.2.1 l (by omega)).1]; exact c1
  have F3 : FrG (fun o _ => o = l) M0 M3 := F2.trans (f2.mono (fun o k _ q => q.1))
  have q3 := st_new (M := M3) l 2 100 40 (by omega)
  have k3 : mC (newM M3 100 40 40) l = 3 := by rw [nw_c, if_neg (by omega)]; exact c2
  rw [eq_Land_init_20]
  have w3 : mC M3 1 = 110 ∧ mN M3 1 = 4 ∧ aI M3 1 0 = 40 := ⟨by rw [(F3.2.1 1 (by omega)).1]; exact hS.1.1, by rw [(F3.2.1 1 (by omega)).2]; exact hS.1.2.1, by rw [F3.ai (by omega) (by omega)]; exact hS.2.1.1⟩
  rw [tn0, w3.2.2, w3.2.1, ckk_t w3.1, ckb0 (by decide)]
  rw [show Int32.toNatClampNeg 40 = 40 from by decide, ckk_t (by decide), ckk_t k3]
  rw [show mZ M3 = l + 3 by omega] at q3 ⊢
  generalize setR (newM M3 100 40 40) l 2 (some (l + 3)) = M4 at *
  obtain ⟨f3, ⟨z3, s3⟩, ⟨a3, b3, x3, y3⟩, r3⟩ := q3
  have c3 : mC M4 l = 3 := by rw [(f3.2.1 l (by omega)).1]; exact c2
  have F4 : FrG (fun o _ => o = l) M0 M4 := F3.trans (f3.mono (fun o k _ q => q.1))
  have q4 := st_new (M := M4) l 3 100 40 (by omega)
  have k4 : mC (newM M4 100 40 40) l = 3 := by rw [nw_c, if_neg (by omega)]; exact c3
  rw [eq_Land_init_31]
  have w4 : mC M4 1 = 110 ∧ mN M4 1 = 4 ∧ aI M4 1 0 = 40 := ⟨by rw [(F4.2.1 1 (by omega)).1]; exact hS.1.1, by rw [(F4.2.1 1 (by omega)).2]; exact hS.1.2.1, by rw [F4.ai (by omega) (by omega)]; exact hS.2.1.1⟩
  rw [tn0, w4.2.2, w4.2.1, ckk_t w4.1, ckb0 (by decide)]
  rw [show Int32.toNatClampNeg 40 = 40 from by decide, ckk_t (by decide), ckk_t k4]
  rw [show mZ M4 = l + 4 by omega] at q4 ⊢
  generalize setR (newM M4 100 40 40) l 3 (some (l + 4)) = M5 at *
  obtain ⟨f4, ⟨z4, s4⟩, ⟨a4, b4, x4, y4⟩, r4⟩ := q4
  have c4 : mC M5 l = 3 := by rw [(f4.2.1 l (by omega)).1]; exact c3
  have F5 : FrG (fun o _ => o = l) M0 M5 := F4.trans (f4.mono (fun o k _ q => q.1))
  rw [eq_Land_init_42]
  rw [ckk_t c4]
  have g5 : FrG (fun o k => o = l ∧ k = 4) M5 (setI M5 l 4 0) := FrG.setI (P := fun o k => o = l ∧ k = 4) M5 _ ⟨rfl, rfl⟩
  have i4 : mI (setI M5 l 4 0) l 4 = 0 := gI_s _ _ _ _
  have z5' : mZ (setI M5 l 4 0) = mZ M5 ∧ mS (setI M5 l 4 0) = mS M5 := ⟨rfl, rfl⟩
  have c5' : mC (setI M5 l 4 0) l = 3 := c4
  generalize setI M5 l 4 0 = M6 at *
  have q6 := st_new (M := M6) l 5 100 24 (by omega)
  have k6 : mC (newM M6 100 24 24) l = 3 := by rw [nw_c, if_neg (by omega)]; exact c5'
  rw [eq_Land_init_47]
  rw [show Int32.toNatClampNeg 24 = 24 from by decide, ckk_t (by decide), ckk_t k6]
  rw [show mZ M6 = l + 5 by omega] at q6 ⊢
  generalize setR (newM M6 100 24 24) l 5 (some (l + 5)) = M7 at *
  obtain ⟨f6, ⟨z6, s6⟩, ⟨a6, b6, x6, y6⟩, r6⟩ := q6
  have c6 : mC M7 l = 3 := by rw [(f6.2.1 l (by omega)).1]; exact c5'
  rw [eq_Land_init_55]
  obtain ⟨M8, e8, f8, R8, z8, s8⟩ := p_rollsInit (by omega : 1 ≤ d) M7
  rw [show mZ M7 = l + 6 by omega] at e8 f8 R8 z8 ⊢
  rw [e8, bkV_s]
  have c8 : mC M8 l = 3 := by rw [(f8.2.1 l (by omega)).1]; exact c6
  rw [ckk_t c8]
  have g9 : FrG (fun o k => o = l ∧ k = 6) M8 (setR M8 l 6 (some (l + 6))) := FrG.setR (P := fun o k => o = l ∧ k = 6) M8 _ ⟨rfl, rfl⟩
  have r9 : mR (setR M8 l 6 (some (l + 6))) l 6 = some (l + 6) := gR_s _ _ _ _
  have z9 : mZ (setR M8 l 6 (some (l + 6))) = mZ M8 ∧ mS (setR M8 l 6 (some (l + 6))) = mS M8 := ⟨rfl, rfl⟩
  have c9 : mC (setR M8 l 6 (some (l + 6))) l = 3 := c8
  generalize setR M8 l 6 (some (l + 6)) = M9 at *
  rw [eq_Land_init_66, ckk_t c9, eq_Land_init_71, ckk_t (show mC (setR M9 l 7 none) l = 3 from c9), eq_Land_init_76, ckk_t (show mC (setI (setR M9 l 7 none) l 8 0) l = 3 from c9), eq_Land_init_81, ckk_t (show mC (setI (setI (setR M9 l 7 none) l 8 0) l 9 0) l = 3 from c9), eq_Land_init_86]
  have ga : FrG (fun o k => o = l ∧ 7 ≤ k) M9 (setI (setI (setI (setR M9 l 7 none) l 8 0) l 9 0) l 10 0) := (((FrG.setR (P := fun o k => o = l ∧ 7 ≤ k) M9 _ ⟨rfl, by omega⟩).trans (FrG.setI (P := fun o k => o = l ∧ 7 ≤ k) _ _ ⟨rfl, by omega⟩)).trans (FrG.setI (P := fun o k => o = l ∧ 7 ≤ k) _ _ ⟨rfl, by omega⟩)).trans (FrG.setI (P := fun o k => o = l ∧ 7 ≤ k) _ _ ⟨rfl, by omega⟩)
  have r7 : mR (setI (setI (setI (setR M9 l 7 none) l 8 0) l 9 0) l 10 0) l 7 = none := gR_s _ _ _ _
  have za : mZ (setI (setI (setI (setR M9 l 7 none) l 8 0) l 9 0) l 10 0) = mZ M9 ∧ mS (setI (setI (setI (setR M9 l 7 none) l 8 0) l 9 0) l 10 0) = mS M9 := ⟨rfl, rfl⟩
  have ca : mC (setI (setI (setI (setR M9 l 7 none) l 8 0) l 9 0) l 10 0) l = 3 := c9
  generalize setI (setI (setI (setR M9 l 7 none) l 8 0) l 9 0) l 10 0 = Ma at *
  have T : FrG (fun o k => (o = l ∧ 6 ≤ k) ∨ o = l + 6) M7 Ma := ((f8.mono (fun o k _ q => Or.inr q)).trans (g9.mono (fun o k _ q => Or.inl ⟨q.1, by omega⟩))).trans (ga.mono (fun o k _ q => Or.inl ⟨q.1, by omega⟩))
  have r5 : mR Ma l 5 = some (l + 5) := by rw [T.ri (by omega) (by omega)]; exact r6
  have cm : ∀ o, o < l + 6 → mC Ma o = mC M7 o ∧ mN Ma o = mN M7 o := fun o ho => T.2.1 o (by omega)
  obtain ⟨Mb, eb, fb, vb⟩ := p_fill (by omega : 1 ≤ d) (M := Ma) (x := l + 5) (v := -1) (N := 24) (by decide) (by rw [(cm (l + 5) (by omega)).1]; exact a6) (by rw [(cm (l + 5) (by omega)).2]; exact b6)
  rw [ckk_t ca, r5, deR_s, eb]
  have U : FrG (fun o k => (o = l ∧ 4 ≤ k) ∨ o = l + 6 ∨ o = l + 5) M5 Mb := (((g5.mono (fun o k _ q => Or.inl ⟨q.1, by omega⟩)).trans (f6.mono (fun o k _ q => Or.inl ⟨q.1, by omega⟩))).trans (T.mono (fun o k _ q => by omega))).trans (fb.g.mono (fun o k _ q => Or.inr (Or.inr q)))
  have F : FrG (fun o _ => o = l) M0 Mb := F5.transQ U (fun o k ho q => by omega)
  have W : FrG (fun o k => o = l ∨ o = l + 5) M8 Mb := ((g9.mono (fun o k _ q => Or.inl q.1)).trans (ga.mono (fun o k _ q => Or.inl q.1))).trans (fb.g.mono (fun o k _ q => Or.inr q))
  obtain ⟨⟨R0, R1, R2, R3, R4⟩, ⟨Q1, Q2, Q3, Q4⟩, ⟨N1, N2, N3, N4⟩, I0⟩ := R8
  have A : LA Mb l := by
    refine ⟨⟨?_, ?_, ?_, ?_, ?_, ?_, ?_⟩, ⟨?_, ?_, ?_, ?_, ?_, ?_⟩, ⟨?_, ?_, ?_, ?_, ?_⟩, ⟨?_, ?_, ?_, ?_⟩, ⟨?_, ?_, ?_, ?_⟩, ?_, ?_, ?_, ?_⟩
    · rw [fb.c]; exact ca
    · rw [U.ri (by omega) (by omega), f4.ri (by omega) (by omega), f3.ri (by omega) (by omega), f2.ri (by omega) (by omega)]; exact r1
    · rw [U.ri (by omega) (by omega), f4.ri (by omega) (by omega), f3.ri (by omega) (by omega)]; exact r2
    · rw [U.ri (by omega) (by omega), f4.ri (by omega) (by omega)]; exact r3
    · rw [U.ri (by omega) (by omega)]; exact r4
    · rw [fb.r]; exact r5
    · rw [fb.r, ga.ri (by omega) (by omega)]; exact r9
    · rw [(U.2.1 _ (by omega)).1, (f4.2.1 _ (by omega)).1, (f3.2.1 _ (by omega)).1, (f2.2.1 _ (by omega)).1]; exact a1
    · rw [(U.2.1 _ (by omega)).1, (f4.2.1 _ (by omega)).1, (f3.2.1 _ (by omega)).1]; exact a2
    · rw [(U.2.1 _ (by omega)).1, (f4.2.1 _ (by omega)).1]; exact a3
    · rw [(U.2.1 _ (by omega)).1]; exact a4
    · rw [fb.c, (cm _ (by omega)).1]; exact a6
    · rw [(W.2.1 _ (by omega)).1]; exact R0
    · rw [(U.2.1 _ (by omega)).2, (f4.2.1 _ (by omega)).2, (f3.2.1 _ (by omega)).2, (f2.2.1 _ (by omega)).2]; exact b1
    · rw [(U.2.1 _ (by omega)).2, (f4.2.1 _ (by omega)).2, (f3.2.1 _ (by omega)).2]; exact b2
    · rw [(U.2.1 _ (by omega)).2, (f4.2.1 _ (by omega)).2]; exact b3
    · rw [(U.2.1 _ (by omega)).2]; exact b4
    · rw [fb.n, (cm _ (by omega)).2]; exact b6
    · rw [W.ri (by omega) (by omega)]; exact R1
    · rw [W.ri (by omega) (by omega)]; exact R2
    · rw [W.ri (by omega) (by omega)]; exact R3
    · rw [W.ri (by omega) (by omega)]; exact R4
    · rw [show l + 7 = l + 6 + 1 from rfl, (W.2.1 _ (by omega)).1]; exact Q1
    · rw [show l + 8 = l + 6 + 2 from rfl, (W.2.1 _ (by omega)).1]; exact Q2
    · rw [show l + 9 = l + 6 + 3 from rfl, (W.2.1 _ (by omega)).1]; exact Q3
    · rw [show l + 10 = l + 6 + 4 from rfl, (W.2.1 _ (by omega)).1]; exact Q4
    · rw [show l + 7 = l + 6 + 1 from rfl, (W.2.1 _ (by omega)).2]; exact N1
    · rw [show l + 8 = l + 6 + 2 from rfl, (W.2.1 _ (by omega)).2]; exact N2
    · rw [show l + 9 = l + 6 + 3 from rfl, (W.2.1 _ (by omega)).2]; exact N3
    · rw [show l + 10 = l + 6 + 4 from rfl, (W.2.1 _ (by omega)).2]; exact N4
  have w1 : ∀ k, aR Mb (l + 1) k = none := fun k => by
    rw [U.pi (by omega) (by omega), f4.pi (by omega) (by omega), f3.pi (by omega) (by omega), f2.pi (by omega) (by omega), y1]
  have t2 : ∀ k, aI Mb (l + 2) k = 0 := fun k => by
    rw [U.ai (by omega) (by omega), f4.ai (by omega) (by omega), f3.ai (by omega) (by omega), x2]
  have n0 : ∀ k, nL Mb l k = 0 := fun k => by unfold nL; rw [t2 k]; rfl
  have i4b : mI Mb l 4 = 0 := by rw [fb.i (by omega), T.ii (by omega) (by omega), f6.ii (by omega) (by omega)]; exact i4
  have r7b : mR Mb l 7 = none := by rw [fb.r]; exact r7
  refine ⟨Mb, rfl, F, ⟨⟨fun o u v => ?_, fun k hk i hi => ?_, fun x q => ?_⟩, ⟨A, fun k hk => ⟨?_, ?_, fun i hi => ?_⟩, fun k hk => n0 k, fun k hk i hi => absurd hi (Nat.not_lt_zero i), fun m hm => absurd hm (Nat.not_lt_zero m), i4b, vb, ⟨?_, fun m hm => absurd hm (Nat.not_lt_zero m)⟩, ⟨Or.inl ⟨r7b, rfl⟩, fun z => absurd rfl z⟩⟩, V0_ok, fun j hj w q => ?_⟩, r7b, by rw [fb.z]; omega, by rw [fb.s]; omega⟩
  · unfold ownL; rw [if_pos ⟨u, v⟩]
  · rw [n0] at hi; exact absurd hi (Nat.not_lt_zero i)
  · rw [r7b] at q; cases q
  · rw [t2, n0]; rfl
  · rw [n0]; exact Nat.zero_le _
  · rw [n0] at hi; exact absurd hi (Nat.not_lt_zero i)
  · rw [W.ii (by omega) (by omega)]; exact I0
  · rw [w1] at q; cases q
