/-! the start of the law (written by wip/gen/st.py) -/
def own0 (o : Nat) : Nat := if o < 59 then 9 else if o ≤ 67 then 7 else if o ≤ 78 then 2 else if o ≤ 89 then 7 else if o ≤ 121 then 8 else 0
def own1 (o : Nat) : Nat := if o < 59 then 9 else if o ≤ 67 then 7 else 0
theorem own_tab (o : Nat) : (o < 59 → own0 o = 9 ∧ own1 o = 9) ∧ (59 ≤ o → o ≤ 67 → own0 o = 7 ∧ own1 o = 7) ∧ (68 ≤ o → own1 o = 0) ∧ (68 ≤ o → o ≤ 78 → own0 o = 2) ∧ (79 ≤ o → o ≤ 89 → own0 o = 7) ∧ (90 ≤ o → o ≤ 121 → own0 o = 8) ∧ (122 ≤ o → own0 o = 0) ∧ (68 ≤ o → o ≤ 78 → ownL own1 68 2 o = 2) ∧ (¬ (68 ≤ o ∧ o ≤ 78) → ownL own1 68 2 o = own1 o) := by
  unfold own0 own1 ownL
  refine ⟨fun a => ?_, fun a b => ?_, fun a => ?_, fun a b => ?_, fun a b => ?_, fun a b => ?_, fun a => ?_, fun a b => ?_, fun a => ?_⟩
  · rw [if_pos a, if_pos a]; exact ⟨rfl, rfl⟩
  · rw [if_neg (by omega), if_pos b, if_neg (by omega), if_pos b]; exact ⟨rfl, rfl⟩
  · rw [if_neg (by omega), if_neg (by omega)]
  · rw [if_neg (by omega), if_neg (by omega), if_pos b]
  · rw [if_neg (by omega), if_neg (by omega), if_neg (by omega), if_pos b]
  · rw [if_neg (by omega), if_neg (by omega), if_neg (by omega), if_neg (by omega), if_pos b]
  · rw [if_neg (by omega), if_neg (by omega), if_neg (by omega), if_neg (by omega), if_neg (by omega)]
  · rw [if_pos ⟨a, b⟩]
  · rw [if_neg a]
theorem M0_str (L : Nat) (xs : Nat → Int32) : STR (ej_M0 L xs) := by
  have key : ∀ k, k < 28 → (ej_k0 (3 + k) = 10 ∧ ej_k0 (3 + k + 28) = 111) ∧ ((3 ≤ 3 + k ∧ 3 + k < 31) ∧ ¬ (3 + k + 28 = 0) ∧ ¬ (3 + k + 28 < 3) ∧ ¬ (3 + k + 28 < 31) ∧ ¬ (3 + k + 28 = 1) ∧ ¬ (3 + k + 28 = 2)) ∧ (ej_sby.getD (3 + k + 28 - 31) []).length = (wd k).length ∧ ∀ j, j < (wd k).length → (ej_sby.getD (3 + k + 28 - 31) []).getD j 0 = nI ((wd k).getD j 0) := by decide +kernel
  intro k hk
  obtain ⟨⟨k1, k2⟩, ⟨q1, q2, q3, q4, q5, q6⟩, k3, k4⟩ := key k hk
  refine ⟨k1, ?_, rfl, k2, ?_, fun j hj => ?_⟩
  · show (if 3 ≤ 3 + k ∧ 3 + k < 31 then some (3 + k + 28) else none) = _
    rw [if_pos q1]
  · show (if 3 + k + 28 = 0 then L else if 3 + k + 28 < 3 then 4 else if 3 + k + 28 < 31 then 0 else (ej_sby.getD (3 + k + 28 - 31) []).length) = _
    rw [if_neg q2, if_neg q3, if_neg q4, k3]
  · show (if 3 + k + 28 = 0 then xs j else if 3 + k + 28 = 1 then ([40, 8, 16, 8] : List Int32).getD j 0 else if 3 + k + 28 = 2 then ([0, 40, 48, 64] : List Int32).getD j 0 else (ej_sby.getD (3 + k + 28 - 31) []).getD j 0) = _
    rw [if_neg q2, if_neg q5, if_neg q6, k4 j hj]
theorem M0_st (L : Nat) (xs : Nat → Int32) : ST (ej_M0 L xs) := ⟨⟨rfl, rfl, rfl, rfl⟩, ⟨rfl, rfl, rfl, rfl⟩, rfl, rfl, rfl, rfl⟩
theorem ST.g59 {M M' : ej_Mem} (f : FrG (fun o _ => 59 ≤ o) M M') (hz : 59 ≤ mZ M) (h : ST M) : ST M' := by
  have c1 := f.2.1 1 (by omega)
  have c2 := f.2.1 2 (by omega)
  have a1 : ∀ k, aI M' 1 k = aI M 1 k := fun k => f.ai (by omega) (by omega)
  have a2 : ∀ k, aI M' 2 k = aI M 2 k := fun k => f.ai (by omega) (by omega)
  unfold ST at h ⊢
  rw [c1.1, c1.2, c2.1, c2.2, a1 0, a1 1, a1 2, a1 3, a2 0, a2 1, a2 2, a2 3]
  exact h
theorem law_start (L : Nat) (xs : Nat → Int32) : ∃ M, rn jm_Law_law (cal 13) 0 [some (.ref 0), none, none, none] [] (ej_M0 L xs) = rn jm_Law_law (cal 13) 18 [some (.ref 0), some (.ref 59), some (.ref 90), some (.int (nI (6 * 0)))] [] M ∧ LI L xs 0 M := by
  have gN := sB_g (M := ej_M0 L xs) rfl
  obtain ⟨⟨zN, sN⟩, ⟨c59, c60, c61, c62, c63, c64, c65, c66, c67⟩, ⟨n60, n62, n63, n64, n65, n66, n67⟩, ⟨r59_0, r59_2, r61_0, r61_5, r61_7, r61_9, r61_13, r61_14, r61_15⟩, i59⟩ := sB_f (M := ej_M0 L xs) rfl
  have eN := p_suitA (d := 12) (by decide) (M := ej_M0 L xs) rfl
  have sN' : mS (sB (ej_M0 L xs)) ≤ 1000 := by rw [sN]; show 0 + _ ≤ 1000; decide
  generalize hN : sB (ej_M0 L xs) = N at *
  have stN : ST N := (M0_st L xs).g59 gN (show 59 ≤ 59 by decide)
  obtain ⟨M1, e1, f1, lv1, r7, z1, s1⟩ := p_landInit (D := 12) (by decide) stN (by omega) own1 2
  rw [zN] at e1 f1 lv1 r7 z1
  have c1 : mC M1 59 = 8 := by rw [(f1.2.1 59 (by omega)).1]; exact c59
  -- the field of the land
  have f2 : FrG (fun o k => o = 59 ∧ k = 3) M1 (setR M1 59 3 (some 68)) := FrG.setR (P := fun o k => o = 59 ∧ k = 3) M1 _ ⟨rfl, rfl⟩
  have z2 : mZ (setR M1 59 3 (some 68)) = 79 := z1
  have s2 : mS (setR M1 59 3 (some 68)) = mS M1 := rfl
  have c2 : mC (setR M1 59 3 (some 68)) 59 = 8 := c1
  have r59_3 : mR (setR M1 59 3 (some 68)) 59 3 = some 68 := gR_s _ _ _ _
  have e2 : rn jm_Suit_init (cal 12) 33 [some (.ref 59)] [] N = rn jm_Suit_init (cal 12) 44 [some (.ref 59)] [] (setR M1 59 3 (some 68)) := by
    rw [eq_Suit_init_33, zN, e1, bkV_s, ckk_t c1]
  generalize setR M1 59 3 (some 68) = M2 at *
  have e3 := p_suitC (d := 12) (by decide) z2 c2
  have g3 := sC_g z2
  obtain ⟨⟨z3, s3⟩, c79, c80, n79, r59_4, r59_5, a79⟩ := sC_f z2
  have c3 : mC (sC M2) 59 = 8 := by rw [(g3.2.1 59 (by omega)).1]; exact c2
  generalize sC M2 = M3 at *
  have hz22 : HZ 500 1024 22 := Or.inl ⟨rfl, rfl, rfl⟩
  have e4 := p_huntInit (D := 12) (by decide) hz22 M3
  have h4 := hIni_r hz22 M3
  have g4 := hIni_g (fun o _ => o = 81) M3 500 1024 (nI 500) (nI 22) (fun k => z3)
  have q4 := hIni_z M3 500 1024 (nI 500) (nI 22)
  rw [z3] at e4 h4 q4
  generalize hIni M3 500 1024 (nI 500) (nI 22) = M3' at *
  have c3' : mC M3' 59 = 8 := by rw [(g4.2.1 59 (by omega)).1]; exact c3
  have f4 : FrG (fun o k => o = 59 ∧ k = 6) M3' (setR M3' 59 6 (some 81)) := FrG.setR (P := fun o k => o = 59 ∧ k = 6) M3' _ ⟨rfl, rfl⟩
  have z4 : mZ (setR M3' 59 6 (some 81)) = 85 := q4.1
  have s4 : mS (setR M3' 59 6 (some 81)) = mS M3' := rfl
  have c4 : mC (setR M3' 59 6 (some 81)) 59 = 8 := c3'
  have r59_6 : mR (setR M3' 59 6 (some 81)) 59 6 = some 81 := gR_s _ _ _ _
  have e4' : rn jm_Suit_init (cal 12) 63 [some (.ref 59)] [] M3 = rn jm_Suit_init (cal 12) 79 [some (.ref 59)] [] (setR M3' 59 6 (some 81)) := by
    rw [eq_Suit_init_63, z3, show (500 : Int32) = nI 500 from rfl, show (22 : Int32) = nI 22 from rfl, e4, bkV_s, ckk_t c3']
  generalize setR M3' 59 6 (some 81) = M4 at *
  have e5 := p_suitE (d := 12) (by decide) z4 c4
  have g5 := sE_g z4
  obtain ⟨⟨z5, s5⟩, ⟨c85, c86, c87, c88, c89, n86, n87⟩, r59_7, r59_8, r85_0, r85_1, r88_0⟩ := sE_f z4
  generalize sE M4 = M5 at *
  have E5 : cal 13 jm_Suit_init [.ref 59] (newM (ej_M0 L xs) 8 0 9) = some (none, M5) := by
    rw [ca_Suit_init 12, eN, e2, e3, e4', e5]
  -- the reference
  have e6 := p_refInit0 (D := 13) (by decide) z5
  have g6 := rI_g z5
  have w6 := rI_w z5
  have z6 := rI_z M5
  have s6 := rI_s M5
  obtain ⟨⟨i1, i9, i27, i31, i32, i33, i37, i47⟩, ⟨i40, i41, i42⟩, a92, a106, a121, k1, k2, k3⟩ := rI_i z5
  generalize rI M5 = M6 at *
  obtain ⟨M7, e7, f7, _, v7⟩ := ri_loop (cal 12) 24 0 M6 rfl w6.1 k1 k2 k3
  have w7 : RW M7 := f7.rw w6
  have z7 : mZ M7 = 122 := by rw [f7.z]; exact z6
  have E7 : cal 13 jm_Ref_init [.ref 90] (newM M5 9 0 59) = some (none, M7) := by rw [e6]; exact e7
  have F5 : FrG (fun o _ => 90 ≤ o) M5 M7 := g6.trans (f7.g.mono (fun o k _ q => by omega))
  have F4 : FrG (fun o k => (o = 59 ∧ 7 ≤ k) ∨ 85 ≤ o) M4 M7 := (g5.mono (fun o k _ q => by omega)).trans (F5.mono (fun o k _ q => by omega))
  have F3' : FrG (fun o _ => o = 59 ∨ 85 ≤ o) M3' M7 := (f4.mono (fun o k _ q => by omega)).trans (F4.mono (fun o k _ q => by omega))
  have F3 : FrG (fun o k => (o = 59 ∧ 6 ≤ k) ∨ 81 ≤ o) M3 M7 := ((g4.mono (fun o k _ q => by omega)).trans (f4.mono (fun o k _ q => by omega))).trans (F4.mono (fun o k _ q => by omega))
  have F2 : FrG (fun o k => (o = 59 ∧ 4 ≤ k) ∨ 79 ≤ o) M2 M7 := (g3.mono (fun o k _ q => by omega)).trans (F3.mono (fun o k _ q => by omega))
  have F1 : FrG (fun o k => (o = 59 ∧ 3 ≤ k) ∨ 79 ≤ o) M1 M7 := (f2.mono (fun o k _ q => by omega)).trans (F2.mono (fun o k _ q => by omega))
  have FN : FrG (fun o k => (o = 59 ∧ 3 ≤ k) ∨ 68 ≤ o) N M7 := (f1.mono (fun o k _ q => by omega)).trans (F1.mono (fun o k _ q => by omega))
  have F0 : FrG (fun o _ => 59 ≤ o) (ej_M0 L xs) M7 := gN.trans (FN.mono (fun o k _ q => by omega))
  have hr : HR M7 81 500 1024 22 b_none := h4.g F3' (fun o a b => ⟨by omega, fun k => by omega⟩)
  have lvA : LV M7 (ownL own1 68 2) 68 2 V0 := lv1.g (P := fun o k => (o = 59 ∧ 3 ≤ k) ∨ 79 ≤ o) (fun o q => by
      rw [z1]
      rcases Nat.lt_or_ge o 79 with y | y
      · exact y
      · exfalso
        have t := own_tab o
        exact q (by rw [t.2.2.2.2.2.2.2.2 (by omega), t.2.2.1 (by omega)])) F1 (by decide) (fun o k q => by
      have t := own_tab o
      rcases q with q | q
      · rw [t.2.2.2.2.2.2.2.2 (by omega), (t.2.1 (by omega) (by omega)).2]; decide
      · rw [t.2.2.2.2.2.2.2.2 (by omega), t.2.2.1 (by omega)]; decide)
  have lv : LV M7 own0 68 2 V0 := lvA.own (by decide) (fun o q => by
    have t := own_tab o
    rcases Nat.lt_or_ge o 59 with y | y
    · rw [t.2.2.2.2.2.2.2.2 (by omega), (t.1 y).1, (t.1 y).2]
    · rcases Nat.lt_or_ge o 68 with x | x
      · rw [t.2.2.2.2.2.2.2.2 (by omega), (t.2.1 y (by omega)).1, (t.2.1 y (by omega)).2]
      · rcases Nat.lt_or_ge o 79 with u | u
        · rw [t.2.2.2.1 x (by omega), t.2.2.2.2.2.2.2.1 x (by omega)]
        · exact absurd (by rw [t.2.2.2.2.2.2.2.2 (by omega), t.2.2.1 (by omega)]) q)
  have la : LA M7 68 := lv.2.1.1
  have sw : SW M7 := ⟨by rw [(FN.2.1 59 (by omega)).1]; exact c59, by rw [(FN.2.1 60 (by omega)).1]; exact c60, by rw [(FN.2.1 61 (by omega)).1]; exact c61, by rw [(FN.2.1 62 (by omega)).1]; exact c62, by rw [(FN.2.1 63 (by omega)).1]; exact c63, by rw [(FN.2.1 64 (by omega)).1]; exact c64, by rw [(FN.2.1 65 (by omega)).1]; exact c65, by rw [(FN.2.1 66 (by omega)).1]; exact c66, by rw [(FN.2.1 67 (by omega)).1]; exact c67, la.1.1, la.2.1.1, la.2.1.2.1, la.2.1.2.2.1, la.2.1.2.2.2.1, la.2.1.2.2.2.2.1, la.2.1.2.2.2.2.2, la.2.2.2.2.1.1, la.2.2.2.2.1.2.1, la.2.2.2.2.1.2.2.1, la.2.2.2.2.1.2.2.2, by rw [(F3.2.1 79 (by omega)).1]; exact c79, by rw [(F3.2.1 80 (by omega)).1]; exact c80, hr.1.1.1, hr.1.2.1.1, hr.1.2.1.2.1, hr.1.2.1.2.2, by rw [(F5.2.1 85 (by omega)).1]; exact c85, by rw [(F5.2.1 86 (by omega)).1]; exact c86, by rw [(F5.2.1 87 (by omega)).1]; exact c87, by rw [(F5.2.1 88 (by omega)).1]; exact c88, by rw [(F5.2.1 89 (by omega)).1]; exact c89, by rw [(FN.2.1 60 (by omega)).2]; exact n60, by rw [(FN.2.1 62 (by omega)).2]; exact n62, by rw [(FN.2.1 63 (by omega)).2]; exact n63, by rw [(FN.2.1 64 (by omega)).2]; exact n64, by rw [(FN.2.1 65 (by omega)).2]; exact n65, by rw [(FN.2.1 66 (by omega)).2]; exact n66, by rw [(FN.2.1 67 (by omega)).2]; exact n67, la.2.2.1.1, la.2.2.1.2.1, la.2.2.1.2.2.1, la.2.2.1.2.2.2.1, la.2.2.1.2.2.2.2, la.2.2.2.2.2.1, la.2.2.2.2.2.2.1, la.2.2.2.2.2.2.2.1, la.2.2.2.2.2.2.2.2, by rw [(F3.2.1 79 (by omega)).2]; exact n79, hr.1.2.2.1, hr.1.2.2.2.1, hr.1.2.2.2.2, by rw [(F5.2.1 86 (by omega)).2]; exact n86, by rw [(F5.2.1 87 (by omega)).2]; exact n87, by rw [FN.ri (by omega) (by omega)]; exact r59_0, by rw [FN.ri (by omega) (by omega)]; exact r59_2, by rw [F2.ri (by omega) (by omega)]; exact r59_3, by rw [F3.ri (by omega) (by omega)]; exact r59_4, by rw [F3.ri (by omega) (by omega)]; exact r59_5, by rw [F4.ri (by omega) (by omega)]; exact r59_6, by rw [F5.ri (by omega) (by omega)]; exact r59_7, by rw [F5.ri (by omega) (by omega)]; exact r59_8, by rw [FN.ri (by omega) (by omega)]; exact r61_0, by rw [FN.ri (by omega) (by omega)]; exact r61_5, by rw [FN.ri (by omega) (by omega)]; exact r61_7, by rw [FN.ri (by omega) (by omega)]; exact r61_9, by rw [FN.ri (by omega) (by omega)]; exact r61_13, by rw [FN.ri (by omega) (by omega)]; exact r61_14, by rw [FN.ri (by omega) (by omega)]; exact r61_15, la.1.2.1, la.1.2.2.1, la.1.2.2.2.1, la.1.2.2.2.2.1, la.1.2.2.2.2.2.1, la.1.2.2.2.2.2.2, la.2.2.2.1.1, la.2.2.2.1.2.1, la.2.2.2.1.2.2.1, la.2.2.2.1.2.2.2, hr.1.1.2.2.2.1, hr.1.1.2.2.2.2.1, hr.1.1.2.2.2.2.2, by rw [F5.ri (by omega) (by omega)]; exact r85_0, by rw [F5.ri (by omega) (by omega)]; exact r85_1, by rw [F5.ri (by omega) (by omega)]; exact r88_0⟩
  have oB : OwnB own0 M7 := ⟨fun o q => by
      rw [z7]
      rcases Nat.lt_or_ge o 122 with y | y
      · exact y
      · exact absurd ((own_tab o).2.2.2.2.2.2.1 y) q, fun o a => ((own_tab o).1 a).1, fun o a b => ((own_tab o).2.1 a b).1, fun o a b => (own_tab o).2.2.2.1 a b, fun o a b => (own_tab o).2.2.2.2.1 a b, fun o a b => (own_tab o).2.2.2.2.2.1 a b⟩
  have st : ST M7 := (M0_st L xs).g59 F0 (show 59 ≤ 59 by decide)
  have m79 : ∀ k, aR M7 79 k = none := fun k => by rw [F3.pi (by omega) (by omega), a79]
  have h7 : mR M7 68 7 = none := by rw [F1.ri (by omega) (by omega)]; exact r7
  have ci : CI M7 own0 V0 (fun _ => none) := ⟨⟨sw, st, by omega, oB, lv.1, lv.2.1, V0_ok, b_none, hr⟩, lv.2.2.2, fun k _ => m79 k⟩
  have lz0 : lz M7 68 = 0 ∧ ls M7 68 = 0 := by unfold lz ls; rw [h7]; exact ⟨rfl, rfl⟩
  have mk0 : ∀ k, mkz M7 k = 0 ∧ mks M7 k = 0 := fun k => by unfold mkz mks; rw [m79 k]; exact ⟨rfl, rfl⟩
  have rm : RM M7 122 (mS M7) := ⟨by rw [lz0.1, (mk0 0).1, (mk0 1).1, (mk0 2).1, (mk0 3).1, z7], by rw [lz0.2, (mk0 0).2, (mk0 1).2, (mk0 2).2, (mk0 3).2]; rfl⟩
  have s7 : mS M7 ≤ 1000000 := by rw [f7.s]; omega
  have tc : TC M7 0 (fun _ => 0) := ⟨by decide, fun k hk => absurd hk (Nat.not_lt_zero k), by rw [FN.ii (by omega) (by omega)]; exact i59, fun k hk => absurd hk (Nat.not_lt_zero k)⟩
  have j7 : ∀ k, mI M7 90 k = mI M6 90 k := fun k => f7.i (by omega)
  have b92 : ∀ k, aI M7 92 k = 0 := fun k => by rw [f7.a (by omega), a92]
  have rn0 : ∀ k, rN (aI M7) k = 0 := fun k => by unfold rN; rw [b92]; rfl
  have rv : RV (aI M7) (mI M7 90) V0 := by
    refine ⟨fun k hk => ⟨by rw [b92, rn0]; rfl, by rw [rn0]; exact Nat.zero_le _, fun i hi => absurd hi (by rw [rn0]; exact Nat.not_lt_zero i)⟩, fun k hk => rn0 k, fun k hk i hi => absurd hi (Nat.not_lt_zero i), fun m hm => absurd hm (Nat.not_lt_zero m), by rw [j7]; exact i9, fun r hr => v7 r (Nat.zero_le _) hr, ⟨by rw [j7]; exact i47, fun r hr => absurd hr (Nat.not_lt_zero r)⟩, ⟨⟨by rw [j7]; exact i31, by rw [j7]; exact i32, by rw [j7]; exact i33, by rw [j7]; exact i37⟩, fun k hk => absurd hk (Nat.not_lt_zero k), fun q => absurd rfl q, fun k _ hk => absurd hk (Nat.not_lt_zero k)⟩, fun q => absurd rfl q⟩
  have kr : KR M7 V0 0 := ⟨w7, rv, V0_ok, ⟨by rw [j7]; exact i40, by rw [j7]; exact i41, by rw [j7]; exact i42⟩, by rw [j7]; exact i27, fun q _ => ⟨0, Nat.le_refl 0, by rw [f7.a (by omega), a106]; rfl⟩⟩
  have mr : RMk M7 (fun _ => none) := fun k _ => by show aI M7 121 k = 0; rw [f7.a (by omega), a121]
  have tr : TR M7 0 (fun _ => 0) := TR.nil (by rw [j7]; exact i1) _
  have sr : STR M7 := (M0_str L xs).g F0 (show 59 ≤ 59 by decide) (fun o k a q => by omega)
  have sc : SCR L xs M7 := ⟨by rw [(F0.2.1 0 (show 0 < 59 by decide)).1]; rfl, by rw [(F0.2.1 0 (show 0 < 59 by decide)).2]; rfl, funext fun k => by rw [F0.ai (show 0 < 59 by decide) (by omega)]; rfl⟩
  refine ⟨M7, ?_, own0, V0, fun _ => none, 0, fun _ => 0, 122, mS M7, 0, ⟨ci, rm, tc, kr, mr, tr, sr, sc⟩, by omega, by omega, by omega⟩
  rw [eq_Law_law_0, show mZ (ej_M0 L xs) = 59 from rfl, E5, bkV_s, z5, E7, bkV_s]
  rfl
theorem law_run (L : Nat) (xs : Nat → Int32) (hL : L ≤ 3072) : ∃ Mf, rn jm_Law_law (ej_call ej_sw ej_code ej_mx 13) 0 [some (.ref 0), none, none, none] [] (ej_M0 L xs) = some (some (.int 1), Mf) ∧ mZ Mf ≤ 600059 ∧ mS Mf ≤ 7302250 := by
  obtain ⟨M, e, h⟩ := law_start L xs
  obtain ⟨Mf, e', b⟩ := law_loop hL 512 0 M h (by decide) (by omega)
  exact ⟨Mf, by rw [e]; exact e', b⟩
