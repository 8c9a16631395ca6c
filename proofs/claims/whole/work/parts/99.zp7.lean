/-! the class: a text is read -/
def wrI (M : ej_Mem) (w : Nat) : ej_Mem := setR (setR (setI (setI (setI (setI (setI (setI M w 0 0) w 1 0) w 2 0) w 3 0) w 4 0) w 5 (-1)) w 6 none) w 7 none
theorem c_winit {D : Nat} (hD : 1 ≤ D) {M : ej_Mem} {w : Nat} (hw : mC M w = 7) : cal D jm_Writ_init [.ref w] M = some (none, wrI M w) := by
  obtain ⟨d, rfl⟩ : ∃ d, D = d + 1 := ⟨D - 1, by omega⟩
  rw [ca_Writ_init, eq_Writ_init_0, ckk_t (by exact hw), eq_Writ_init_9, ckk_t (by exact hw), eq_Writ_init_14, ckk_t (by exact hw), eq_Writ_init_19, ckk_t (by exact hw), eq_Writ_init_24, ckk_t (by exact hw), eq_Writ_init_29, ckk_t (by exact hw), eq_Writ_init_34, ckk_t (by exact hw), eq_Writ_init_39, ckk_t (by exact hw), eq_Writ_init_44]
  rfl
theorem wrI_0 (M : ej_Mem) (w : Nat) : mI (wrI M w) w 0 = 0 := by
  show mI (setI (setI (setI (setI (setI (setI M w 0 0) w 1 0) w 2 0) w 3 0) w 4 0) w 5 (-1)) w 0 = 0
  rw [gI_n (by omega), gI_n (by omega), gI_n (by omega), gI_n (by omega), gI_n (by omega), gI_s]
theorem wrI_1 (M : ej_Mem) (w : Nat) : mI (wrI M w) w 1 = 0 := by
  show mI (setI (setI (setI (setI (setI (setI M w 0 0) w 1 0) w 2 0) w 3 0) w 4 0) w 5 (-1)) w 1 = 0
  rw [gI_n (by omega), gI_n (by omega), gI_n (by omega), gI_n (by omega), gI_s]
theorem wrI_2 (M : ej_Mem) (w : Nat) : mI (wrI M w) w 2 = 0 := by
  show mI (setI (setI (setI (setI (setI (setI M w 0 0) w 1 0) w 2 0) w 3 0) w 4 0) w 5 (-1)) w 2 = 0
  rw [gI_n (by omega), gI_n (by omega), gI_n (by omega), gI_s]
theorem wrI_3 (M : ej_Mem) (w : Nat) : mI (wrI M w) w 3 = 0 := by
  show mI (setI (setI (setI (setI (setI (setI M w 0 0) w 1 0) w 2 0) w 3 0) w 4 0) w 5 (-1)) w 3 = 0
  rw [gI_n (by omega), gI_n (by omega), gI_s]
theorem wrI_4 (M : ej_Mem) (w : Nat) : mI (wrI M w) w 4 = 0 := by
  show mI (setI (setI (setI (setI (setI (setI M w 0 0) w 1 0) w 2 0) w 3 0) w 4 0) w 5 (-1)) w 4 = 0
  rw [gI_n (by omega), gI_s]
theorem wrI_g (M : ej_Mem) (w : Nat) : FrG (fun o _ => o = w) M (wrI M w) := by
  have s := fun (N : ej_Mem) (k : Nat) (v : Int32) => FrG.setI (P := fun o _ => o = w) N (o := w) (k := k) v rfl
  have r := fun (N : ej_Mem) (k : Nat) (v : Option Nat) => FrG.setR (P := fun o _ => o = w) N (o := w) (k := k) v rfl
  exact (((((((s _ _ _).trans (s _ _ _)).trans (s _ _ _)).trans (s _ _ _)).trans (s _ _ _)).trans (s _ _ _)).trans (r _ _ _)).trans (r _ _ _)
def Prx (o k : Nat) : Prop := (o = 61 ∧ (1 ≤ k ∧ k ≤ 4 ∨ k = 6 ∨ k = 8 ∨ 10 ≤ k ∧ k ≤ 12 ∨ k = 16)) ∨ (62 ≤ o ∧ o ≤ 67)
def iniM (M : ej_Mem) (t : Nat) : ej_Mem := setI (setI (setI (setI (setI (setI M 61 1 (nI t)) 61 2 0) 61 3 0) 61 4 0) 61 6 0) 61 8 0
theorem iniM_fr (M : ej_Mem) (t : Nat) : Fr Prx M (iniM M t) := by
  have s := fun (N : ej_Mem) (k : Nat) (v : Int32) (h : Prx 61 k) => Fr.setI (P := Prx) N (o := 61) (k := k) v h
  exact (((((s M 1 _ (by unfold Prx; omega)).trans (s _ 2 _ (by unfold Prx; omega))).trans (s _ 3 _ (by unfold Prx; omega))).trans (s _ 4 _ (by unfold Prx; omega))).trans (s _ 6 _ (by unfold Prx; omega))).trans (s _ 8 _ (by unfold Prx; omega))
theorem iniM_i (M : ej_Mem) (t : Nat) : mI (iniM M t) 61 1 = nI t ∧ mI (iniM M t) 61 2 = 0 ∧ mI (iniM M t) 61 3 = 0 ∧ mI (iniM M t) 61 4 = 0 ∧ mI (iniM M t) 61 6 = 0 ∧ mI (iniM M t) 61 8 = 0 := by
  unfold iniM
  refine ⟨?_, ?_, ?_, ?_, ?_, ?_⟩
  · rw [gI_n (by omega), gI_n (by omega), gI_n (by omega), gI_n (by omega), gI_n (by omega), gI_s]
  · rw [gI_n (by omega), gI_n (by omega), gI_n (by omega), gI_n (by omega), gI_s]
  · rw [gI_n (by omega), gI_n (by omega), gI_n (by omega), gI_s]
  · rw [gI_n (by omega), gI_n (by omega), gI_s]
  · rw [gI_n (by omega), gI_s]
  · rw [gI_s]
def RdR (M M' : ej_Mem) (v : Value) (r : Nat ⊕ (Nat × Nat × Txt)) : Prop := FrG Prx M M' ∧ match r with
  | .inl g => v = .null ∧ mI M' 61 3 = nI g ∧ (g ≠ 0 ∧ g < 2 ^ 30) ∧ mZ M' = mZ M + 1 ∧ mS M' = mS M + 8
  | .inr (_, _, T) => v = .ref (mZ M) ∧ mI M' 61 3 = 0 ∧ WA M' (mZ M) ∧ cTxt M' (mZ M) = T ∧ (wFc M' (mZ M) = mZ M + 1 ∧ wTn M' (mZ M) = mZ M + 2) ∧ mZ M' = mZ M + 3 ∧ ∃ x, x ≤ 340 ∧ mS M' = mS M + x
theorem c_rdfin {D : Nat} (hD : 1 ≤ D) {M M3 : ej_Mem} {t : Nat} {tp : Nat → Nat} {so : Nat} {r : Nat ⊕ (Nat × Nat × Txt)} (hz : 122 ≤ mZ M) (F : FrG (fun o k => Prx o k ∨ o = mZ M) M M3) (z3 : mZ M3 = mZ M + 1) (s3 : mS M3 = mS M + 8) (E : ClE M3 t tp so (mZ M) r) (ok : ∀ n c T, r = .inr (n, c, T) → TOK T) {l1 l2 : Int32} {o4 o5 : Option Value} : ∃ M' v, rn jm_Clerk_read (cal D) 161 [some (.ref 61), some (.int l1), some (.int l2), some (.ref (mZ M)), o4, o5] [] M3 = some (some v, M') ∧ RdR M M' v r := by
  have mn : ∀ {N : ej_Mem}, FrG (fun o k => Prx o k ∨ o = mZ M) M N → FrG Prx M N := fun g => g.mono (fun o k ho q => by
    rcases q with q | q
    · exact q
    · omega)
  cases r with
  | inl g =>
    rcases E with E | ⟨p, hp, H, hb, rfl⟩
    · refine ⟨_, _, c_tldead E, mn F, rfl, ?_, ⟨E.1, E.2.1⟩, z3, s3⟩
      obtain ⟨_, _, p, hp, H⟩ := E
      exact H.2.2.2.2
    · have t4 := H.2.2.1.1.1
      refine ⟨_, _, c_tlrest hD H hp hb, mn (F.trans ((pf_fr 61 M3 _ _).g.mono (fun o k _ q => by unfold Ppf at q; unfold Prx; omega))), rfl, (H.pf _ _).2.2.2.2, ⟨flt_pos 0 _, ?_⟩, z3, s3⟩
      unfold flt
      omega
  | inr y =>
    obtain ⟨n, c, T⟩ := y
    obtain ⟨J, p, sd, sf, C, hb, hn⟩ := E
    have B2 : c ≤ 60 := C.2.2.1.1
    have BJ : J ≤ n := C.2.2.1.2.2
    obtain ⟨M', e, F', ⟨z', s'⟩, A1, A2, A3, A4, A5⟩ := c_tlend hD C hb hn (by omega) (by omega) (h24_31 (ok n c T rfl).1) (l1 := l1) (l2 := l2) (o4 := o4) (o5 := o5)
    have H : CLk M3 t tp p 0 := C.1
    refine ⟨M', _, e, mn (F.trans (F'.mono (fun o k _ q => by unfold Prx; omega))), rfl, A5, A1, A2, ⟨by rw [A3, z3], by rw [A4, z3]⟩, by omega, 8 + (5 * c + 2 * J), by omega, by omega⟩
theorem c_read {D : Nat} (hD : 10 ≤ D) {M : ej_Mem} {t : Nat} {tp : Nat → Nat} {so : Nat} (hs : so < 4) (W : SW M) (S : STR M) (O : TPO t tp) (K : TC M t tp) (hz : 122 ≤ mZ M) : ∃ M' v, cal D jm_Clerk_read [.ref 61, .int (nI t), .int (nI so)] M = some (some v, M') ∧ RdR M M' v (ptx tp t so) := by
  obtain ⟨d, rfl⟩ : ∃ d, D = d + 1 := ⟨D - 1, by omega⟩
  have t4 := O.1
  have F0 := iniM_fr M t
  have I0 := iniM_i M t
  have W0 : SW (iniM M t) := F0.sw W
  have c0 : mC (newM (iniM M t) 7 0 8) (mZ M) = 7 := by
    show (if mZ M = mZ (iniM M t) then 7 else _) = 7
    rw [if_pos (show mZ M = mZ (iniM M t) from rfl)]
  have G1 : FrG (fun o _ => o = mZ M) (iniM M t) (wrI (newM (iniM M t) 7 0 8) (mZ M)) := (FrG.new _ _ _ _ _).trans (wrI_g _ _)
  have cs : cal (d + 1) jm_Clerk_read [.ref 61, .int (nI t), .int (nI so)] M = rn jm_Clerk_read (cal d) 38 [some (.ref 61), some (.int (nI t)), some (.int (nI so)), none, none, none] [] (iniM M t) := by
    rw [ca_Clerk_read, eq_Clerk_read_0]
    simp only [SW.all W, MR, ckk_T, deR_s, deQ_s, deQ_n, bkV_s, bkI_s, bkJ_s, bkQ_s, bkQ_n, ckb0, ckb1, ckb2, ckb3, eq_self, Nat.reduceEqDiff, Nat.reduceLeDiff, Nat.reduceLT, reduceIte, true_or, or_true, not_false_eq_true, not_true_eq_false, and_self, and_true, true_and, LIT, Int32.reduceLT, Int32.reduceLE, Int32.reduceToNatClampNeg]
    rw [ckk_t (show ej_cats [.ref 61] ≤ 8 from Nat.le_of_ble_eq_true rfl), if_neg (show ¬ Int32.ofNat 400 < nI t from nI_nlt t4 (by decide)), eq_Clerk_read_13, ckk_t (by exact (SW.all W).2.2.1), eq_Clerk_read_18, ckk_t (by exact (SW.all W).2.2.1), eq_Clerk_read_23, ckk_t (by exact (SW.all W).2.2.1), eq_Clerk_read_28, ckk_t (by exact (SW.all W).2.2.1), eq_Clerk_read_33, ckk_t (by exact (SW.all W).2.2.1)]
    rfl
  have Z0 : mZ (iniM M t) = mZ M := F0.z
  rw [cs, eq_Clerk_read_38, Z0, c_winit (by omega) c0, bkV_s]
  have w0 := wrI_0 (newM (iniM M t) 7 0 8) (mZ M)
  have w1 := wrI_1 (newM (iniM M t) 7 0 8) (mZ M)
  have w2 := wrI_2 (newM (iniM M t) 7 0 8) (mZ M)
  have w3 := wrI_3 (newM (iniM M t) 7 0 8) (mZ M)
  have w4 := wrI_4 (newM (iniM M t) 7 0 8) (mZ M)
  have z1 : mZ (wrI (newM (iniM M t) 7 0 8) (mZ M)) = mZ M + 1 := rfl
  have s1 : mS (wrI (newM (iniM M t) 7 0 8) (mZ M)) = mS M + 8 := rfl
  have c1 : mC (wrI (newM (iniM M t) 7 0 8) (mZ M)) (mZ M) = 7 := c0
  generalize wrI (newM (iniM M t) 7 0 8) (mZ M) = M1 at *
  have G : FrG (fun o k => Prx o k ∨ o = mZ M) M M1 := (F0.g.mono (fun o k _ q => Or.inl q)).trans (G1.mono (fun o k _ q => Or.inr q))
  have Gp : FrG Prx M M1 := G.mono (fun o k ho q => by
    rcases q with q | q
    · exact q
    · omega)
  have i61 : ∀ k, mI M1 61 k = mI (iniM M t) 61 k := fun k => (G1.2.2 61 (by omega) k (by omega)).1
  have W1 : SW M1 := W.g Gp hz (fun o k _ _ q => by unfold Prx at q; omega)
  have S1 : STR M1 := S.g Gp (by omega) (fun o k ho q => by unfold Prx at q; omega)
  have K1 : TC M1 t tp := ⟨K.1, K.2.1, by rw [(Gp.2.2 59 (by omega) 1 (by unfold Prx; omega)).1]; exact K.2.2.1, fun k hk => by rw [(Gp.2.2 60 (by omega) k (by unfold Prx; omega)).2.2.2.1]; exact K.2.2.2 k hk⟩
  have H1 : CLk M1 t tp 0 0 := ⟨W1, S1, ⟨O, K1, by rw [i61]; exact I0.1⟩, by rw [i61]; exact I0.2.1, by rw [i61]; exact I0.2.2.1⟩
  have tok : ∀ n c T, ptx tp t so = .inr (n, c, T) → TOK T := fun n c T e => TOK_ptx e
  have CC : ∀ (e0 : Int32), so < 2 → CEn (aI M1 62) 0 e0 (tTs (T0 so)) → CCs (setI M1 (mZ M) 5 e0) t tp so (mZ M) 0 (0, 0, 0, false, false, T0 so) := by
    intro e0 hs2 he
    have g : ∀ o k, ¬ (o = mZ M ∧ k = 5) → mI (setI M1 (mZ M) 5 e0) o k = mI M1 o k := fun o k q => gI_n q
    have g61 : ∀ k, mI (setI M1 (mZ M) 5 e0) 61 k = mI (iniM M t) 61 k := fun k => by rw [g _ _ (by omega)]; exact i61 k
    refine ⟨H1.keep (Fr.setI (P := fun o k => 62 ≤ o ∨ (o = 61 ∧ 4 ≤ k)) _ _ (by omega)) (fun o k q => q), ⟨by rw [g61]; exact I0.2.2.2.2.1, by rw [g61]; exact I0.2.2.2.2.2, fun _ => by rw [g61, I0.2.2.2.1]; exact ⟨bI_0 4, bI_0 5⟩⟩, ⟨Nat.zero_le _, Nat.zero_le _, Nat.le_refl _⟩, fun i hi => absurd hi (Nat.not_lt_zero _), ⟨hz, c1, by rw [g _ _ (by omega)]; exact w0, by rw [g _ _ (by omega)]; exact w1, by rw [g _ _ (by omega)]; exact w2, by rw [g _ _ (by omega)]; exact w3, by rw [g _ _ (by omega)]; exact w4⟩, by rw [gI_s]; exact he, fun _ => rfl⟩
  have go : ∀ (e0 : Int32), so < 2 → CEn (aI M1 62) 0 e0 (tTs (T0 so)) → ∃ M' v, rn jm_Clerk_read (cal d) 69 [some (.ref 61), some (.int (nI t)), some (.int (nI so)), some (.ref (mZ M)), none, none] [] (setI M1 (mZ M) 5 e0) = some (some v, M') ∧ RdR M M' v (ptx tp t so) := by
    intro e0 hs2 he
    have ep : ptx tp t so = clrun tp t so 14 (0, 0, 0, false, false, T0 so) := by unfold ptx; rw [if_pos hs2]
    obtain ⟨M3, o4, o5, e3, F3, E3⟩ := c_clsloop (D := d) (by omega) hs2 (l1 := nI t) 14 (setI M1 (mZ M) 5 e0) 0 0 0 0 false false (T0 so) (by omega) (by omega) ⟨TOK_0 so, fun _ => rfl, fun _ => rfl⟩ (CC e0 hs2 he)
    rw [eq_Clerk_read_69]
    rw [show (0 : Int32) = nI 0 from rfl, e3]
    rw [ep] at tok ⊢
    have G3 : FrG (fun o k => Prx o k ∨ o = mZ M) M M3 := (G.trans (FrG.setI _ _ (Or.inr rfl))).trans (F3.g.mono (fun o k _ q => by unfold Pcc at q; unfold Prx; omega))
    exact c_rdfin (by omega) hz G3 (by rw [F3.z]; exact z1) (by rw [F3.s]; exact s1) E3 tok
  have tw : 2 ≤ so → ∃ M' v, (bkI (cal d jm_Clerk_readTest [.ref 61, .int (-1), .int (-2)] M1) fun x3 M2 => ckk (mC M2 (mZ M) = 7) (rn jm_Clerk_read (cal d) 161 [some (.ref 61), some (.int (nI t)), some (.int (nI so)), some (.ref (mZ M)), none, none] [] (setI M2 (mZ M) 5 x3))) = some (some v, M') ∧ RdR M M' v (ptx tp t so) := by
    intro h2
    have q6 : mI M1 61 6 = nI (5 * 0) := by rw [i61]; exact I0.2.2.2.2.1
    obtain ⟨M2, x, e2, TT⟩ := c_test (by omega : 8 ≤ d) H1 q6 (by decide) (Nat.zero_le _) (-1) (-2)
    have FF := TT.1
    have c2 : mC M2 (mZ M) = 7 := by rw [FF.c]; exact c1
    rw [e2, bkI_s, ckk_t c2]
    have G3 : FrG (fun o k => Prx o k ∨ o = mZ M) M (setI M2 (mZ M) 5 x) := (G.trans (FF.g.mono (fun o k _ q => by unfold Pk at q; unfold Prx; omega))).trans (FrG.setI _ _ (Or.inr rfl))
    refine c_rdfin (t := t) (tp := tp) (so := so) (r := ptx tp t so) (by omega) hz G3 (by show mZ M2 = _; rw [FF.z]; exact z1) (by show mS M2 = _; rw [FF.s]; exact s1) ?_ tok
    unfold ptx
    rw [if_neg (by omega)]
    cases hr : tst tp t 0 0 with
    | inl g =>
      rw [hr] at TT
      exact Or.inl (CDd.wr TT.2 (by omega) x)
    | inr y =>
      obtain ⟨p', w, c'⟩ := y
      rw [hr] at TT
      obtain ⟨q1, q2, q3, q4, q5⟩ := tst_code (Nat.zero_le _) (fun i hi => absurd hi (Nat.not_lt_zero _)) (CEn_t _ _) (CEn_f _ _) TT
      obtain ⟨_, _, K2, i6, _, _, hp', _, _⟩ := TT
      have K3 : CLk (setI M2 (mZ M) 5 x) t tp p' 0 := K2.keep (Fr.setI (P := fun o k => 62 ≤ o ∨ (o = 61 ∧ 4 ≤ k)) _ _ (by omega)) (fun o k q => q)
      by_cases hb : blk tp t p' < t
      · simp only [if_pos hb]
        exact Or.inr ⟨p', hp', K3, hb, rfl⟩
      · simp only [if_neg hb]
        have g : ∀ o k, ¬ (o = mZ M ∧ k = 5) → mI (setI M2 (mZ M) 5 x) o k = mI M2 o k := fun o k q => gI_n q
        have gw : ∀ k, k ≠ 5 → mI (setI M2 (mZ M) 5 x) (mZ M) k = mI M1 (mZ M) k := fun k q => by rw [g _ _ (by omega), FF.i (by unfold Pk; omega)]
        refine ⟨0, p', false, false, ⟨K3, ⟨by rw [g _ _ (by omega)]; exact i6, by rw [g _ _ (by omega), FF.i (by unfold Pk; omega), i61]; exact I0.2.2.2.2.2, fun z => by omega⟩, ⟨q2, hp', Nat.zero_le _⟩, q4, ⟨hz, c2, by rw [gw 0 (by decide)]; exact w0, by rw [gw 1 (by decide)]; exact w1, by rw [gw 2 (by decide)]; exact w2, by rw [gw 3 (by decide)]; exact w3, by rw [gw 4 (by decide)]; exact w4⟩, ?_, fun _ => rfl⟩, hb, by decide⟩
        rw [gI_s]
        have : (fun s => if w s = true then true else false) = w := by funext s; cases w s <;> rfl
        show CEn (aI M2 62) c' x w
        rw [← this]; exact q5
  have k1 : mC M1 61 = 0 := (SW.all W1).2.2.1
  have s4 : so = 0 ∨ so = 1 ∨ so = 2 ∨ so = 3 := by omega
  rcases s4 with rfl | rfl | rfl | rfl
  · rw [if_pos (by rfl), if_pos (by rfl), ckk_t c1]
    exact go (-1) (by decide) (CEn_t _ _)
  · rw [if_neg (by decide), if_pos (by rfl), if_neg (by decide), ckk_t c1]
    exact go (-2) (by decide) (CEn_f _ _)
  · rw [if_neg (by decide), if_neg (by decide), ckk_t k1]
    exact tw (by decide)
  · rw [if_neg (by decide), if_neg (by decide), ckk_t k1]
    exact tw (by decide)
