/-! the class: text -/
def PzL (o k : Nat) : Prop := Pz o k ∨ (69 ≤ o ∧ o ≤ 72)
def ownX (own : Nat → Nat) (z : Nat) (o : Nat) : Nat := if z ≤ o ∧ o ≤ z + 2 then 1 else own o
theorem RM.more {M M' : ej_Mem} {z s a b : Nat} (h : RM M z s) (hz : mZ M' = mZ M + a) (hs : mS M' = mS M + b) (h7 : mR M' 68 7 = mR M 68 7) (hk : ∀ k, k < 4 → mkz M' k = mkz M k ∧ mks M' k = mks M k) : RM M' (z + a) (s + b) := by
  obtain ⟨p, q⟩ := h
  have k0 := hk 0 (by omega)
  have k1 := hk 1 (by omega)
  have k2 := hk 2 (by omega)
  have k3 := hk 3 (by omega)
  have l1 : lz M' 68 = lz M 68 := by unfold lz; rw [h7]
  have l2 : ls M' 68 = ls M 68 := by unfold ls; rw [h7]
  constructor <;> omega
theorem c_text {D : Nat} (hD : 11 ≤ D) {M : ej_Mem} {own : Nat → Nat} {V : View} {mk : Nat → Option View} (h : CI M own V mk) (S : STR M) {t : Nat} {tp : Nat → Nat} (O : TPO t tp) (K : TC M t tp) {z s : Nat} (R : RM M z s) (x : Int32) : ∃ M' own' z' s', cal D jm_Suit_text [.ref 59, .int x] M = some (some (.int (a_text V tp t x)), M') ∧ CI M' own' (u_text V tp t x) mk ∧ FrG PzL M M' ∧ TC M' (t_text V t x) tp ∧ (RM M' z' s' ∧ z ≤ z' ∧ s ≤ s' ∧ z' ≤ z + 3 ∧ s' ≤ s + 340) ∧ ∀ o, o < mZ M → own' o = own o := by
  obtain ⟨d, rfl⟩ : ∃ d, D = d + 1 := ⟨D - 1, by omega⟩
  have hK := h.1
  have W := hK.1
  have ST0 := hK.2.1
  have hz := hK.2.2.1
  have hB := hK.2.2.2.1
  have hCV := hK.2.2.2.2.2.1
  have hV := hK.2.2.2.2.2.2.1
  rw [ca_Suit_text, eq_Suit_text_0]
  have no : txOk V x = false → a_text V tp t x = -1 ∧ u_text V tp t x = V ∧ t_text V t x = t := fun e => by
    unfold a_text u_text t_text
    rw [e, if_neg Bool.false_ne_true, if_neg Bool.false_ne_true, if_neg Bool.false_ne_true]
    exact ⟨rfl, rfl, rfl⟩
  have stay : txOk V x = false → ∃ M' own' z' s', some (some (Value.int (-1 : Int32)), M) = some (some (Value.int (a_text V tp t x)), M') ∧ CI M' own' (u_text V tp t x) mk ∧ FrG PzL M M' ∧ TC M' (t_text V t x) tp ∧ (RM M' z' s' ∧ z ≤ z' ∧ s ≤ s' ∧ z' ≤ z + 3 ∧ s' ≤ s + 340) ∧ ∀ o, o < mZ M → own' o = own o := fun e => by
    obtain ⟨e1, e2, e3⟩ := no e
    rw [e1, e2, e3]
    exact ⟨M, own, z, s, rfl, h, FrG.refl _ M, K, ⟨R, by omega, by omega, by omega, by omega⟩, fun _ _ => rfl⟩
  by_cases n0 : x < 0
  · rw [if_pos n0]
    exact stay (by unfold txOk inB; rw [decide_eq_false (fun q => Int32.not_le.mpr n0 q.1)]; rfl)
  by_cases n3 : (3 : Int32) < x
  · rw [if_neg n0, if_pos n3]
    exact stay (by unfold txOk inB; rw [decide_eq_false (fun q => Int32.not_le.mpr n3 q.2)]; rfl)
  rw [if_neg n0, if_neg n3]
  have hx : inB x 0 3 = true := decide_eq_true ⟨Int32.not_lt.mp n0, Int32.not_lt.mp n3⟩
  obtain ⟨so, hs, rfl⟩ := in03_get hx
  have ml := mst_le (k := so)
  have vl := hV.1 so hs
  have e70 : aI M 70 so = nI (vN V so) := by
    have := (hCV.2.1 so hs).1
    rw [hCV.2.2.1 so hs] at this
    exact this
  simp only [SW.all W, MR, ckk_T, deR_s, deQ_s, deQ_n, bkV_s, bkI_s, bkJ_s, bkQ_s, bkQ_n, ckb0, ckb1, ckb2, ckb3, eq_self, Nat.reduceEqDiff, Nat.reduceLeDiff, Nat.reduceLT, reduceIte, true_or, or_true, not_false_eq_true, not_true_eq_false, and_self, and_true, true_and, LIT, Int32.reduceLT, Int32.reduceLE, Int32.reduceToNatClampNeg]
  rw [c_room (by omega) W ST0 hs e70 (by omega), bkI_s]
  by_cases y : vN V so < mst so
  · have ok : txOk V (nI so) = true := by unfold txOk; rw [hx, nI_clamp (by omega), decide_eq_true y]; rfl
    rw [decide_eq_true y, if_neg (by decide)]
    have i59 : mI M 59 1 = nI t := K.2.2.1
    simp only [SW.all W, i59, MR, ckk_T, deR_s, deQ_s, deQ_n, bkV_s, bkI_s, bkJ_s, bkQ_s, bkQ_n, ckb0, ckb1, ckb2, ckb3, eq_self, Nat.reduceEqDiff, Nat.reduceLeDiff, Nat.reduceLT, reduceIte, true_or, or_true, not_false_eq_true, not_true_eq_false, and_self, and_true, true_and, LIT, Int32.reduceLT, Int32.reduceLE, Int32.reduceToNatClampNeg]
    obtain ⟨M1, v, e1, F1, G1⟩ := c_read (by omega : 10 ≤ d) hs W S O K hz
    have ea : a_text V tp t (nI so) = (match ptx tp t so with | .inl g => -2 - nI g | .inr _ => nI (vN V so)) := by unfold a_text; rw [if_pos ok, nI_clamp (by omega)]; rfl
    have eu : u_text V tp t (nI so) = (match ptx tp t so with | .inl _ => V | .inr (_, _, T) => addT V so T) := by unfold u_text; rw [if_pos ok, nI_clamp (by omega)]; rfl
    have et : t_text V t (nI so) = 0 := by unfold t_text; rw [if_pos ok]
    rw [ea, eu, et, e1]
    have Fz : FrG Pz M (setI M1 59 1 0) := (F1.mono (fun o k _ q => Or.inl q)).trans (FrG.setI (P := Pz) _ _ (Or.inr ⟨rfl, rfl⟩))
    have W1 : SW (setI M1 59 1 0) := W.g Fz hz (fun o k _ _ q => by unfold Pz Prx at q; omega)
    have W0 : SW M1 := W.g F1 hz (fun o k _ _ q => by unfold Prx at q; omega)
    have tc : ∀ N : ej_Mem, mI N 59 1 = 0 → TC N 0 tp := fun N e => ⟨by omega, fun k hk => by omega, e, fun k hk => by omega⟩
    have n7 : ∀ o k, Pz o k → own o = 7 := fun o k q => hB.2.2.1 o (by unfold Pz Prx at q; omega) (by unfold Pz Prx at q; omega)
    have n72 : ∀ o k, PzL o k → own o = 7 ∨ own o = 2 := fun o k q => by
      rcases q with q | q
      · exact Or.inl (n7 o k q)
      · exact Or.inr (hB.2.2.2.1 o (by omega) (by omega))
    have mkk : ∀ (N : ej_Mem) (own' : Nat → Nat), FrG PzL M N → (∀ o, o < mZ M → own' o = own o) → ∀ k, k < 4 → MkC N own' k (mk k) ∧ mkz N k = mkz M k ∧ mks N k = mks M k := fun N own' f ho k hk =>
      MkC.g hB.1 (by omega) f (fun o j q => ⟨by have := n72 o j q; omega, by have := n72 o j q; omega, fun e => by unfold PzL Pz Prx at q; omega⟩) ho (h.2.2 k hk)
    have r7 : ∀ (N : ej_Mem), FrG PzL M N → mR N 68 7 = mR M 68 7 := fun N f => (f.2.2 68 (by omega) 7 (fun q => by unfold PzL Pz Prx at q; omega)).2.2.1
    have fL : FrG PzL M (setI M1 59 1 0) := Fz.mono (fun o k _ q => Or.inl q)
    have ws : WS (setI M1 59 1 0) 68 := h.2.1.g Fz ⟨by omega, fun k q => by unfold Pz Prx at q; omega⟩
    cases hp : ptx tp t so with
    | inl g =>
      rw [hp] at G1
      obtain ⟨rfl, g3, ⟨g0, gb⟩, gz, gs⟩ := G1
      rw [bkQ_n]
      have i3 : mI (setI M1 59 1 0) 61 3 = nI g := by rw [gI_n (by omega)]; exact g3
      simp only [SW.all W0, SW.all W1, i3, MR, ckk_T, deR_s, deQ_s, deQ_n, bkV_s, bkI_s, bkJ_s, bkQ_s, bkQ_n, ckb0, ckb1, ckb2, ckb3, eq_self, Nat.reduceEqDiff, Nat.reduceLeDiff, Nat.reduceLT, reduceIte, true_or, or_true, not_false_eq_true, not_true_eq_false, and_self, and_true, true_and, LIT, Int32.reduceLT, Int32.reduceLE, Int32.reduceToNatClampNeg]
      have ho' : ∀ o, own o ≠ 0 → o < mZ (setI M1 59 1 0) := fun o q => by
        have := hB.1 o q
        show o < mZ M1
        omega
      refine ⟨setI M1 59 1 0, own, z + 1, s + 8, ?_, ⟨hK.prx Fz (fun _ _ => rfl) ho', ws, fun k hk => (mkk _ own fL (fun _ _ => rfl) k hk).1⟩, fL, tc _ (gI_s _ _ _ _), ⟨R.more (show mZ (setI M1 59 1 0) = mZ M + 1 from gz) (show mS (setI M1 59 1 0) = mS M + 8 from gs) (r7 _ fL) (fun k hk => (mkk _ own fL (fun _ _ => rfl) k hk).2), by omega, by omega, by omega, by omega⟩, fun _ _ => rfl⟩
      rw [g3]
    | inr yy =>
      obtain ⟨n, c, T⟩ := yy
      rw [hp] at G1
      obtain ⟨rfl, g3, A, eT, ⟨wf, wt⟩, gz, b, hb, gs⟩ := G1
      rw [bkQ_s]
      simp only [SW.all W0, SW.all W1, MR, ckk_T, deR_s, deQ_s, deQ_n, bkV_s, bkI_s, bkJ_s, bkQ_s, bkQ_n, ckb0, ckb1, ckb2, ckb3, eq_self, Nat.reduceEqDiff, Nat.reduceLeDiff, Nat.reduceLT, reduceIte, true_or, or_true, not_false_eq_true, not_true_eq_false, and_self, and_true, true_and, LIT, Int32.reduceLT, Int32.reduceLE, Int32.reduceToNatClampNeg]
      have ST1 : ST (setI M1 59 1 0) := ST0.g Fz hz (fun k => ⟨fun q => by unfold Pz Prx at q; omega, fun q => by unfold Pz Prx at q; omega⟩)
      have a70 : aI (setI M1 59 1 0) 70 so = nI (vN V so) := by
        rw [(Fz.2.2 70 (by omega) so (fun q => by unfold Pz Prx at q; omega)).2.2.2.1]; exact e70
      have cw : mC (setI M1 59 1 0) (mZ M) = 7 := A.1
      rw [c_ladd (by omega) W1 ST1 hs a70 y cw, bkI_s]
      have F59 : FrG (fun o k => o = 59 ∧ k = 1) M1 (setI M1 59 1 0) := FrG.setI (P := fun o k => o = 59 ∧ k = 1) _ _ ⟨rfl, rfl⟩
      have sp : ∀ o, mZ M ≤ o → o ≤ mZ M + 2 → Sup (fun o k => o = 59 ∧ k = 1) M1 o := fun o a c => ⟨by omega, fun k q => by omega⟩
      obtain ⟨A1, A2, A3, A4⟩ := A.g F59 (sp _ (by omega) (by omega)) (by rw [wf]; exact sp _ (by omega) (by omega)) (by rw [wt]; exact sp _ (by omega) (by omega))
      have ho : ∀ o, o < mZ M → ownX own (mZ M) o = own o := fun o q => by unfold ownX; rw [if_neg (by omega)]
      have zz : mZ (setI M1 59 1 0) = mZ M + 3 := gz
      have ho' : ∀ o, ownX own (mZ M) o ≠ 0 → o < mZ (setI M1 59 1 0) := fun o q => by
        unfold ownX at q
        by_cases i : mZ M ≤ o ∧ o ≤ mZ M + 2
        · omega
        · rw [if_neg i] at q
          have := hB.1 o q
          omega
      have on : ∀ o, mZ M ≤ o → o ≤ mZ M + 2 → ownX own (mZ M) o = 1 := fun o a c => by unfold ownX; rw [if_pos ⟨a, c⟩]
      have K1 := hK.prx Fz ho ho'
      have K2 := K1.ladd hs y A1 (A2.trans eT) ⟨on _ (by omega) (by omega), by rw [A3, wf]; exact on _ (by omega) (by omega), by rw [A4, wt]; exact on _ (by omega) (by omega)⟩ (TOK_ptx hp)
      have f4 : FrG PzL M (laM (setI M1 59 1 0) so (vN V so) (mZ M)) := fL.trans ((laM_f _ _ _ _).mono (fun o k _ q => by unfold PLa at q; exact Or.inr (by omega)))
      obtain ⟨kC, kN, kI, kR, kZ, kS⟩ := laM_k (setI M1 59 1 0) so (vN V so) (mZ M)
      have ws4 : WS (laM (setI M1 59 1 0) so (vN V so) (mZ M)) 68 := fun j hj w q => by
        have q : aR (laM (setI M1 59 1 0) so (vN V so) (mZ M)) 69 j = some w := q
        rw [laM_69] at q
        rw [kZ, kC]
        by_cases i : j = pl so + vN V so
        · rw [if_pos i] at q
          obtain rfl : mZ M = w := Option.some.inj q
          exact ⟨by omega, cw⟩
        · rw [if_neg i] at q
          exact ws j hj w q
      refine ⟨_, ownX own (mZ M), z + 3, s + b, rfl, ⟨K2, ws4, fun k hk => (mkk _ _ f4 ho k hk).1⟩, f4, tc _ (by rw [kI]; exact gI_s _ _ _ _), ⟨R.more (by rw [kZ]; exact zz) (by rw [kS]; exact gs) (r7 _ f4) (fun k hk => (mkk _ _ f4 ho k hk).2), by omega, by omega, by omega, by omega⟩, ho⟩
  · have ok : txOk V (nI so) = false := by unfold txOk; rw [hx, nI_clamp (by omega), decide_eq_false y]; rfl
    rw [decide_eq_false y, if_pos (by rfl)]
    exact stay ok
