/-! the room: what each land has -/
def lz (M : ej_Mem) (l : Nat) : Nat := if (mR M l 7).isSome then 4 else 0
def ls (M : ej_Mem) (l : Nat) : Nat := if (mR M l 7).isSome then 16200 else 0
def mkz (M : ej_Mem) (k : Nat) : Nat := match aR M 79 k with | none => 0 | some l => 11 + lz M l
def mks (M : ej_Mem) (k : Nat) : Nat := match aR M 79 k with | none => 0 | some l => 1006 + ls M l
def RM (M : ej_Mem) (z s : Nat) : Prop := mZ M = z + (lz M 68 + (mkz M 0 + mkz M 1 + mkz M 2 + mkz M 3)) ∧ mS M = s + (ls M 68 + (mks M 0 + mks M 1 + mks M 2 + mks M 3))
theorem RM.upd {M M' : ej_Mem} {k z s : Nat} (hk : k < 4) (h : RM M z s) (h1 : ∀ j, j < 4 → j ≠ k → mkz M' j = mkz M j ∧ mks M' j = mks M j) (h2 : lz M' 68 = lz M 68 ∧ ls M' 68 = ls M 68) (h3 : mZ M' + mkz M k = mZ M + mkz M' k) (h4 : mS M' + mks M k = mS M + mks M' k) : RM M' z s := by
  obtain ⟨a, b⟩ := h
  have : k = 0 ∨ k = 1 ∨ k = 2 ∨ k = 3 := by omega
  rcases this with rfl | rfl | rfl | rfl
  · have q1 := h1 1 (by omega) (by omega); have q2 := h1 2 (by omega) (by omega); have q3 := h1 3 (by omega) (by omega)
    constructor <;> omega
  · have q1 := h1 0 (by omega) (by omega); have q2 := h1 2 (by omega) (by omega); have q3 := h1 3 (by omega) (by omega)
    constructor <;> omega
  · have q1 := h1 0 (by omega) (by omega); have q2 := h1 1 (by omega) (by omega); have q3 := h1 3 (by omega) (by omega)
    constructor <;> omega
  · have q1 := h1 0 (by omega) (by omega); have q2 := h1 1 (by omega) (by omega); have q3 := h1 2 (by omega) (by omega)
    constructor <;> omega
theorem RoomD.room {d : Nat} {M M' : ej_Mem} (h : RoomD d M M') : mZ M' + lz M d = mZ M + lz M' d ∧ mS M' + ls M d = mS M + ls M' d := by
  unfold lz ls
  rcases h with ⟨a, b, c⟩ | ⟨a, b, c, e⟩
  · rw [a, b, c]; exact ⟨rfl, rfl⟩
  · rw [a, b, c, e]; exact ⟨rfl, rfl⟩
/-- marks that stay -/
theorem MkC.g {M M' : ej_Mem} {own own' : Nat → Nat} {k : Nat} {P : Nat → Nat → Prop} {w : Option View} (hO : ∀ o, own o ≠ 0 → o < mZ M) (h79 : 79 < mZ M) (f : FrG P M M') (hp : ∀ o j, P o j → own o ≠ 1 ∧ own o ≠ 3 + k ∧ (o = 79 → j ≠ k)) (ho : ∀ o, o < mZ M → own' o = own o) (h : MkC M own k w) : MkC M' own' k w ∧ mkz M' k = mkz M k ∧ mks M' k = mks M k := by
  have e79 : aR M' 79 k = aR M 79 k := f.pi h79 (fun q => (hp 79 k q).2.2 rfl rfl)
  cases w with
  | none =>
    have h : aR M 79 k = none := h
    refine ⟨by show aR M' 79 k = none; rw [e79]; exact h, ?_, ?_⟩
    · unfold mkz; rw [e79, h]
    · unfold mks; rw [e79, h]
  | some W =>
    obtain ⟨l, e, L⟩ := h
    have L' := (L.g hO f (by omega) (fun o j q => ⟨(hp o j q).1, (hp o j q).2.1⟩)).own (own' := own') (by omega) (fun o q => ho o (hO o q))
    have s := L.1.sup' hO (P := P) (by omega) (fun o j q => ⟨(hp o j q).1, (hp o j q).2.1⟩)
    have r7 : mR M' l 7 = mR M l 7 := by rw [(f.all (s.1 l (by omega) (by omega))).2.2.1]
    refine ⟨⟨l, e79.trans e, L'⟩, ?_, ?_⟩
    · unfold mkz; rw [e79, e]; show 11 + lz M' l = 11 + lz M l; unfold lz; rw [r7]
    · unfold mks; rw [e79, e]; show 1006 + ls M' l = 1006 + ls M l; unfold ls; rw [r7]
def mkU (mk : Nat → Option View) (k : Nat) (w : Option View) (j : Nat) : Option View := if j = k then w else mk j
theorem inB03 {x : Int32} : inB x 0 3 = true → ∃ k, k < 4 ∧ x = nI k := fun h => by
  have : hasB 4 x = true := by
    unfold inB at h
    unfold hasB
    have h := of_decide_eq_true h
    exact decide_eq_true ⟨h.1, Int32.lt_of_le_of_lt h.2 (by decide)⟩
  exact (hasB_iff (by decide)).mp this
theorem nI4 {k : Nat} (hk : k < 4) : ¬ nI k < 0 ∧ nI k < 4 ∧ inB (nI k) 0 3 = true := by
  have : k = 0 ∨ k = 1 ∨ k = 2 ∨ k = 3 := by omega
  rcases this with rfl | rfl | rfl | rfl <;> decide
theorem c_mark {D : Nat} (hD : 5 ≤ D) {M : ej_Mem} {own : Nat → Nat} {V : View} {mk : Nat → Option View} (h : CI M own V mk) {k : Nat} (hk : k < 4) : ∃ M' own', cal D jm_Suit_mark [.ref 59, .int (nI k)] M = some (some (.int (a_mark V (nI k))), M') ∧ FrG (fun o _ => own o = 3 + k ∨ o = 79) M M' ∧ (∀ o, o < mZ M → own' o = own o) ∧ CI M' own' V (mkU mk k (some V)) ∧ ∀ z s, RM M z s → RM M' z s := by
  obtain ⟨d, rfl⟩ : ∃ d, D = d + 1 := ⟨D - 1, by omega⟩
  have hB := h.1.2.2.2.1
  have hz := h.1.2.2.1
  obtain ⟨k1, k2, k3⟩ := nI4 hk
  have am : a_mark V (nI k) = nI (vN V 0) := by unfold a_mark; rw [if_pos k3]
  rw [am, ca_Suit_mark, eq_Suit_mark_0, if_neg k1, if_pos k2]
  -- the copy, out of a memory in which the mark has a land
  have key : ∀ (M5 : ej_Mem) (own1 : Nat → Nat) (l : Nat), KC M5 own1 V → WS M5 68 → aR M5 79 k = some l → LD M5 own1 l (3 + k) → (∀ o, own1 o ≠ 0 → o < mZ M5) → FrG (fun o _ => own o = 3 + k ∨ o = 79) M M5 → (∀ o, o < mZ M → own1 o = own o) → (∀ j, j < 4 → j ≠ k → MkC M5 own1 j (mk j) ∧ mkz M5 j = mkz M j ∧ mks M5 j = mks M j) → mZ M5 + mkz M k = mZ M + (11 + lz M5 l) → mS M5 + mks M k = mS M + (1006 + ls M5 l) → mR M5 68 7 = mR M 68 7 →
      ∃ M9 own2, cal d jm_Land_copyFrom [.ref l, .ref 68] M5 = some (none, M9) ∧ SW M9 ∧ aI M9 70 0 = nI (vN V 0) ∧ FrG (fun o _ => own o = 3 + k ∨ o = 79) M M9 ∧ (∀ o, o < mZ M → own2 o = own o) ∧ CI M9 own2 V (mkU mk k (some V)) ∧ ∀ z s, RM M z s → RM M9 z s := by
    intro M5 own1 l K5 W5 e5 L5 O5 F5 o5 m5 z5 s5 r5
    have B5 := K5.2.2.2.1
    obtain ⟨M9, own2, e9, f9, o9, p9, L9, R9⟩ := p_landCopy (by omega : 4 ≤ d) O5 L5 (⟨K5.2.2.2.2.1, K5.2.2.2.2.2.1, K5.2.2.2.2.2.2.1, W5⟩ : LV M5 own1 68 2 V) ⟨by omega, by omega, by omega, by omega, by omega⟩
    have K9 : KC M9 own2 V := K5.far f9 (fun o j q => Or.inl (by omega)) o9 p9
    have n79 : own1 79 = 7 := B5.2.2.2.2.1 79 (by omega) (by omega)
    have n68 : own1 68 = 2 := B5.2.2.2.1 68 (by omega) (by omega)
    have n69 : own1 (68 + 1) = 2 := B5.2.2.2.1 69 (by omega) (by omega)
    have z122 := K5.2.2.1
    have e79 : ∀ j, aR M9 79 j = aR M5 79 j := fun j => f9.pi (by omega) (fun q => by omega)
    have r9 : mR M9 68 7 = mR M5 68 7 := f9.ri (by omega) (fun q => by omega)
    have mj : ∀ j, j < 4 → j ≠ k → MkC M9 own2 j (mk j) ∧ mkz M9 j = mkz M5 j ∧ mks M9 j = mks M5 j := fun j hj q => MkC.g O5 (by omega) f9 (fun o i y => ⟨by omega, by omega, fun e => by subst e; omega⟩) o9 (m5 j hj q).1
    have hk9 : mkz M9 k = 11 + lz M9 l ∧ mks M9 k = 1006 + ls M9 l := by
      unfold mkz mks; rw [e79, e5]; exact ⟨rfl, rfl⟩
    have hv9 := K9.2.2.2.2.2.1
    refine ⟨M9, own2, e9, K9.1, ?_, F5.transQ f9 (fun o j ho q => ?_), fun o ho => ?_, ⟨K9, W5.g f9 ⟨by omega, fun j q => by omega⟩, fun j hj => ?_⟩, fun z s hR => ?_⟩
    · have := (hv9.2.1 0 (by decide)).1
      rw [hv9.2.2.1 0 (by decide)] at this
      exact this
    · rw [o5 o ho] at q; exact Or.inl q.1
    · rw [o9 o (Nat.lt_of_lt_of_le ho F5.1)]; exact o5 o ho
    · unfold mkU
      by_cases q : j = k
      · subst q
        rw [if_pos rfl]
        exact ⟨l, (e79 j).trans e5, L9⟩
      · rw [if_neg q]; exact (mj j hj q).1
    · have D9 := R9.room
      refine hR.upd hk (fun j hj q => ⟨(mj j hj q).2.1.trans (m5 j hj q).2.1, (mj j hj q).2.2.trans (m5 j hj q).2.2⟩) ⟨?_, ?_⟩ ?_ ?_
      · unfold lz; rw [r9, r5]
      · unfold ls; rw [r9, r5]
      · rw [hk9.1]; omega
      · rw [hk9.2]; omega
  have h79 := SW.all h.1.1
  have MkK := h.2.2 k hk
  cases hmk : mk k with
  | none =>
    rw [hmk] at MkK
    have MkK : aR M 79 k = none := MkK
    simp only [SW.all h.1.1, MR, ckk_T, deR_s, deQ_s, deQ_n, bkV_s, bkI_s, bkJ_s, bkQ_s, bkQ_n, ckb0, ckb1, ckb2, ckb3, eq_self, Nat.reduceEqDiff, Nat.reduceLeDiff, Nat.reduceLT, reduceIte, true_or, or_true, not_false_eq_true, not_true_eq_false, and_self, and_true, true_and, LIT, Int32.reduceLT, Int32.reduceLE, Int32.reduceToNatClampNeg]
    rw [ckb_n (by omega) (by decide), nI_clamp (by omega), MkK, deQ_n]
    obtain ⟨M4, e4, f4, L4, r4, z4, s4⟩ := p_landInit (by omega : 2 ≤ d) h.1.2.1 (by omega : 3 ≤ mZ M) own (3 + k)
    rw [e4, bkV_s]
    have o4 : ∀ o, o < mZ M → ownL own (mZ M) (3 + k) o = own o := fun o ho => by unfold ownL; rw [if_neg (by omega)]
    have p4 : ∀ o, ownL own (mZ M) (3 + k) o ≠ 0 → o < mZ M4 := fun o ho => by
      unfold ownL at ho
      split at ho
      · omega
      · have := hB.1 o ho; omega
    have oz : own (mZ M) = 0 := by
      rcases Nat.eq_zero_or_pos (own (mZ M)) with y | y
      · exact y
      · have := hB.1 (mZ M) (by omega); omega
    have K4 : KC M4 (ownL own (mZ M) (3 + k)) V := h.1.far f4 (fun o j q => by rw [q, oz]; omega) o4 p4
    have c4 : mC M4 (mZ M) = 3 := L4.2.1.1.1.1
    have f5 : FrG (fun o j => o = 79 ∧ j = k) M4 (setP M4 79 k (some (mZ M))) := FrG.setP (P := fun o j => o = 79 ∧ j = k) M4 _ ⟨rfl, rfl⟩
    have B4 := K4.2.2.2.1
    have n7 : ownL own (mZ M) (3 + k) 79 = 7 := B4.2.2.2.2.1 79 (by omega) (by omega)
    have K5 : KC (setP M4 79 k (some (mZ M))) (ownL own (mZ M) (3 + k)) V := K4.far f5 (fun o j q => Or.inr q.1) (fun _ _ => rfl) p4
    have e5 : aR (setP M4 79 k (some (mZ M))) 79 k = some (mZ M) := by rw [gP_u, up_s]
    have L5 : LV (setP M4 79 k (some (mZ M))) (ownL own (mZ M) (3 + k)) (mZ M) (3 + k) V0 := L4.g p4 f5 (by omega) (fun o j q => by rw [q.1, n7]; omega)
    have r5 : mR (setP M4 79 k (some (mZ M))) (mZ M) 7 = none := r4
    have w4 : WS M4 68 := h.2.1.g f4 ⟨by omega, fun j q => by omega⟩
    have w5 : WS (setP M4 79 k (some (mZ M))) 68 := w4.g f5 ⟨by omega, fun j q => by omega⟩
    have q68 : mR (setP M4 79 k (some (mZ M))) 68 7 = mR M 68 7 := f4.ri (by omega) (by omega)
    obtain ⟨M9, own2, e9, S9, a9, F9, o9, C9, R9⟩ := key (setP M4 79 k (some (mZ M))) (ownL own (mZ M) (3 + k)) (mZ M) K5 w5 e5 L5.ld p4 ((f4.mono (fun o j ho q => by omega)).trans (f5.mono (fun o j _ q => Or.inr q.1))) o4 (fun j hj q => by
      have a := MkC.g hB.1 (by omega) f4 (fun o i y => by rw [y, oz]; omega) o4 (h.2.2 j hj)
      have b := MkC.g p4 (by omega) f5 (fun o i y => by
        obtain ⟨y1, y2⟩ := y
        subst y1
        rw [n7]; exact ⟨by omega, by omega, by omega⟩) (fun _ _ => rfl) a.1
      exact ⟨b.1, b.2.1.trans a.2.1, b.2.2.trans a.2.2⟩) (by
      have u : mkz M k = 0 := by unfold mkz; rw [MkK]
      have v : lz (setP M4 79 k (some (mZ M))) (mZ M) = 0 := by unfold lz; rw [r5]; rfl
      rw [u, v]
      show mZ M4 + 0 = _
      omega) (by
      have u : mks M k = 0 := by unfold mks; rw [MkK]
      have v : ls (setP M4 79 k (some (mZ M))) (mZ M) = 0 := by unfold ls; rw [r5]; rfl
      rw [u, v]
      show mS M4 + 0 = _
      omega) q68
    simp only [SW.all K4.1, c4, up_s, MR, ckk_T, deR_s, deQ_s, deQ_n, bkV_s, bkI_s, bkJ_s, bkQ_s, bkQ_n, ckb0, ckb1, ckb2, ckb3, eq_self, Nat.reduceEqDiff, Nat.reduceLeDiff, Nat.reduceLT, reduceIte, true_or, or_true, not_false_eq_true, not_true_eq_false, and_self, and_true, true_and, LIT, Int32.reduceLT, Int32.reduceLE, Int32.reduceToNatClampNeg]
    rw [ckb_n (by omega) (by decide), ckb_n (by omega) (by decide), e9]
    simp only [SW.all S9, MR, ckk_T, deR_s, deQ_s, deQ_n, bkV_s, bkI_s, bkJ_s, bkQ_s, bkQ_n, ckb0, ckb1, ckb2, ckb3, eq_self, Nat.reduceEqDiff, Nat.reduceLeDiff, Nat.reduceLT, reduceIte, true_or, or_true, not_false_eq_true, not_true_eq_false, and_self, and_true, true_and, LIT, Int32.reduceLT, Int32.reduceLE, Int32.reduceToNatClampNeg]
    rw [a9]
    exact ⟨M9, own2, rfl, F9, o9, C9, R9⟩
  | some W =>
    rw [hmk] at MkK
    obtain ⟨l, el, L⟩ := MkK
    simp only [SW.all h.1.1, MR, ckk_T, deR_s, deQ_s, deQ_n, bkV_s, bkI_s, bkJ_s, bkQ_s, bkQ_n, ckb0, ckb1, ckb2, ckb3, eq_self, Nat.reduceEqDiff, Nat.reduceLeDiff, Nat.reduceLT, reduceIte, true_or, or_true, not_false_eq_true, not_true_eq_false, and_self, and_true, true_and, LIT, Int32.reduceLT, Int32.reduceLE, Int32.reduceToNatClampNeg]
    rw [ckb_n (by omega) (by decide), nI_clamp (by omega), el, deQ_s]
    obtain ⟨M9, own2, e9, S9, a9, F9, o9, C9, R9⟩ := key M own l h.1 h.2.1 el L.ld hB.1 (FrG.refl _ M) (fun _ _ => rfl) (fun j hj q => ⟨h.2.2 j hj, rfl, rfl⟩) (by unfold mkz; rw [el]) (by unfold mks; rw [el]) rfl
    have cl : mC M l = 3 := L.2.1.1.1.1
    simp only [cl, MR, ckk_T, deR_s, deQ_s, deQ_n, bkV_s, bkI_s, bkJ_s, bkQ_s, bkQ_n, ckb0, ckb1, ckb2, ckb3, eq_self, Nat.reduceEqDiff, Nat.reduceLeDiff, Nat.reduceLT, reduceIte, true_or, or_true, not_false_eq_true, not_true_eq_false, and_self, and_true, true_and, LIT, Int32.reduceLT, Int32.reduceLE, Int32.reduceToNatClampNeg]
    rw [ckb_n (by omega) (by decide), e9]
    simp only [SW.all S9, MR, ckk_T, deR_s, deQ_s, deQ_n, bkV_s, bkI_s, bkJ_s, bkQ_s, bkQ_n, ckb0, ckb1, ckb2, ckb3, eq_self, Nat.reduceEqDiff, Nat.reduceLeDiff, Nat.reduceLT, reduceIte, true_or, or_true, not_false_eq_true, not_true_eq_false, and_self, and_true, true_and, LIT, Int32.reduceLT, Int32.reduceLE, Int32.reduceToNatClampNeg]
    rw [a9]
    exact ⟨M9, own2, rfl, F9, o9, C9, R9⟩
theorem c_mark_n {D : Nat} (hD : 1 ≤ D) {M : ej_Mem} {x : Int32} (hx : inB x 0 3 = false) : cal D jm_Suit_mark [.ref 59, .int x] M = some (some (.int (-1)), M) := by
  obtain ⟨d, rfl⟩ : ∃ d, D = d + 1 := ⟨D - 1, by omega⟩
  rw [ca_Suit_mark, eq_Suit_mark_0]
  by_cases q1 : x < 0
  · rw [if_pos q1]
  · rw [if_neg q1, if_neg (fun q2 => by
      have : inB x 0 3 = true := by
        unfold inB
        refine decide_eq_true ⟨Int32.not_lt.mp q1, ?_⟩
        rw [Int32.le_iff_toInt_le]
        rw [Int32.lt_iff_toInt_lt] at q2
        have e3 : (3 : Int32).toInt = 3 := by decide
        have e4 : (4 : Int32).toInt = 4 := by decide
        omega
      rw [this] at hx; cases hx)]
theorem c_back {D : Nat} (hD : 5 ≤ D) {M : ej_Mem} {own : Nat → Nat} {V W : View} {mk : Nat → Option View} (h : CI M own V mk) {k : Nat} (hk : k < 4) (hW : mk k = some W) : ∃ M' own', cal D jm_Suit_back [.ref 59, .int (nI k)] M = some (some (.int (nI (vN W 0))), M') ∧ FrG (P2 own) M M' ∧ (∀ o, o < mZ M → own' o = own o) ∧ CI M' own' W mk ∧ ∀ z s, RM M z s → RM M' z s := by
  obtain ⟨d, rfl⟩ : ∃ d, D = d + 1 := ⟨D - 1, by omega⟩
  have hB := h.1.2.2.2.1
  have hz := h.1.2.2.1
  obtain ⟨k1, k2, k3⟩ := nI4 hk
  have MkK := h.2.2 k hk
  rw [hW] at MkK
  obtain ⟨l, el, L⟩ := MkK
  rw [ca_Suit_back, eq_Suit_back_0, if_neg k1, if_neg (Int32.not_le.mpr k2)]
  simp only [SW.all h.1.1, MR, ckk_T, deR_s, deQ_s, deQ_n, bkV_s, bkI_s, bkJ_s, bkQ_s, bkQ_n, ckb0, ckb1, ckb2, ckb3, eq_self, Nat.reduceEqDiff, Nat.reduceLeDiff, Nat.reduceLT, reduceIte, true_or, or_true, not_false_eq_true, not_true_eq_false, and_self, and_true, true_and, LIT, Int32.reduceLT, Int32.reduceLE, Int32.reduceToNatClampNeg]
  rw [ckb_n (by omega) (by decide), nI_clamp (by omega), el, deQ_s]
  simp only [SW.all h.1.1, MR, ckk_T, deR_s, deQ_s, deQ_n, bkV_s, bkI_s, bkJ_s, bkQ_s, bkQ_n, ckb0, ckb1, ckb2, ckb3, eq_self, Nat.reduceEqDiff, Nat.reduceLeDiff, Nat.reduceLT, reduceIte, true_or, or_true, not_false_eq_true, not_true_eq_false, and_self, and_true, true_and, LIT, Int32.reduceLT, Int32.reduceLE, Int32.reduceToNatClampNeg]
  rw [ckb_n (by omega) (by decide)]
  obtain ⟨M9, own2, e9, f9, o9, p9, L9, R9⟩ := p_landCopy (by omega : 4 ≤ d) hB.1 h.lv.ld L ⟨by omega, by omega, by omega, by omega, by omega⟩
  rw [e9]
  have n79 : own 79 = 7 := hB.2.2.2.2.1 79 (by omega) (by omega)
  have e79 : ∀ j, aR M9 79 j = aR M 79 j := fun j => f9.pi (by omega) (fun q => by omega)
  have mj : ∀ j, j < 4 → MkC M9 own2 j (mk j) ∧ mkz M9 j = mkz M j ∧ mks M9 j = mks M j := fun j hj => MkC.g hB.1 (by omega) f9 (fun o i y => ⟨by omega, by omega, fun e => by subst e; omega⟩) o9 (h.2.2 j hj)
  obtain ⟨b, hb⟩ := h.1.2.2.2.2.2.2.2
  have K9 : KC M9 own2 W := by
    refine ⟨h.1.1.g f9 hz (fun o j u v q => ?_), h.1.2.1.g f9 hz (fun j => ⟨fun q => ?_, fun q => ?_⟩), Nat.le_trans hz f9.1, ⟨p9, fun o q => ?_, fun o q r => ?_, fun o q r => ?_, fun o q r => ?_, fun o q r => ?_⟩, L9.1, L9.2.1, L9.2.2.1, b, hb.g f9 (fun o u v => ⟨by omega, fun j q => ?_⟩)⟩
    · rcases Nat.lt_or_ge o 68 with y | y
      · have := hB.2.2.1 o (by omega) (by omega); omega
      · rcases Nat.lt_or_ge o 79 with y | y
        · omega
        · have := hB.2.2.2.2.1 o (by omega) (by omega); omega
    · have := hB.2.1 1 (by omega); omega
    · have := hB.2.1 2 (by omega); omega
    · rw [o9 o (by omega)]; exact hB.2.1 o q
    · rw [o9 o (by omega)]; exact hB.2.2.1 o q r
    · rw [o9 o (by omega)]; exact hB.2.2.2.1 o q r
    · rw [o9 o (by omega)]; exact hB.2.2.2.2.1 o q r
    · rw [o9 o (by omega)]; exact hB.2.2.2.2.2 o q r
    · have := hB.2.2.2.2.1 o (by omega) (by omega); omega
  simp only [SW.all K9.1, MR, ckk_T, deR_s, deQ_s, deQ_n, bkV_s, bkI_s, bkJ_s, bkQ_s, bkQ_n, ckb0, ckb1, ckb2, ckb3, eq_self, Nat.reduceEqDiff, Nat.reduceLeDiff, Nat.reduceLT, reduceIte, true_or, or_true, not_false_eq_true, not_true_eq_false, and_self, and_true, true_and, LIT, Int32.reduceLT, Int32.reduceLE, Int32.reduceToNatClampNeg]
  have a9 : aI M9 70 0 = nI (vN W 0) := by
    have := (L9.2.1.2.1 0 (by decide)).1
    rw [L9.2.1.2.2.1 0 (by decide)] at this
    exact this
  rw [a9]
  refine ⟨M9, own2, rfl, f9.mono (fun o j _ q => Or.inl q.1), o9, ⟨K9, L9.2.2.2, fun j hj => (mj j hj).1⟩, fun z s hR => ?_⟩
  have D9 := R9.room
  obtain ⟨a, c⟩ := hR
  have q0 := mj 0 (by omega); have q1 := mj 1 (by omega); have q2 := mj 2 (by omega); have q3 := mj 3 (by omega)
  constructor <;> omega
theorem c_back_n {D : Nat} (hD : 1 ≤ D) {M : ej_Mem} {own : Nat → Nat} {V : View} {mk : Nat → Option View} (h : CI M own V mk) {x : Int32} (hx : inB x 0 3 = false ∨ ∃ k, k < 4 ∧ x = nI k ∧ mk k = none) : cal D jm_Suit_back [.ref 59, .int x] M = some (some (.int (-1)), M) := by
  obtain ⟨d, rfl⟩ : ∃ d, D = d + 1 := ⟨D - 1, by omega⟩
  rw [ca_Suit_back, eq_Suit_back_0]
  by_cases q1 : x < 0
  · rw [if_pos q1]
  · rw [if_neg q1]
    by_cases q2 : 4 ≤ x
    · rw [if_pos q2]
    · rw [if_neg q2]
      rcases hx with hx | ⟨k, hk, rfl, hn⟩
      · exfalso
        have : inB x 0 3 = true := by
          unfold inB
          refine decide_eq_true ⟨Int32.not_lt.mp q1, ?_⟩
          rw [Int32.le_iff_toInt_le]
          rw [Int32.le_iff_toInt_le] at q2
          have e3 : (3 : Int32).toInt = 3 := by decide
          have e4 : (4 : Int32).toInt = 4 := by decide
          omega
        rw [this] at hx; cases hx
      · have MkK := h.2.2 k hk
        rw [hn] at MkK
        have MkK : aR M 79 k = none := MkK
        simp only [SW.all h.1.1, MR, ckk_T, deR_s, deQ_s, deQ_n, bkV_s, bkI_s, bkJ_s, bkQ_s, bkQ_n, ckb0, ckb1, ckb2, ckb3, eq_self, Nat.reduceEqDiff, Nat.reduceLeDiff, Nat.reduceLT, reduceIte, true_or, or_true, not_false_eq_true, not_true_eq_false, and_self, and_true, true_and, LIT, Int32.reduceLT, Int32.reduceLE, Int32.reduceToNatClampNeg]
        rw [ckb_n (by omega) (by decide), nI_clamp (by omega), MkK, deQ_n]
