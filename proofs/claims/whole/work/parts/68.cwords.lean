/-! words: the class -/
def TQ (M : ej_Mem) (V : View) (gi wi : Nat) (y : Int32) : Prop := mR M 80 0 = some (wL M 68 1 gi) ∧ mR M 80 1 = some (wL M 68 2 wi) ∧ (∀ k, k < vN V 0 → bJ (mL M 80 2) k = vOp V y k) ∧ mI M 80 4 = 65535
theorem TQ.h81 {M M' : ej_Mem} {V : View} {gi wi : Nat} {y : Int32} (t : TQ M V gi wi y) (f : Fr (Ph 81) M M') : TQ M' V gi wi y := by
  unfold TQ wL
  rw [f.r, f.ar, f.l, f.i (by unfold Ph; omega)]
  exact t
theorem TQ.h88 {M M' : ej_Mem} {V : View} {gi wi : Nat} {y : Int32} (t : TQ M V gi wi y) (hz : 122 ≤ mZ M) (f : FrG P88 M M') : TQ M' V gi wi y := by
  have s80 := f.all (o := 80) ⟨by omega, fun k q => by unfold P88 at q; omega⟩
  have s69 := f.all (o := 69) ⟨by omega, fun k q => by unfold P88 at q; omega⟩
  unfold TQ wL
  rw [s80.1, s80.2.1, s80.2.2.1, s69.2.2.2.2]
  exact t
theorem TQ.i3 {M : ej_Mem} {V : View} {gi wi : Nat} {y : Int32} (t : TQ M V gi wi y) (z : Int32) : TQ (setI M 80 3 z) V gi wi y := t
theorem bar_loop {D : Nat} (hD : 6 ≤ D) {own : Nat → Nat} {V : View} {gi wi : Nat} {y fc x : Int32} (hg : gi < vN V 1) (hw : wi < vN V 2) : ∀ (n k : Nat) (M : ej_Mem), k + n = vRn V → KC M own V → TQ M V gi wi y →
    ∃ M', rn jm_Suit_isBarring (cal D) 2 [some (.ref 59), some (.int fc), some (.int x), some (.int (nI k))] [] M = some (some (.int (b2i (cnF V fc x n k && decide ((srch V gi wi fc (fun m _ => vOp V y m)).2.2.2 = 3)))), M') ∧ FrG (P7 own) M M' ∧ KC M' own V ∧ TQ M' V gi wi y
  | 0, k, M, hk, h, t => by
    have hV := h.2.2.2.2.2.2.1
    have h30 := hV.2.2.2.1.1
    have hr : mI M 74 0 = nI (vRn V) := h.2.2.2.2.2.1.2.2.2.2.2.2.2.1.1
    rw [eq_Suit_isBarring_2]
    simp only [SW.all h.1, hr, MR, ckk_T, deR_s, deQ_s, deQ_n, bkV_s, bkI_s, bkJ_s, bkQ_s, bkQ_n, ckb0, ckb1, ckb2, ckb3, eq_self, Nat.reduceEqDiff, Nat.reduceLeDiff, Nat.reduceLT, reduceIte, true_or, or_true, not_false_eq_true, not_true_eq_false, and_self, and_true, true_and, LIT, Int32.reduceLT, Int32.reduceLE, Int32.reduceToNatClampNeg]
    rw [if_pos (nI_le (by omega) (by omega))]
    have K1 := K80I h 3 fc
    have G1 := G80I h.2.2.2.1 3 fc
    have T1 := t.i3 fc
    obtain ⟨M2, e2, f2, r2, K2⟩ := c_whole hD K1 hg hw T1.1 T1.2.1 (ok := fun m _ => vOp V y m) (fun m hm s => by rw [T1.2.2.1 m hm, T1.2.2.2, trC_all, Bool.and_true])
    rw [gI_s] at e2 r2
    rw [e2]
    simp only [MR, ckk_T, deR_s, deQ_s, deQ_n, bkV_s, bkI_s, bkJ_s, bkQ_s, bkQ_n, ckb0, ckb1, ckb2, ckb3, eq_self, Nat.reduceEqDiff, Nat.reduceLeDiff, Nat.reduceLT, reduceIte, true_or, or_true, not_false_eq_true, not_true_eq_false, and_self, and_true, true_and, LIT, Int32.reduceLT, Int32.reduceLE, Int32.reduceToNatClampNeg]
    have B := srch_end hV gi wi fc (fun m _ => vOp V y m)
    refine ⟨M2, ?_, G1.trans (g81 K1.2.2.2.1 f2), K2, T1.h81 f2⟩
    by_cases q : (srch V gi wi fc (fun m _ => vOp V y m)).2.2.2 = 3
    · rw [if_pos (by rw [q]; rfl), decide_eq_true q]; rfl
    · have n3 : ¬ nI (srch V gi wi fc (fun m _ => vOp V y m)).2.2.2 = 3 := fun z => q ((st_eq B.1.2.2.2.2.2.2.2.2 (by decide)).mp z)
      rw [if_neg n3, decide_eq_false q, Bool.and_false]; rfl
  | n + 1, k, M, hk, h, t => by
    have hV := h.2.2.2.2.2.2.1
    have h30 := hV.2.2.2.1.1
    have hkr : k < vRn V := by omega
    have h24 := (hV.2.2.2.1.2 k hkr).2.1
    have hj := jud_le (V := V) (fc := fc) (r := k) (mo := 24)
    rw [List.length_take] at hj
    have hr : mI M 74 0 = nI (vRn V) := h.2.2.2.2.2.1.2.2.2.2.2.2.2.1.1
    rw [eq_Suit_isBarring_2]
    simp only [SW.all h.1, hr, MR, ckk_T, deR_s, deQ_s, deQ_n, bkV_s, bkI_s, bkJ_s, bkQ_s, bkQ_n, ckb0, ckb1, ckb2, ckb3, eq_self, Nat.reduceEqDiff, Nat.reduceLeDiff, Nat.reduceLT, reduceIte, true_or, or_true, not_false_eq_true, not_true_eq_false, and_self, and_true, true_and, LIT, Int32.reduceLT, Int32.reduceLE, Int32.reduceToNatClampNeg]
    rw [if_neg (nI_ge (by omega) (by omega))]
    unfold cnF
    cases q : bI x k
    · rw [if_pos ((low_0 (by omega)).mpr q), nI_1]
      exact bar_loop hD hg hw n (k + 1) M (by omega) h t
    · rw [if_neg (fun z => by rw [(low_0 (by omega)).mp z] at q; cases q)]
      obtain ⟨M1, e, f, j⟩ := p_judgRun hD h (fc := fc) hkr (show 24 ≤ 4000 by decide)
      rw [show (24 : Int32) = nI 24 from rfl, e]
      have K1 := K88 h f
      have G1 := g88 h.2.2.2.1 f
      have T1 := t.h88 h.2.2.1 f
      simp only [SW.all K1.1, j.2.2.1, MR, ckk_T, deR_s, deQ_s, deQ_n, bkV_s, bkI_s, bkJ_s, bkQ_s, bkQ_n, ckb0, ckb1, ckb2, ckb3, eq_self, Nat.reduceEqDiff, Nat.reduceLeDiff, Nat.reduceLT, reduceIte, true_or, or_true, not_false_eq_true, not_true_eq_false, and_self, and_true, true_and, LIT, Int32.reduceLT, Int32.reduceLE, Int32.reduceToNatClampNeg]
      rw [p_rollLen (by omega) K1 hkr]
      simp only [MR, ckk_T, deR_s, deQ_s, deQ_n, bkV_s, bkI_s, bkJ_s, bkQ_s, bkQ_n, ckb0, ckb1, ckb2, ckb3, eq_self, Nat.reduceEqDiff, Nat.reduceLeDiff, Nat.reduceLT, reduceIte, true_or, or_true, not_false_eq_true, not_true_eq_false, and_self, and_true, true_and, LIT, Int32.reduceLT, Int32.reduceLE, Int32.reduceToNatClampNeg]
      by_cases q3 : (jud V fc k 24).1 = (vR V k).2.2.length
      · rw [if_pos (by rw [q3]; exact Int32.le_refl _), decide_eq_true q3, nI_1]
        obtain ⟨M2, e2, f2, r2⟩ := bar_loop hD (fc := fc) (x := x) hg hw n (k + 1) M1 (by omega) K1 T1
        exact ⟨M2, e2, G1.trans f2, r2⟩
      · rw [if_neg (nI_ge (by omega) (by omega)), decide_eq_false q3]
        exact ⟨M1, rfl, G1, K1, T1⟩
theorem p_isBarring {D : Nat} (hD : 7 ≤ D) {own : Nat → Nat} {V : View} {gi wi : Nat} {y x : Int32} (hg : gi < vN V 1) (hw : wi < vN V 2) {M : ej_Mem} (h : KC M own V) (t : TQ M V gi wi y) (i : Nat) :
    ∃ M', cal D jm_Suit_isBarring [.ref 59, .int (nI i), .int x] M = some (some (.int (b2i (wdOk V gi wi y x i))), M') ∧ FrG (P7 own) M M' ∧ KC M' own V ∧ TQ M' V gi wi y := by
  obtain ⟨d, rfl⟩ : ∃ d, D = d + 1 := ⟨D - 1, by omega⟩
  rw [ca_Suit_isBarring, eq_Suit_isBarring_0]
  exact bar_loop (D := d) (by omega) hg hw (vRn V) 0 M (by omega) h t
def wd7 (r : Option (Nat × Nat)) : Int32 := match r with
  | none => -1
  | some (j, _) => nI j
def wd8 (r : Option (Nat × Nat)) : Int32 := match r with
  | none => 0
  | some (_, c) => nI c
theorem wdF_cnt {ok : Nat → Bool} {sz : Nat → Nat} : ∀ n j c, wdF ok sz n = some (j, c) → 1 ≤ c ∧ c ≤ n ∧ j < n
  | 0, j, c, h => by cases h
  | n + 1, j, c, h => by
    unfold wdF at h
    cases e : wdF ok sz n with
    | none =>
      rw [e] at h
      have h : (if ok n = true then some (n, 1) else none) = some (j, c) := h
      split at h
      · cases h; omega
      · cases h
    | some a =>
      obtain ⟨j', c'⟩ := a
      have ih := wdF_cnt n j' c' e
      rw [e] at h
      have h : (if ok n = true ∧ sz n ≤ sz j' then (if sz j' ≤ sz n then some (j', c' + 1) else some (n, 1)) else some (j', c')) = some (j, c) := h
      split at h
      · split at h
        · cases h; omega
        · cases h; omega
      · cases h; omega
theorem wdC_in {D : Nat} (hD : 7 ≤ D) {own : Nat → Nat} {V : View} {gi wi : Nat} {y x l1 l2 l5 : Int32} {s : Nat} (hs : s ≤ 8) (hg : gi < vN V 1) (hw : wi < vN V 2) : ∀ (n i : Nat) (M : ej_Mem), i + n = 2 ^ vN V 3 → KC M own V → TQ M V gi wi y →
    ∃ M', rn jm_Suit_words (cal D) 113 [some (.ref 59), some (.int l1), some (.int l2), some (.int y), some (.int x), some (.int l5), some (.int (nI s)), some (.int (wd7 (wdF (fun i => decide (wdSz i = s) && wdOk V gi wi y x i) (fun _ => 0) i))), some (.int (wd8 (wdF (fun i => decide (wdSz i = s) && wdOk V gi wi y x i) (fun _ => 0) i))), some (.int (nI i))] [] M =
      rn jm_Suit_words (cal D) 113 [some (.ref 59), some (.int l1), some (.int l2), some (.int y), some (.int x), some (.int l5), some (.int (nI s)), some (.int (wd7 (wdF (fun i => decide (wdSz i = s) && wdOk V gi wi y x i) (fun _ => 0) (2 ^ vN V 3)))), some (.int (wd8 (wdF (fun i => decide (wdSz i = s) && wdOk V gi wi y x i) (fun _ => 0) (2 ^ vN V 3)))), some (.int (nI (2 ^ vN V 3)))] [] M' ∧ FrG (P7 own) M M' ∧ KC M' own V ∧ TQ M' V gi wi y
  | 0, i, M, hi, h, t => by
    rw [show i = 2 ^ vN V 3 by omega]
    exact ⟨M, rfl, FrG.refl _ M, h, t⟩
  | n + 1, i, M, hi, h, t => by
    have hV := h.2.2.2.2.2.2.1
    have hv := h.2.2.2.2.2.1
    have l3 := hV.1 3 (by decide)
    have m3 : mst 3 = 8 := rfl
    have hT : 2 ^ vN V 3 ≤ 2 ^ 30 := pow_30 (by omega)
    obtain ⟨T, hT2⟩ : ∃ T, 2 ^ vN V 3 = T := ⟨_, rfl⟩
    have h3 : aI M 70 3 = nI (vN V 3) := by rw [← hv.2.2.1 3 (by decide)]; exact (hv.2.1 3 (by decide)).1
    rw [hT2] at hi hT ⊢
    rw [eq_Suit_words_113]
    simp only [SW.all h.1, MR, ckk_T, deR_s, deQ_s, deQ_n, bkV_s, bkI_s, bkJ_s, bkQ_s, bkQ_n, ckb0, ckb1, ckb2, ckb3, eq_self, Nat.reduceEqDiff, Nat.reduceLeDiff, Nat.reduceLT, reduceIte, true_or, or_true, not_false_eq_true, not_true_eq_false, and_self, and_true, true_and, LIT, Int32.reduceLT, Int32.reduceLE, Int32.reduceToNatClampNeg]
    have hc : (1 : Int32) <<< (aI M 70 3 &&& 31) = nI T := by rw [h3, shl_30 (by omega), hT2]
    simp only [hc]
    rw [if_neg (nI_ge (by omega) (by omega)), p_bitCount (by omega)]
    simp only [MR, ckk_T, deR_s, deQ_s, deQ_n, bkV_s, bkI_s, bkJ_s, bkQ_s, bkQ_n, ckb0, ckb1, ckb2, ckb3, eq_self, Nat.reduceEqDiff, Nat.reduceLeDiff, Nat.reduceLT, reduceIte, true_or, or_true, not_false_eq_true, not_true_eq_false, and_self, and_true, true_and, LIT, Int32.reduceLT, Int32.reduceLE, Int32.reduceToNatClampNeg, nI_1]
    have hpc := pc_le (nI i)
    generalize hp : (fun i => decide (wdSz i = s) && wdOk V gi wi y x i) = p
    have hpi : p i = (decide (wdSz i = s) && wdOk V gi wi y x i) := by rw [← hp]
    have go : ∀ (M1 : ej_Mem) (r : Option (Nat × Nat)), wdF p (fun _ => 0) (i + 1) = r → FrG (P7 own) M M1 → KC M1 own V → TQ M1 V gi wi y →
        ∃ M', rn jm_Suit_words (cal D) 113 [some (.ref 59), some (.int l1), some (.int l2), some (.int y), some (.int x), some (.int l5), some (.int (nI s)), some (.int (wd7 r)), some (.int (wd8 r)), some (.int (nI (i + 1)))] [] M1 =
          rn jm_Suit_words (cal D) 113 [some (.ref 59), some (.int l1), some (.int l2), some (.int y), some (.int x), some (.int l5), some (.int (nI s)), some (.int (wd7 (wdF p (fun _ => 0) T))), some (.int (wd8 (wdF p (fun _ => 0) T))), some (.int (nI T))] [] M' ∧ FrG (P7 own) M M' ∧ KC M' own V ∧ TQ M' V gi wi y := by
      intro M1 r er G1 K1 T1
      obtain ⟨M2, e2, f2, r2⟩ := wdC_in hD (x := x) (l1 := l1) (l2 := l2) (l5 := l5) hs hg hw n (i + 1) M1 (by omega) K1 T1
      rw [hT2, hp] at e2
      rw [er] at e2
      exact ⟨M2, e2, G1.trans f2, r2⟩
    have stp : ∀ b, p i = b → wdF p (fun _ => 0) (i + 1) = (match wdF p (fun _ => 0) i with
      | none => if b = true then some (i, 1) else none
      | some (j, c) => if b = true then some (j, c + 1) else some (j, c)) := by
      intro b hb
      show (match wdF p (fun _ => 0) i with
        | none => if p i = true then some (i, 1) else none
        | some (j, c) => if p i = true ∧ 0 ≤ 0 then (if 0 ≤ 0 then some (j, c + 1) else some (i, 1)) else some (j, c)) = _
      rw [hb]
      cases wdF p (fun _ => 0) i with
      | none => rfl
      | some a => cases b <;> simp
    by_cases q1 : wdSz i = s
    · rw [if_pos (show nI (pc (nI i)) = nI s by rw [← q1]; rfl)]
      obtain ⟨M1, e1, f1, K1, T1⟩ := p_isBarring hD (x := x) hg hw h t i
      simp only [SW.all h.1, MR, ckk_T, deR_s, deQ_s, deQ_n, bkV_s, bkI_s, bkJ_s, bkQ_s, bkQ_n, ckb0, ckb1, ckb2, ckb3, eq_self, Nat.reduceEqDiff, Nat.reduceLeDiff, Nat.reduceLT, reduceIte, true_or, or_true, not_false_eq_true, not_true_eq_false, and_self, and_true, true_and, LIT, Int32.reduceLT, Int32.reduceLE, Int32.reduceToNatClampNeg]
      rw [e1]
      simp only [MR, ckk_T, deR_s, deQ_s, deQ_n, bkV_s, bkI_s, bkJ_s, bkQ_s, bkQ_n, ckb0, ckb1, ckb2, ckb3, eq_self, Nat.reduceEqDiff, Nat.reduceLeDiff, Nat.reduceLT, reduceIte, true_or, or_true, not_false_eq_true, not_true_eq_false, and_self, and_true, true_and, LIT, Int32.reduceLT, Int32.reduceLE, Int32.reduceToNatClampNeg]
      rw [decide_eq_true q1, Bool.true_and] at hpi
      cases ho : wdOk V gi wi y x i
      · rw [ho] at hpi
        have E := stp false hpi
        rw [if_pos (by rfl)]
        refine go M1 _ (E.trans ?_) f1 K1 T1
        cases wdF p (fun _ => 0) i with
        | none => rfl
        | some a => rfl
      · rw [ho] at hpi
        have E := stp true hpi
        rw [if_neg (by decide)]
        cases hr : wdF p (fun _ => 0) i with
        | none =>
          rw [hr] at E
          rw [if_pos (show wd8 none = 0 from rfl)]
          exact go M1 (some (i, 1)) E f1 K1 T1
        | some a =>
          obtain ⟨j, c⟩ := a
          rw [hr] at E
          have hc := wdF_cnt i j c hr
          rw [if_neg (show ¬ wd8 (some (j, c)) = 0 from fun z => by
            have := (nI_eq (a := c) (b := 0) (by omega) (by decide)).mp z
            omega)]
          have := go M1 (some (j, c + 1)) E f1 K1 T1
          rw [show wd8 (some (j, c)) + 1 = wd8 (some (j, c + 1)) from nI_1 c]
          exact this
    · rw [if_neg (fun z => q1 ((nI_eq (a := pc (nI i)) (b := s) (by omega) (by omega)).mp z))]
      rw [decide_eq_false q1, Bool.false_and] at hpi
      have E := stp false hpi
      refine go M _ (E.trans ?_) (FrG.refl _ M) h t
      cases wdF p (fun _ => 0) i with
      | none => rfl
      | some a => rfl
