/-! safe, keys, last: the class -/
def TS (M : ej_Mem) (gi wi : Nat) (fc : Int32) : Prop := mR M 80 0 = some (wL M 68 1 gi) ∧ mR M 80 1 = some (wL M 68 2 wi) ∧ mI M 80 3 = fc
theorem TS.h81 {M M' : ej_Mem} {gi wi : Nat} {fc : Int32} (t : TS M gi wi fc) (f : Fr (Ph 81) M M') : TS M' gi wi fc := by
  unfold TS wL
  rw [f.r, f.ar, f.i (by unfold Ph; omega)]
  exact t
theorem TS.mv {M : ej_Mem} {gi wi : Nat} {fc : Int32} (t : TS M gi wi fc) (z : Int64) : TS (setL M 80 2 z) gi wi fc := t
theorem K80L {M : ej_Mem} {own : Nat → Nat} {V : View} (h : KC M own V) (k : Nat) (z : Int64) : KC (setL M 80 k z) own V := Pq80 h (FrG.setL (P := fun o _ => o = 80) M z rfl)
theorem K80I {M : ej_Mem} {own : Nat → Nat} {V : View} (h : KC M own V) (k : Nat) (z : Int32) : KC (setI M 80 k z) own V := Pq80 h (FrG.setI (P := fun o _ => o = 80) M z rfl)
theorem G80L {M : ej_Mem} {own : Nat → Nat} (h : OwnB own M) (k : Nat) (z : Int64) : FrG (P7 own) M (setL M 80 k z) := g80 h (FrG.setL (P := fun o _ => o = 80) M z rfl)
theorem G80I {M : ej_Mem} {own : Nat → Nat} (h : OwnB own M) (k : Nat) (z : Int32) : FrG (P7 own) M (setI M 80 k z) := g80 h (FrG.setI (P := fun o _ => o = 80) M z rfl)
theorem TM.ts {M M1 : ej_Mem} {V : View} {g w y : Int32} (hV : VOK V) (t : TM M M1 V g w y) (f : FrG (fun o _ => o = 80) M M1) (hz : 122 ≤ mZ M) (ha : askB V g w y = true) : ∃ gi wi, gi < vN V 1 ∧ wi < vN V 2 ∧ g = nI gi ∧ w = nI wi ∧ g.toNatClampNeg = gi ∧ w.toNatClampNeg = wi ∧ inB y 0 2999 = true ∧ TS M1 gi wi (vF V) := by
  obtain ⟨gi, wi, hg, hw, rfl, rfl, hy, r0, r1⟩ := t.get hV f hz ha
  have l1 := hV.le (show 1 < 4 by decide)
  have l2 := hV.le (show 2 < 4 by decide)
  exact ⟨gi, wi, hg, hw, rfl, rfl, nI_clamp (by omega), nI_clamp (by omega), hy, r0, r1, t.2.2.2.1⟩
theorem not65535 : ∀ k, k < 32 → bI ((65535 : Int32) ^^^ -1) k = decide (16 ≤ k) := by decide +kernel
theorem low16 {x : Int32} (h : ∀ k, 16 ≤ k → k < 32 → bI x k = false) : x &&& ((65535 : Int32) ^^^ -1) = 0 := by
  apply bI_ext
  intro k hk
  rw [bI_and, not65535 k hk, bI_0]
  by_cases q : 16 ≤ k
  · rw [h k q hk]; rfl
  · rw [decide_eq_false q, Bool.and_false]
def okS (V : View) (y tr : Int32) (m : Nat) (s : Int32) : Bool := vOp V y m && decide (tTu (vT V 0 m) s &&& (tr ^^^ -1) = 0)
theorem trC_eq {V : View} (hV : VOK V) (tr : Int32) {m : Nat} (hm : m < vN V 0) (s : Int32) : trC V tr m s = decide (tTu (vT V 0 m) s &&& (tr ^^^ -1) = 0) := by
  unfold trC
  by_cases q : tr = 65535
  · subst q
    rw [decide_eq_true rfl, decide_eq_true (low16 (fun k h1 h2 => (hV.2.1 m hm).2.1 s k h1 h2))]; rfl
  · rw [decide_eq_false q, Bool.false_or]
def a_safe (V : View) (g w y tr : Int32) : Int32 := if (inB tr 0 65535 && askB V g w y) = true then
  (if (srch V g.toNatClampNeg w.toNatClampNeg (vF V) (okS V y tr)).2.2.2 = 2 then nI (rowOf (srch V g.toNatClampNeg w.toNatClampNeg (vF V) (okS V y tr))).length else if (srch V g.toNatClampNeg w.toNatClampNeg (vF V) (okS V y tr)).2.2.2 = 4 then -3 else -2) else -1
theorem srch_end {V : View} (hV : VOK V) (gi wi : Nat) (fc : Int32) (ok : Nat → Int32 → Bool) : BOK 500 (srch V gi wi fc ok) ∧ (srch V gi wi fc ok).2.2.2 ≠ 1 := b_all_end (hV.le (by decide)) (by decide)
theorem c_safe {D : Nat} (hD : 7 ≤ D) {M : ej_Mem} {own : Nat → Nat} {V : View} (h : KC M own V) (g w y tr : Int32) : ∃ M', cal D jm_Suit_safe [.ref 59, .int g, .int w, .int y, .int tr] M = some (some (.int (a_safe V g w y tr)), M') ∧ FrG (P7 own) M M' ∧ KC M' own V := by
  obtain ⟨d, rfl⟩ : ∃ d, D = d + 1 := ⟨D - 1, by omega⟩
  rw [ca_Suit_safe, eq_Suit_safe_0]
  simp only [SW.all h.1, MR, ckk_T, deR_s, deQ_s, deQ_n, bkV_s, bkI_s, bkJ_s, bkQ_s, bkQ_n, ckb0, ckb1, ckb2, ckb3, eq_self, Nat.reduceEqDiff, Nat.reduceLeDiff, Nat.reduceLT, reduceIte, true_or, or_true, not_false_eq_true, not_true_eq_false, and_self, and_true, true_and, LIT, Int32.reduceLT, Int32.reduceLE, Int32.reduceToNatClampNeg]
  unfold a_safe
  by_cases t1 : tr < 0
  · have : inB tr 0 65535 = false := by unfold inB; exact decide_eq_false (fun q => absurd t1 (Int32.not_lt.mpr q.1))
    rw [if_pos t1, this]
    exact ⟨M, rfl, FrG.refl _ M, h⟩
  · rw [if_neg t1]
    by_cases t2 : 65535 < tr
    · have : inB tr 0 65535 = false := by unfold inB; exact decide_eq_false (fun q => absurd t2 (Int32.not_lt.mpr q.2))
      rw [if_pos t2, this]
      exact ⟨M, rfl, FrG.refl _ M, h⟩
    · have hin : inB tr 0 65535 = true := by unfold inB; exact decide_eq_true ⟨Int32.not_lt.mp t1, Int32.not_lt.mp t2⟩
      rw [if_neg t2, hin, Bool.true_and]
      obtain ⟨M1, e1, f1, tm⟩ := p_setTerms (by omega : 2 ≤ d) h g w y
      have K1 := Pq80 h f1
      have G1 := g80 h.2.2.2.1 f1
      rw [e1]
      simp only [MR, ckk_T, deR_s, deQ_s, deQ_n, bkV_s, bkI_s, bkJ_s, bkQ_s, bkQ_n, ckb0, ckb1, ckb2, ckb3, eq_self, Nat.reduceEqDiff, Nat.reduceLeDiff, Nat.reduceLT, reduceIte, true_or, or_true, not_false_eq_true, not_true_eq_false, and_self, and_true, true_and, LIT, Int32.reduceLT, Int32.reduceLE, Int32.reduceToNatClampNeg]
      cases ha : askB V g w y
      · exact ⟨M1, rfl, G1, K1⟩
      · obtain ⟨gi, wi, hg, hw, _, _, eg, ew, hy, ts⟩ := tm.ts h.2.2.2.2.2.2.1 f1 h.2.2.1 ha
        have K2 := K80I K1 4 tr
        obtain ⟨M3, e3, f3, r3, K3⟩ := c_whole (by omega : 6 ≤ d) K2 hg hw ts.1 ts.2.1 (ok := okS V y tr) (fun m hm s => by
          have e4 : mI (setI M1 80 4 tr) 80 4 = tr := gI_s _ _ _ _
          rw [e4, trC_eq h.2.2.2.2.2.2.1 tr hm]
          show (bJ (mL M1 80 2) m && _) = _
          rw [tm.op h.2.2.2.2.2.2.1 hm]; rfl)
        have e5 : mI (setI M1 80 4 tr) 80 3 = vF V := by rw [gI_n (by omega)]; exact ts.2.2
        rw [e5] at e3 r3
        simp only [SW.all K1.1, MR, ckk_T, deR_s, deQ_s, deQ_n, bkV_s, bkI_s, bkJ_s, bkQ_s, bkQ_n, ckb0, ckb1, ckb2, ckb3, eq_self, Nat.reduceEqDiff, Nat.reduceLeDiff, Nat.reduceLT, reduceIte, true_or, or_true, not_false_eq_true, not_true_eq_false, and_self, and_true, true_and, LIT, Int32.reduceLT, Int32.reduceLE, Int32.reduceToNatClampNeg, b2i_t]
        rw [e3, eg, ew]
        obtain ⟨B, Bn⟩ := srch_end h.2.2.2.2.2.2.1 gi wi (vF V) (okS V y tr)
        have G3 := (G1.trans (G80I K1.2.2.2.1 4 tr)).trans (g81 K2.2.2.2.1 f3)
        simp only [SW.all K3.1, MR, ckk_T, deR_s, deQ_s, deQ_n, bkV_s, bkI_s, bkJ_s, bkQ_s, bkQ_n, ckb0, ckb1, ckb2, ckb3, eq_self, Nat.reduceEqDiff, Nat.reduceLeDiff, Nat.reduceLT, reduceIte, true_or, or_true, not_false_eq_true, not_true_eq_false, and_self, and_true, true_and, LIT, Int32.reduceLT, Int32.reduceLE, Int32.reduceToNatClampNeg]
        have b4 := B.2.2.2.2.2.2.2.2
        generalize srch V gi wi (vF V) (okS V y tr) = b at *
        by_cases s2 : b.2.2.2 = 2
        · rw [if_pos (show nI b.2.2.2 = 2 by rw [s2]; rfl), if_pos s2, p_rowLength (by omega) hz5 r3 s2 B.1 B.2.2.2.2.2.1]
          exact ⟨M3, rfl, G3, K3⟩
        · have n2 : ¬ nI b.2.2.2 = 2 := fun q => s2 ((st_eq b4 (by decide)).mp q)
          rw [if_neg n2, if_neg s2]
          by_cases s4 : b.2.2.2 = 4
          · rw [if_pos (show nI b.2.2.2 = 4 by rw [s4]; rfl), if_pos s4]
            exact ⟨M3, rfl, G3, K3⟩
          · have n4 : ¬ nI b.2.2.2 = 4 := fun q => s4 ((st_eq b4 (by decide)).mp q)
            rw [if_neg n4, if_neg s4]
            exact ⟨M3, rfl, G3, K3⟩
/-! keys -/
def okW (V : View) (y : Int32) (k : Nat) (m : Nat) (_ : Int32) : Bool := vOp V y m && decide (m ≠ k)
def keyB (V : View) (gi wi : Nat) (y : Int32) (k : Nat) : Bool := decide (k < vN V 0) && decide ((srch V gi wi (vF V) (okW V y k)).2.2.2 = 3)
theorem bJ_pred : ∀ n, n < 41 → ∀ k, k < 64 → bJ (ej_ls 0 1 (nI n) - 1) k = decide (k < n) := by decide +kernel
theorem nxV_sub {V : View} {gi : Nat} {fc : Int32} {ok ok' : Nat → Int32 → Bool} (h : ∀ m s, ok' m s = true → ok m s = true) : ∀ m x y, nxV V gi fc ok' m x = some y → nxV V gi fc ok m x = some y := by
  intro m x y e
  unfold nxV at e ⊢
  split at e
  · rename_i q
    rw [if_pos ⟨q.1, h m x q.2.1, q.2.2⟩]; exact e
  · cases e
theorem keys_loop {D : Nat} (hD : 6 ≤ D) {own : Nat → Nat} {V : View} {gi wi : Nat} {y : Int32} {l1 l2 l3 l6 : Int32} {all dbt : Int64} (hg : gi < vN V 1) (hw : wi < vN V 2) (hall : ∀ k, k < vN V 0 → bJ all k = vOp V y k)
    (hno : ∀ k, k < vN V 0 → bJ dbt k = false → (srch V gi wi (vF V) (okW V y k)).2.2.2 ≠ 3) : ∀ (n m : Nat) (M : ej_Mem) (acc : Int64), m + n = vN V 0 → KC M own V → TS M gi wi (vF V) → mI M 80 4 = 65535 → (∀ k, k < 64 → bJ acc k = (decide (k < m) && keyB V gi wi y k)) →
    ∃ x M', rn jm_Suit_keys (cal D) 86 [some (.ref 59), some (.int l1), some (.int l2), some (.int l3), some (.long all), none, some (.int l6), some (.long dbt), none, some (.long acc), none, some (.int (nI m))] [] M = some (some (.long x), M') ∧ (∀ k, k < 64 → bJ x k = keyB V gi wi y k) ∧ FrG (P7 own) M M' ∧ KC M' own V
  | 0, m, M, acc, hm, h, ts, t4, ha => by
    have l0 := h.2.2.2.2.2.2.1.le (show 0 < 4 by decide)
    have hv := h.2.2.2.2.2.1
    refine ⟨acc, M, ?_, fun k hk => ?_, FrG.refl _ M, h⟩
    · rw [eq_Suit_keys_86]
      simp only [SW.all h.1, MR, ckk_T, deR_s, deQ_s, deQ_n, bkV_s, bkI_s, bkJ_s, bkQ_s, bkQ_n, ckb0, ckb1, ckb2, ckb3, eq_self, Nat.reduceEqDiff, Nat.reduceLeDiff, Nat.reduceLT, reduceIte, true_or, or_true, not_false_eq_true, not_true_eq_false, and_self, and_true, true_and, LIT, Int32.reduceLT, Int32.reduceLE, Int32.reduceToNatClampNeg]
      rw [(hv.2.1 0 (by decide)).1, hv.2.2.1 0 (by decide), if_pos (nI_le (by omega) (by omega))]
    · rw [ha k hk]
      unfold keyB
      rw [show m = vN V 0 by omega]
      cases decide (k < vN V 0) <;> rfl
  | n + 1, m, M, acc, hm, h, ts, t4, ha => by
    have hV := h.2.2.2.2.2.2.1
    have l0 := hV.le (show 0 < 4 by decide)
    have hv := h.2.2.2.2.2.1
    rw [eq_Suit_keys_86]
    simp only [SW.all h.1, MR, ckk_T, deR_s, deQ_s, deQ_n, bkV_s, bkI_s, bkJ_s, bkQ_s, bkQ_n, ckb0, ckb1, ckb2, ckb3, eq_self, Nat.reduceEqDiff, Nat.reduceLeDiff, Nat.reduceLT, reduceIte, true_or, or_true, not_false_eq_true, not_true_eq_false, and_self, and_true, true_and, LIT, Int32.reduceLT, Int32.reduceLE, Int32.reduceToNatClampNeg]
    rw [(hv.2.1 0 (by decide)).1, hv.2.2.1 0 (by decide), if_neg (nI_ge (by omega) (by omega)), nI_1]
    have K1 := K80L h 2 (all &&& (ej_ls 0 1 (nI m) ^^^ -1))
    have G1 := G80L h.2.2.2.1 2 (all &&& (ej_ls 0 1 (nI m) ^^^ -1))
    have T1 := ts.mv (all &&& (ej_ls 0 1 (nI m) ^^^ -1))
    have acc2 : ∀ b : Bool, keyB V gi wi y m = b → ∀ acc' : Int64, (∀ k, k < 64 → bJ acc' k = (bJ acc k || (decide (k = m) && b))) → ∀ k, k < 64 → bJ acc' k = (decide (k < m + 1) && keyB V gi wi y k) := by
      intro b hb acc' hacc k hk
      rw [hacc k hk, ha k hk]
      by_cases q : k = m
      · subst q
        rw [hb]
        simp
      · have : (k < m) = (k < m + 1) := by apply propext; omega
        simp only [q, decide_false, Bool.false_and, Bool.or_false, this]
    by_cases g1 : lg_cmp (ej_ls 1 dbt (nI m) &&& 1) 0 = 0
    · rw [if_pos g1]
      have hd := (lowJ_0 (by omega)).mp g1
      have hk : keyB V gi wi y m = false := by
        unfold keyB
        rw [decide_eq_false (hno m (by omega) hd), Bool.and_false]
      obtain ⟨x, M', e, hx, f, K⟩ := keys_loop hD (l1 := l1) (l2 := l2) (l3 := l3) (l6 := l6) hg hw hall hno n (m + 1) _ acc (by omega) K1 T1 t4 (acc2 false hk acc (fun k _ => by simp))
      exact ⟨x, M', e, hx, G1.trans f, K⟩
    · rw [if_neg g1]
      obtain ⟨M2, e2, f2, r2, K2⟩ := c_whole hD K1 hg hw T1.1 T1.2.1 (ok := okW V y m) (fun k hk s => by
        have e4 : mI (setL M 80 2 (all &&& (ej_ls 0 1 (nI m) ^^^ -1))) 80 4 = 65535 := t4
        rw [e4, trC_all, Bool.and_true, gL_s, bJ_and, bJ_not (by omega), bJ_shl (by omega) (by omega), hall k hk]
        unfold okW
        rw [decide_not])
      have e3 : mI (setL M 80 2 (all &&& (ej_ls 0 1 (nI m) ^^^ -1))) 80 3 = vF V := ts.2.2
      rw [e3] at e2 r2
      rw [e2]
      simp only [MR, ckk_T, deR_s, deQ_s, deQ_n, bkV_s, bkI_s, bkJ_s, bkQ_s, bkQ_n, ckb0, ckb1, ckb2, ckb3, eq_self, Nat.reduceEqDiff, Nat.reduceLeDiff, Nat.reduceLT, reduceIte, true_or, or_true, not_false_eq_true, not_true_eq_false, and_self, and_true, true_and, LIT, Int32.reduceLT, Int32.reduceLE, Int32.reduceToNatClampNeg]
      have T2 := T1.h81 f2
      have t42 : mI M2 80 4 = 65535 := by rw [f2.i (by unfold Ph; omega)]; exact t4
      have G2 := G1.trans (g81 K1.2.2.2.1 f2)
      have B := srch_end hV gi wi (vF V) (okW V y m)
      by_cases s3 : (srch V gi wi (vF V) (okW V y m)).2.2.2 = 3
      · rw [if_pos (show nI (srch V gi wi (vF V) (okW V y m)).2.2.2 = 3 by rw [s3]; rfl)]
        have hk : keyB V gi wi y m = true := by
          unfold keyB
          rw [decide_eq_true s3, decide_eq_true (show m < vN V 0 by omega)]; rfl
        obtain ⟨x, M', e, hx, f, K⟩ := keys_loop hD (l1 := l1) (l2 := l2) (l3 := l3) (l6 := l6) hg hw hall hno n (m + 1) M2 (acc ||| ej_ls 0 1 (nI m)) (by omega) K2 T2 t42 (acc2 true hk _ (fun k hk => by rw [bJ_or, bJ_shl (by omega) hk, Bool.and_true]))
        exact ⟨x, M', e, hx, G2.trans f, K⟩
      · have n3 : ¬ nI (srch V gi wi (vF V) (okW V y m)).2.2.2 = 3 := fun q => s3 ((st_eq B.1.2.2.2.2.2.2.2.2 (by decide)).mp q)
        rw [if_neg n3]
        have hk : keyB V gi wi y m = false := by
          unfold keyB
          rw [decide_eq_false s3, Bool.and_false]
        obtain ⟨x, M', e, hx, f, K⟩ := keys_loop hD (l1 := l1) (l2 := l2) (l3 := l3) (l6 := l6) hg hw hall hno n (m + 1) M2 acc (by omega) K2 T2 t42 (acc2 false hk acc (fun k _ => by simp))
        exact ⟨x, M', e, hx, G2.trans f, K⟩
theorem c_keys {D : Nat} (hD : 7 ≤ D) {M : ej_Mem} {own : Nat → Nat} {V : View} (h : KC M own V) (g w y : Int32) : ∃ x M', cal D jm_Suit_keys [.ref 59, .int g, .int w, .int y] M = some (some (.long x), M') ∧ (askB V g w y = false → x = -1) ∧ (askB V g w y = true → ∀ k, k < 64 → bJ x k = keyB V g.toNatClampNeg w.toNatClampNeg y k) ∧ FrG (P7 own) M M' ∧ KC M' own V := by
  obtain ⟨d, rfl⟩ : ∃ d, D = d + 1 := ⟨D - 1, by omega⟩
  have hV := h.2.2.2.2.2.2.1
  have l0 := hV.le (show 0 < 4 by decide)
  obtain ⟨M1, e1, f1, tm⟩ := p_setTerms (by omega : 2 ≤ d) h g w y
  have K1 := Pq80 h f1
  have G1 := g80 h.2.2.2.1 f1
  rw [ca_Suit_keys, eq_Suit_keys_0]
  simp only [SW.all h.1, MR, ckk_T, deR_s, deQ_s, deQ_n, bkV_s, bkI_s, bkJ_s, bkQ_s, bkQ_n, ckb0, ckb1, ckb2, ckb3, eq_self, Nat.reduceEqDiff, Nat.reduceLeDiff, Nat.reduceLT, reduceIte, true_or, or_true, not_false_eq_true, not_true_eq_false, and_self, and_true, true_and, LIT, Int32.reduceLT, Int32.reduceLE, Int32.reduceToNatClampNeg]
  rw [e1]
  simp only [MR, ckk_T, deR_s, deQ_s, deQ_n, bkV_s, bkI_s, bkJ_s, bkQ_s, bkQ_n, ckb0, ckb1, ckb2, ckb3, eq_self, Nat.reduceEqDiff, Nat.reduceLeDiff, Nat.reduceLT, reduceIte, true_or, or_true, not_false_eq_true, not_true_eq_false, and_self, and_true, true_and, LIT, Int32.reduceLT, Int32.reduceLE, Int32.reduceToNatClampNeg]
  cases ha : askB V g w y
  · exact ⟨-1, M1, rfl, fun _ => rfl, fun q => (by cases q), G1, K1⟩
  · obtain ⟨gi, wi, hg, hw, _, _, eg, ew, hy, ts⟩ := tm.ts hV f1 h.2.2.1 ha
    rw [eg, ew]
    obtain ⟨M2, e2, f2, r2, K2⟩ := c_whole (by omega : 6 ≤ d) K1 hg hw ts.1 ts.2.1 (ok := fun m _ => vOp V y m) (fun m hm s => by rw [tm.op hV hm, tm.2.2.2.2, trC_all, Bool.and_true])
    rw [ts.2.2] at e2 r2
    simp only [SW.all K1.1, MR, ckk_T, deR_s, deQ_s, deQ_n, bkV_s, bkI_s, bkJ_s, bkQ_s, bkQ_n, ckb0, ckb1, ckb2, ckb3, eq_self, Nat.reduceEqDiff, Nat.reduceLeDiff, Nat.reduceLT, reduceIte, true_or, or_true, not_false_eq_true, not_true_eq_false, and_self, and_true, true_and, LIT, Int32.reduceLT, Int32.reduceLE, Int32.reduceToNatClampNeg, b2i_t]
    rw [e2]
    have T2 := ts.h81 f2
    have t42 : mI M2 80 4 = 65535 := by rw [f2.i (by unfold Ph; omega)]; exact tm.2.2.2.2
    have G2 := G1.trans (g81 K1.2.2.2.1 f2)
    obtain ⟨B, Bn⟩ := srch_end hV gi wi (vF V) (fun m _ => vOp V y m)
    have b4 := B.2.2.2.2.2.2.2.2
    have hv2 := K2.2.2.2.2.2.1
    have sub : ∀ k m x z, nxV V gi (vF V) (okW V y k) m x = some z → nxV V gi (vF V) (fun m _ => vOp V y m) m x = some z := fun k => nxV_sub (fun m s q => by unfold okW at q; rw [Bool.and_eq_true] at q; exact q.1)
    simp only [SW.all K2.1, MR, ckk_T, deR_s, deQ_s, deQ_n, bkV_s, bkI_s, bkJ_s, bkQ_s, bkQ_n, ckb0, ckb1, ckb2, ckb3, eq_self, Nat.reduceEqDiff, Nat.reduceLeDiff, Nat.reduceLT, reduceIte, true_or, or_true, not_false_eq_true, not_true_eq_false, and_self, and_true, true_and, LIT, Int32.reduceLT, Int32.reduceLE, Int32.reduceToNatClampNeg]
    by_cases s3 : (srch V gi wi (vF V) (fun m _ => vOp V y m)).2.2.2 = 3
    · rw [if_pos (show nI (srch V gi wi (vF V) (fun m _ => vOp V y m)).2.2.2 = 3 by rw [s3]; rfl), (hv2.2.1 0 (by decide)).1, hv2.2.2.1 0 (by decide)]
      refine ⟨_, M2, rfl, fun q => (by cases q), fun _ k hk => ?_, G2, K2⟩
      rw [bJ_pred _ (by omega) k hk]
      unfold keyB
      have : (srch V gi wi (vF V) (okW V y k)).2.2.2 = 3 := b_all_mono l0 (by decide) (sub k) s3
      rw [decide_eq_true this, Bool.and_true]
    · have n3 : ¬ nI (srch V gi wi (vF V) (fun m _ => vOp V y m)).2.2.2 = 3 := fun q => s3 ((st_eq b4 (by decide)).mp q)
      rw [if_neg n3]
      by_cases s2 : (srch V gi wi (vF V) (fun m _ => vOp V y m)).2.2.2 = 2
      · rw [if_pos (show nI (srch V gi wi (vF V) (fun m _ => vOp V y m)).2.2.2 = 2 by rw [s2]; rfl)]
        obtain ⟨x, ex, hx⟩ := p_movesOfRow (by omega : 1 ≤ d) hz5 r2 B.1 B.2.2.2.2.2.1
        rw [ex]
        simp only [MR, ckk_T, deR_s, deQ_s, deQ_n, bkV_s, bkI_s, bkJ_s, bkQ_s, bkQ_n, ckb0, ckb1, ckb2, ckb3, eq_self, Nat.reduceEqDiff, Nat.reduceLeDiff, Nat.reduceLT, reduceIte, true_or, or_true, not_false_eq_true, not_true_eq_false, and_self, and_true, true_and, LIT, Int32.reduceLT, Int32.reduceLE, Int32.reduceToNatClampNeg]
        obtain ⟨x2, M', e, hx2, f, K⟩ := keys_loop (by omega : 6 ≤ d) (y := y) (l1 := g) (l2 := w) (l3 := y) (l6 := nI (srch V gi wi (vF V) (fun m _ => vOp V y m)).2.2.2) (all := mL M1 80 2) (dbt := x) hg hw (fun k hk => tm.op hV hk) (fun k hk hd => by
          rw [hx k (by omega), decide_eq_false_iff_not] at hd
          refine b_all_row (nx := nxV V gi (vF V) (fun m _ => vOp V y m)) l0 (by decide) s2 (fun m hm a b e => ?_)
          have hmk : m ≠ k := by
            rintro rfl
            apply hd
            unfold rowOf
            have := b_row_ge B.2.2.2.2.2.1 ((srch V gi wi (vF V) (fun m _ => vOp V y m)).1.length - 1) ((srch V gi wi (vF V) (fun m _ => vOp V y m)).1.length - 1) ((srch V gi wi (vF V) (fun m _ => vOp V y m)).1.length) (Nat.le_refl _) (by omega) (by have := B.1; omega)
            rw [this]; exact hm
          unfold nxV at e ⊢
          split at e
          · rename_i q
            rw [if_pos ⟨q.1, by unfold okW; rw [show vOp V y m = true from q.2.1, decide_eq_true hmk]; rfl, q.2.2⟩]; exact e
          · cases e) (vN V 0) 0 M2 0 (by omega) K2 T2 t42 (fun k hk => by rw [bJ_0]; simp)
        exact ⟨x2, M', e, fun q => (by cases q), fun _ => hx2, G2.trans f, K⟩
      · have n2 : ¬ nI (srch V gi wi (vF V) (fun m _ => vOp V y m)).2.2.2 = 2 := fun q => s2 ((st_eq b4 (by decide)).mp q)
        rw [if_neg n2]
        obtain ⟨x2, M', e, hx2, f, K⟩ := keys_loop (by omega : 6 ≤ d) (y := y) (l1 := g) (l2 := w) (l3 := y) (l6 := nI (srch V gi wi (vF V) (fun m _ => vOp V y m)).2.2.2) (all := mL M1 80 2) (dbt := mL M1 80 2) hg hw (fun k hk => tm.op hV hk) (fun k hk hd => by
          rw [tm.op hV hk] at hd
          have : srch V gi wi (vF V) (okW V y k) = srch V gi wi (vF V) (fun m _ => vOp V y m) := by
            unfold srch
            rw [nxV_congr (ok := okW V y k) (ok' := fun m _ => vOp V y m)]
            intro m hm s
            unfold okW
            by_cases q : m = k
            · subst q; rw [hd]; rfl
            · rw [decide_eq_true q, Bool.and_true]
          rw [this]; exact s3) (vN V 0) 0 M2 0 (by omega) K2 T2 t42 (fun k hk => by rw [bJ_0]; simp)
        exact ⟨x2, M', e, fun q => (by cases q), fun _ => hx2, G2.trans f, K⟩
/-! last -/
def lstV (V : View) (gi wi : Nat) : Nat → Int32 → Int32
  | 0, _ => -2
  | n + 1, y => if (srch V gi wi (vF V) (fun m _ => vOp V y m)).2.2.2 = 3 then y else lstV V gi wi n (y + 1)
def a_last (V : View) (g w a b : Int32) : Int32 := if (inB a 0 2999 && (inB b 0 2999 && (decide (a ≤ b) && (decide (b - a < 100) && askB V g w a)))) = true then lstV V g.toNatClampNeg w.toNatClampNeg (b.toNatClampNeg + 1 - a.toNatClampNeg) a else -1
theorem last_loop {D : Nat} (hD : 6 ≤ D) {own : Nat → Nat} {V : View} {gi wi : Nat} {l1 l2 l3 : Int32} {b : Nat} (hb : b < 3000) (hg : gi < vN V 1) (hw : wi < vN V 2) : ∀ (n y : Nat) (M : ej_Mem) (bef : Int64), y + n = b + 1 → KC M own V → TS M gi wi (vF V) → mI M 80 4 = 65535 →
    (bef = -1 ∨ ∃ y', (∀ k, k < 64 → bJ bef k = (decide (k < vN V 0) && vOp V y' k)) ∧ (srch V gi wi (vF V) (fun m _ => vOp V y' m)).2.2.2 ≠ 3) →
    ∃ M', rn jm_Suit_last (cal D) 50 [some (.ref 59), some (.int l1), some (.int l2), some (.int l3), some (.int (nI b)), some (.long bef), none, some (.int (nI y))] [] M = some (some (.int (lstV V gi wi n (nI y))), M') ∧ FrG (P7 own) M M' ∧ KC M' own V
  | 0, y, M, bef, hy, h, ts, t4, hbef => by
    rw [eq_Suit_last_50, if_pos (nI_lt (by omega) (by omega))]
    exact ⟨M, rfl, FrG.refl _ M, h⟩
  | n + 1, y, M, bef, hy, h, ts, t4, hbef => by
    have hV := h.2.2.2.2.2.2.1
    have l0 := hV.le (show 0 < 4 by decide)
    have hv := h.2.2.2.2.2.1
    rw [eq_Suit_last_50, if_neg (nI_nlt (by omega) (by omega)), eq_Suit_last_57]
    simp only [SW.all h.1, MR, ckk_T, deR_s, deQ_s, deQ_n, bkV_s, bkI_s, bkJ_s, bkQ_s, bkQ_n, ckb0, ckb1, ckb2, ckb3, eq_self, Nat.reduceEqDiff, Nat.reduceLeDiff, Nat.reduceLT, reduceIte, true_or, or_true, not_false_eq_true, not_true_eq_false, and_self, and_true, true_and, LIT, Int32.reduceLT, Int32.reduceLE, Int32.reduceToNatClampNeg]
    obtain ⟨z, ez, hz⟩ := p_movesOpenIn (by omega : 1 ≤ D) hv.1 hv.2.1 (nI y)
    rw [ez]
    have hz2 : ∀ k, k < 64 → bJ z k = (decide (k < vN V 0) && vOp V (nI y) k) := by
      intro k hk
      rw [hz k hk, hv.2.2.1 0 (by decide)]
      by_cases hk2 : k < vN V 0
      · have := hv.2.2.2.2.1 k hk2
        unfold opC vOp
        rw [this.1, this.2]
      · rw [decide_eq_false hk2, Bool.false_and, Bool.false_and]
    simp only [SW.all h.1, MR, ckk_T, deR_s, deQ_s, deQ_n, bkV_s, bkI_s, bkJ_s, bkQ_s, bkQ_n, ckb0, ckb1, ckb2, ckb3, eq_self, Nat.reduceEqDiff, Nat.reduceLeDiff, Nat.reduceLT, reduceIte, true_or, or_true, not_false_eq_true, not_true_eq_false, and_self, and_true, true_and, LIT, Int32.reduceLT, Int32.reduceLE, Int32.reduceToNatClampNeg]
    rw [up_s]
    have K1 := K80L h 2 z
    have G1 := G80L h.2.2.2.1 2 z
    have T1 := ts.mv z
    have t41 : mI (setL M 80 2 z) 80 4 = 65535 := t4
    have c80 : mC (setL M 80 2 z) 80 = 6 := (SW.all h.1).2.2.2.2.2.2.2.2.2.2.2.2.2.2.2.2.2.2.2.2.2.1
    unfold lstV
    by_cases hq : lg_cmp z bef = 0
    · rw [if_pos hq]
      have hzb : z = bef := (lg_cmp_eq z bef).mp hq
      have hne : (srch V gi wi (vF V) (fun m _ => vOp V (nI y) m)).2.2.2 ≠ 3 := by
        rcases hbef with q | ⟨y', q1, q2⟩
        · exfalso
          have e1 := hz2 63 (by decide)
          rw [hzb, q, decide_eq_false (by omega), Bool.false_and] at e1
          exact absurd e1 (by decide)
        · have : srch V gi wi (vF V) (fun m _ => vOp V (nI y) m) = srch V gi wi (vF V) (fun m _ => vOp V y' m) := by
            unfold srch
            rw [nxV_congr (ok := fun m _ => vOp V (nI y) m) (ok' := fun m _ => vOp V y' m)]
            intro m hm s
            have a1 := hz2 m (by omega)
            have a2 := q1 m (by omega)
            rw [hzb, a2, decide_eq_true hm, Bool.true_and, Bool.true_and] at a1
            exact a1.symm
          rw [this]; exact q2
      rw [if_neg hne, nI_1]
      obtain ⟨M', e, f, K⟩ := last_loop hD (l1 := l1) (l2 := l2) (l3 := l3) hb hg hw n (y + 1) _ z (by omega) K1 T1 t41 (Or.inr ⟨nI y, hz2, hne⟩)
      exact ⟨M', e, G1.trans f, K⟩
    · rw [if_neg hq]
      obtain ⟨M2, e2, f2, r2, K2⟩ := c_whole hD K1 hg hw T1.1 T1.2.1 (ok := fun m _ => vOp V (nI y) m) (fun k hk s => by
        rw [t41, trC_all, Bool.and_true, gL_s, hz2 k (by omega), decide_eq_true hk, Bool.true_and])
      have e3 : mI (setL M 80 2 z) 80 3 = vF V := ts.2.2
      rw [e3] at e2 r2
      rw [e2]
      have B := srch_end hV gi wi (vF V) (fun m _ => vOp V (nI y) m)
      have T2 := T1.h81 f2
      have t42 : mI M2 80 4 = 65535 := by rw [f2.i (by unfold Ph; omega)]; exact t4
      have l2' : mL M2 80 2 = z := by rw [f2.l, gL_s]
      have G2 := G1.trans (g81 K1.2.2.2.1 f2)
      simp only [SW.all K2.1, MR, ckk_T, deR_s, deQ_s, deQ_n, bkV_s, bkI_s, bkJ_s, bkQ_s, bkQ_n, ckb0, ckb1, ckb2, ckb3, eq_self, Nat.reduceEqDiff, Nat.reduceLeDiff, Nat.reduceLT, reduceIte, true_or, or_true, not_false_eq_true, not_true_eq_false, and_self, and_true, true_and, LIT, Int32.reduceLT, Int32.reduceLE, Int32.reduceToNatClampNeg]
      by_cases s3 : (srch V gi wi (vF V) (fun m _ => vOp V (nI y) m)).2.2.2 = 3
      · rw [if_pos (show nI (srch V gi wi (vF V) (fun m _ => vOp V (nI y) m)).2.2.2 = 3 by rw [s3]; rfl), if_pos s3, eq_Suit_last_105]
        exact ⟨M2, rfl, G2, K2⟩
      · have n3 : ¬ nI (srch V gi wi (vF V) (fun m _ => vOp V (nI y) m)).2.2.2 = 3 := fun q => s3 ((st_eq B.1.2.2.2.2.2.2.2.2 (by decide)).mp q)
        rw [if_neg n3, if_neg s3, nI_1, l2']
        obtain ⟨M', e, f, K⟩ := last_loop hD (l1 := l1) (l2 := l2) (l3 := l3) hb hg hw n (y + 1) M2 z (by omega) K2 T2 t42 (Or.inr ⟨nI y, hz2, s3⟩)
        exact ⟨M', e, G2.trans f, K⟩
theorem inB_get {y : Int32} (h : inB y 0 2999 = true) : ∃ j, j ≤ 2999 ∧ y = nI j := by
  unfold inB at h
  rw [decide_eq_true_iff] at h
  exact nI_of2 (n := 2999) (by decide : (2999 : Int32).toInt = 2999) (Int32.not_lt.mpr h.1) h.2
theorem c_last {D : Nat} (hD : 7 ≤ D) {M : ej_Mem} {own : Nat → Nat} {V : View} (h : KC M own V) (g w a b : Int32) : ∃ M', cal D jm_Suit_last [.ref 59, .int g, .int w, .int a, .int b] M = some (some (.int (a_last V g w a b)), M') ∧ FrG (P7 own) M M' ∧ KC M' own V := by
  obtain ⟨d, rfl⟩ : ∃ d, D = d + 1 := ⟨D - 1, by omega⟩
  have hV := h.2.2.2.2.2.2.1
  rw [ca_Suit_last, eq_Suit_last_0, p_isYearC (by omega)]
  simp only [MR, ckk_T, deR_s, deQ_s, deQ_n, bkV_s, bkI_s, bkJ_s, bkQ_s, bkQ_n, ckb0, ckb1, ckb2, ckb3, eq_self, Nat.reduceEqDiff, Nat.reduceLeDiff, Nat.reduceLT, reduceIte, true_or, or_true, not_false_eq_true, not_true_eq_false, and_self, and_true, true_and, LIT, Int32.reduceLT, Int32.reduceLE, Int32.reduceToNatClampNeg]
  unfold a_last
  have no : ∀ t : Bool, t = false → ∃ M', (some (some (Value.int (-1)), M) : Option ej_R) = some (some (.int (if t = true then lstV V g.toNatClampNeg w.toNatClampNeg (b.toNatClampNeg + 1 - a.toNatClampNeg) a else -1)), M') ∧ FrG (P7 own) M M' ∧ KC M' own V := by
    intro t ht
    rw [ht]
    exact ⟨M, rfl, FrG.refl _ M, h⟩
  cases ya : inB a 0 2999
  · exact no _ rfl
  · simp only [MR, ckk_T, deR_s, deQ_s, deQ_n, bkV_s, bkI_s, bkJ_s, bkQ_s, bkQ_n, ckb0, ckb1, ckb2, ckb3, eq_self, Nat.reduceEqDiff, Nat.reduceLeDiff, Nat.reduceLT, reduceIte, true_or, or_true, not_false_eq_true, not_true_eq_false, and_self, and_true, true_and, LIT, Int32.reduceLT, Int32.reduceLE, Int32.reduceToNatClampNeg, b2i_t]
    rw [p_isYearC (by omega)]
    cases yb : inB b 0 2999
    · exact no _ rfl
    · simp only [MR, ckk_T, deR_s, deQ_s, deQ_n, bkV_s, bkI_s, bkJ_s, bkQ_s, bkQ_n, ckb0, ckb1, ckb2, ckb3, eq_self, Nat.reduceEqDiff, Nat.reduceLeDiff, Nat.reduceLT, reduceIte, true_or, or_true, not_false_eq_true, not_true_eq_false, and_self, and_true, true_and, LIT, Int32.reduceLT, Int32.reduceLE, Int32.reduceToNatClampNeg, b2i_t]
      by_cases q1 : b < a
      · rw [if_pos q1, decide_eq_false (Int32.not_le.mpr q1)]
        exact no _ rfl
      · rw [if_neg q1, decide_eq_true (Int32.not_lt.mp q1), eq_Suit_last_21]
        by_cases q2 : 100 ≤ b - a
        · rw [if_pos q2, decide_eq_false (Int32.not_lt.mpr q2)]
          exact no _ rfl
        · rw [if_neg q2, decide_eq_true (Int32.not_le.mp q2), eq_Suit_last_30]
          obtain ⟨M1, e1, f1, tm⟩ := p_setTerms (by omega : 2 ≤ d) h g w a
          have K1 := Pq80 h f1
          have G1 := g80 h.2.2.2.1 f1
          simp only [SW.all h.1, MR, ckk_T, deR_s, deQ_s, deQ_n, bkV_s, bkI_s, bkJ_s, bkQ_s, bkQ_n, ckb0, ckb1, ckb2, ckb3, eq_self, Nat.reduceEqDiff, Nat.reduceLeDiff, Nat.reduceLT, reduceIte, true_or, or_true, not_false_eq_true, not_true_eq_false, and_self, and_true, true_and, LIT, Int32.reduceLT, Int32.reduceLE, Int32.reduceToNatClampNeg]
          rw [e1]
          simp only [MR, ckk_T, deR_s, deQ_s, deQ_n, bkV_s, bkI_s, bkJ_s, bkQ_s, bkQ_n, ckb0, ckb1, ckb2, ckb3, eq_self, Nat.reduceEqDiff, Nat.reduceLeDiff, Nat.reduceLT, reduceIte, true_or, or_true, not_false_eq_true, not_true_eq_false, and_self, and_true, true_and, LIT, Int32.reduceLT, Int32.reduceLE, Int32.reduceToNatClampNeg, Bool.true_and]
          cases ha : askB V g w a
          · exact ⟨M1, rfl, G1, K1⟩
          · obtain ⟨gi, wi, hg, hw, _, _, eg, ew, hy, ts⟩ := tm.ts hV f1 h.2.2.1 ha
            obtain ⟨aj, ha3, rfl⟩ := inB_get ya
            obtain ⟨bj, hb3, rfl⟩ := inB_get yb
            have hle : aj ≤ bj := by
              rcases Nat.lt_or_ge bj aj with z | z
              · exact absurd (nI_lt z (by omega)) q1
              · exact z
            rw [eg, ew]
            simp only [b2i_t, MR, ckk_T, deR_s, deQ_s, deQ_n, bkV_s, bkI_s, bkJ_s, bkQ_s, bkQ_n, ckb0, ckb1, ckb2, ckb3, eq_self, Nat.reduceEqDiff, Nat.reduceLeDiff, Nat.reduceLT, reduceIte, true_or, or_true, not_false_eq_true, not_true_eq_false, and_self, and_true, true_and, LIT, Int32.reduceLT, Int32.reduceLE, Int32.reduceToNatClampNeg]
            rw [nI_clamp (by omega), nI_clamp (by omega)]
            obtain ⟨M2, e2, f2, K2⟩ := last_loop (by omega : 6 ≤ d) (l1 := g) (l2 := w) (l3 := nI aj) (show bj < 3000 by omega) hg hw (bj + 1 - aj) aj M1 (-1) (by omega) K1 ts tm.2.2.2.2 (Or.inl rfl)
            exact ⟨M2, e2, G1.trans f2, K2⟩
