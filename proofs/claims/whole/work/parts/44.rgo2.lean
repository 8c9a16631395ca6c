/-! the reference's public calls about its search -/
theorem marks_loop {D : Nat} (hD : 2 ≤ D) {mk : Nat} {l1 : Int32} {b : BS} (h4 : b.1.length ≤ 4000) (hn : b.1.Nodup) : ∀ (n k : Nat) (M : ej_Mem), k + n = b.1.length → RW M → RG M b → RT M (b.1.take k) → MK M mk →
    ∃ M', rn jm_Ref_go (cal D) 33 [some (.ref 90), some (.int l1), some (.int (nI k))] [] M = rn jm_Ref_go (cal D) 60 [some (.ref 90), some (.int l1), some (.int 0)] [] M' ∧ Fr Pm M M' ∧ RT M' b.1 ∧ MK M' mk
  | 0, k, M, hk, hW, H, hT, hK => by
    refine ⟨M, ?_, Fr.refl _ M, ?_, hK⟩
    · rw [eq_Ref_go_33]
      simp only [RW.all hW, MR, ckk_T, deR_s, deQ_s, deQ_n, bkV_s, bkI_s, bkJ_s, bkQ_s, bkQ_n, ckb0, ckb1, ckb2, ckb3, eq_self, Nat.reduceEqDiff, Nat.reduceLeDiff, Nat.reduceLT, reduceIte, true_or, or_true, not_false_eq_true, not_true_eq_false, and_self, and_true, true_and, LIT, Int32.reduceLT, Int32.reduceLE, Int32.reduceToNatClampNeg]
      rw [H.1.2.1, if_pos (nI_le (by omega) (by omega))]
    · rw [show k = b.1.length by omega, List.take_length] at hT
      exact hT
  | n + 1, k, M, hk, hW, H, hT, hK => by
    have hlen : (b.1.take k).length = k := by rw [List.length_take]; omega
    rw [eq_Ref_go_33]
    simp only [RW.all hW, MR, ckk_T, deR_s, deQ_s, deQ_n, bkV_s, bkI_s, bkJ_s, bkQ_s, bkQ_n, ckb0, ckb1, ckb2, ckb3, eq_self, Nat.reduceEqDiff, Nat.reduceLeDiff, Nat.reduceLT, reduceIte, true_or, or_true, not_false_eq_true, not_true_eq_false, and_self, and_true, true_and, LIT, Int32.reduceLT, Int32.reduceLE, Int32.reduceToNatClampNeg, ckb_n (show k < 4000 by omega) (show 4000 < 2 ^ 31 by decide), nI_clamp (show k < 2 ^ 31 by omega), nI_1]
    rw [H.1.2.1, if_neg (nI_ge (by omega) (by omega)), H.2.1 k (by omega)]
    have hs : b.1.getD k 0 ∉ b.1.take k := by
      intro q
      obtain ⟨j, hj, e⟩ := mem_getD q
      rw [hlen] at hj
      rw [take_getD hj] at e
      have := nodup_getD hn (by omega) (by omega) e
      omega
    obtain ⟨M1, e1, f1, r1, k1⟩ := p_marks hD hW hT hK hs (by omega)
    rw [hlen] at e1
    rw [e1]
    have ht : b.1.take k ++ [b.1.getD k 0] = b.1.take (k + 1) := by
      have : b.1.getD k 0 = b.1[k]'(by omega) := by simp [List.getD, show k < b.1.length by omega]
      rw [this, List.take_append_getElem]
    rw [ht] at r1
    have H1 : RG M1 b := H.fr f1 ⟨by unfold Pm; omega, by unfold Pm; omega, by unfold Pm; omega, by unfold Pm; omega⟩ (fun k => ⟨by unfold Pm; omega, by unfold Pm; omega, by unfold Pm; omega⟩)
    obtain ⟨M2, e2, f2, r2, k2⟩ := marks_loop hD h4 hn n (k + 1) M1 (by omega) (f1.rw hW) H1 r1 k1
    exact ⟨M2, e2, f1.trans f2, r2, k2⟩
theorem go_loop {D : Nat} (hD : 6 ≤ D) {gi wi : Nat} {y : Int32} {mk n0 : Nat} (hn0 : n0 ≤ 4000) : ∀ (n k : Nat) (M : ej_Mem) (b : BS), k + n = n0 → GX M gi wi y → RG M b → RT M b.1 → MK M mk → BOK 4000 b →
    ∃ M', rn jm_Ref_go (cal D) 60 [some (.ref 90), some (.int (nI n0)), some (.int (nI k))] [] M = some (some (.int (nI (k + ((b_run (rN (aI M) 0) (nxG M gi y) 4000 (wsR M (some wi)) n b).2.2.1 - b.2.2.1)))), M') ∧ Fr Pgo M M' ∧ RG M' (b_run (rN (aI M) 0) (nxG M gi y) 4000 (wsR M (some wi)) n b) ∧ MK M' mk
  | 0, k, M, b, hk, hX, H, hT, hK, hB => by
    rw [eq_Ref_go_60, if_pos (nI_le (by omega) (by omega))]
    refine ⟨M, ?_, Fr.refl _ M, H, hK⟩
    show _ = some (some (Value.int (nI (k + (b.2.2.1 - b.2.2.1)))), M)
    rw [Nat.sub_self, Nat.add_zero]
  | n + 1, k, M, b, hk, hX, H, hT, hK, hB => by
    have m0 : mst 0 = 40 := rfl
    have t2 := (hX.1.2.1 0 (by decide)).2.1
    rw [eq_Ref_go_60, if_neg (nI_ge (by omega) (by omega)), nI_1]
    simp only [RW.all hX.1.1, MR, ckk_T, deR_s, deQ_s, deQ_n, bkV_s, bkI_s, bkJ_s, bkQ_s, bkQ_n, ckb0, ckb1, ckb2, ckb3, eq_self, Nat.reduceEqDiff, Nat.reduceLeDiff, Nat.reduceLT, reduceIte, true_or, or_true, not_false_eq_true, not_true_eq_false, and_self, and_true, true_and, LIT, Int32.reduceLT, Int32.reduceLE, Int32.reduceToNatClampNeg]
    rw [H.1.1]
    unfold b_run
    by_cases hs : b.2.2.2 = 1
    · rw [if_pos (show nI b.2.2.2 = 1 by rw [hs]; rfl), if_pos hs]
      obtain ⟨M1, e1, f1, r1, t1, k1⟩ := p_goesThrough hD hX H hT hK hB hs
      obtain ⟨p1, p2⟩ := b_pass_ok (nx := nxG M gi y) (w := wsR M (some wi)) (by omega : rN (aI M) 0 ≤ 40) hB hs
      rw [e1]
      obtain ⟨M2, e2, f2, r2, k2⟩ := go_loop hD hn0 n (k + 1) M1 _ (by omega) (hX.fr f1) r1 t1 k1 p1
      rw [nxG_fr f1, wsR_go f1, rN_ag (AgA.go f1)] at e2 r2
      refine ⟨M2, ?_, f1.trans f2, r2, k2⟩
      have hle := (b_run_ok (nx := nxG M gi y) (w := wsR M (some wi)) (by omega : rN (aI M) 0 ≤ 40) n _ p1).2.1
      simp only [bkV_s]
      rw [e2, p2]
      rw [p2] at hle
      rw [show k + 1 + ((b_run (rN (aI M) 0) (nxG M gi y) 4000 (wsR M (some wi)) n (b_pass (rN (aI M) 0) (nxG M gi y) 4000 (wsR M (some wi)) b)).2.2.1 - (b.2.2.1 + 1)) = k + ((b_run (rN (aI M) 0) (nxG M gi y) 4000 (wsR M (some wi)) n (b_pass (rN (aI M) 0) (nxG M gi y) 4000 (wsR M (some wi)) b)).2.2.1 - b.2.2.1) by omega]
    · have hn : ¬ nI b.2.2.2 = 1 := fun q => hs ((st_eq hB.2.2.2.2.2.2.2.2 (by decide)).mp q)
      rw [if_neg hn, if_neg hs, Nat.sub_self, Nat.add_zero]
      exact ⟨M, rfl, Fr.refl _ M, H, hK⟩
theorem p_goR_n {D : Nat} (hD : 1 ≤ D + 0) {M : ej_Mem} (hW : RW M) {n : Int32} (h : inB n 1 4000 = false ∨ mI M 90 31 = 0) : cal (D + 1) jm_Ref_go [.ref 90, .int n] M = some (some (.int (-1)), M) := by
  rw [ca_Ref_go, eq_Ref_go_0]
  have E := p_inI (by omega : 1 ≤ D) n 1 4000 M
  rw [show Int32.toInt64 1 = 1 from by decide, show Int32.toInt64 4000 = 4000 from by decide] at E
  rw [E]
  simp only [RW.all hW, MR, ckk_T, deR_s, deQ_s, deQ_n, bkV_s, bkI_s, bkJ_s, bkQ_s, bkQ_n, ckb0, ckb1, ckb2, ckb3, eq_self, Nat.reduceEqDiff, Nat.reduceLeDiff, Nat.reduceLT, reduceIte, true_or, or_true, not_false_eq_true, not_true_eq_false, and_self, and_true, true_and, LIT, Int32.reduceLT, Int32.reduceLE, Int32.reduceToNatClampNeg]
  cases hb : inB n 1 4000
  · rw [if_pos b2i_f]
  · rw [if_neg (by decide)]
    rcases h with h | h
    · rw [hb] at h; cases h
    · rw [if_pos h]
theorem p_goR {D : Nat} (hD : 7 ≤ D) {gi wi : Nat} {y : Int32} {mk n0 : Nat} (h1 : 1 ≤ n0) (h2 : n0 ≤ 4000) {M : ej_Mem} {b : BS} (hX : GX M gi wi y) (H : RG M b) (hK : MK M mk) (hmk : mk < 2 ^ 30) (hB : BOK 4000 b) :
    ∃ M', cal D jm_Ref_go [.ref 90, .int (nI n0)] M = some (some (.int (nI ((b_run (rN (aI M) 0) (nxG M gi y) 4000 (wsR M (some wi)) n0 b).2.2.1 - b.2.2.1))), M') ∧ Fr Pgo M M' ∧ RG M' (b_run (rN (aI M) 0) (nxG M gi y) 4000 (wsR M (some wi)) n0 b) ∧ MK M' (mk + 1) := by
  obtain ⟨d, rfl⟩ : ∃ d, D = d + 1 := ⟨D - 1, by omega⟩
  have hW := hX.1.1
  rw [ca_Ref_go, eq_Ref_go_0]
  have E := p_inI (by omega : 1 ≤ d) (nI n0) 1 4000 M
  rw [show Int32.toInt64 1 = 1 from by decide, show Int32.toInt64 4000 = 4000 from by decide] at E
  have hin : inB (nI n0) 1 4000 = true := by
    unfold inB
    rw [decide_eq_true_iff]
    exact ⟨nI_le (a := 1) h1 (by omega), nI_le (b := 4000) h2 (by decide)⟩
  rw [E, hin]
  have hst : ¬ mI M 90 31 = 0 := by
    rw [H.1.1]
    intro q
    have := (nI_eq (by have := hB.2.2.2.2.2.2.2.2; omega) (by decide : 0 < 2 ^ 31)).mp q
    have := hB.2.2.2.2.2.2.2.1
    omega
  simp only [RW.all hW, MR, ckk_T, deR_s, deQ_s, deQ_n, bkV_s, bkI_s, bkJ_s, bkQ_s, bkQ_n, ckb0, ckb1, ckb2, ckb3, eq_self, Nat.reduceEqDiff, Nat.reduceLeDiff, Nat.reduceLT, reduceIte, true_or, or_true, not_false_eq_true, not_true_eq_false, and_self, and_true, true_and, LIT, Int32.reduceLT, Int32.reduceLE, Int32.reduceToNatClampNeg, b2i_t]
  rw [if_neg hst, hK.1, nI_1]
  obtain ⟨T1, K1⟩ := RT_new hK hmk
  generalize hM1 : setI M 90 27 (nI (mk + 1)) = M1 at *
  have f1 : Fr (fun o k => o = 90 ∧ k = 27) M M1 := by rw [← hM1]; exact Fr.setI M _ (by omega)
  have g1 : Fr Pgo M M1 := f1.mono (fun o k => by unfold Pgo; omega)
  have H1 : RG M1 b := H.fr f1 ⟨by omega, by omega, by omega, by omega⟩ (fun k => ⟨by omega, by omega, by omega⟩)
  obtain ⟨M2, e2, f2, r2, k2⟩ := marks_loop (by omega : 2 ≤ d) (l1 := nI n0) hB.2.1 hB.2.2.2.2.1 b.1.length 0 M1 (by omega) (f1.rw hW) H1 T1 K1
  have e2' : rn jm_Ref_go (cal d) 33 [some (.ref 90), some (.int (nI n0)), some (.int 0)] [] M1 = rn jm_Ref_go (cal d) 60 [some (.ref 90), some (.int (nI n0)), some (.int 0)] [] M2 := e2
  rw [e2']
  have g2 : Fr Pgo M M2 := g1.trans (f2.mono Pm_go)
  have H2 : RG M2 b := H1.fr f2 ⟨by unfold Pm; omega, by unfold Pm; omega, by unfold Pm; omega, by unfold Pm; omega⟩ (fun k => ⟨by unfold Pm; omega, by unfold Pm; omega, by unfold Pm; omega⟩)
  obtain ⟨M3, e3, f3, r3, k3⟩ := go_loop (by omega : 6 ≤ d) h2 n0 0 M2 b (by omega) (hX.fr g2) H2 r2 k2 hB
  rw [nxG_fr g2, wsR_go g2, rN_ag (AgA.go g2), Nat.zero_add] at e3
  rw [nxG_fr g2, wsR_go g2, rN_ag (AgA.go g2)] at r3
  exact ⟨M3, e3, g2.trans f3, r3, k3⟩
theorem rowMany_loop (cl : Nat → List Value → ej_Mem → Option ej_R) {M : ej_Mem} (hW : RW M) {b : BS} (H : RG M b) (h4 : b.1.length ≤ 4000) (hl : LK b.2.1 b.1.length) : ∀ (i j : Nat), i < b.1.length →
    rn jm_Ref_rowMany cl 7 [some (.ref 90), some (.int (nI j)), some (.int (nI i))] [] M = some (some (.int (nI (j + (b_row b.2.1 i i).length))), M) := by
  intro i
  induction i using Nat.strongRecOn with
  | _ i ih =>
    intro j hi
    rw [eq_Ref_rowMany_7]
    simp only [RW.all hW, MR, ckk_T, deR_s, deQ_s, deQ_n, bkV_s, bkI_s, bkJ_s, bkQ_s, bkQ_n, ckb0, ckb1, ckb2, ckb3, eq_self, Nat.reduceEqDiff, Nat.reduceLeDiff, Nat.reduceLT, reduceIte, true_or, or_true, not_false_eq_true, not_true_eq_false, and_self, and_true, true_and, LIT, Int32.reduceLT, Int32.reduceLE, Int32.reduceToNatClampNeg, ckb_n (show i < 4000 by omega) (show 4000 < 2 ^ 31 by decide), nI_clamp (show i < 2 ^ 31 by omega), nI_1]
    by_cases h0 : i = 0
    · subst h0
      rw [if_pos (H.2.2.1 (by omega))]
      rfl
    · have h1 := hl i (by omega) hi
      have hne : ¬ nI (b.2.1.getD i (0, 0)).1 = -1 := by
        intro q
        have := nI_pos' (n := (b.2.1.getD i (0, 0)).1) (by omega)
        rw [q] at this
        exact absurd this (by decide)
      rw [(H.2.2.2 i (by omega) hi).1, if_neg hne, ih _ h1.1 (j + 1) (by omega), b_row_s hl (by omega) hi, List.length_cons]
      rw [show j + 1 + (b_row b.2.1 (b.2.1.getD i (0, 0)).1 (b.2.1.getD i (0, 0)).1).length = j + ((b_row b.2.1 (b.2.1.getD i (0, 0)).1 (b.2.1.getD i (0, 0)).1).length + 1) by omega]
theorem p_rowMany {D : Nat} (hD : 1 ≤ D) {M : ej_Mem} (hW : RW M) {b : BS} (H : RG M b) (h0 : 0 < b.1.length) (h4 : b.1.length ≤ 4000) (hl : LK b.2.1 b.1.length) : cal D jm_Ref_rowMany [.ref 90] M = some (some (.int (nI (rowOf b).length)), M) := by
  obtain ⟨d, rfl⟩ : ∃ d, D = d + 1 := ⟨D - 1, by omega⟩
  rw [ca_Ref_rowMany, eq_Ref_rowMany_0]
  simp only [RW.all hW, MR, ckk_T, deR_s, deQ_s, deQ_n, bkV_s, bkI_s, bkJ_s, bkQ_s, bkQ_n, ckb0, ckb1, ckb2, ckb3, eq_self, Nat.reduceEqDiff, Nat.reduceLeDiff, Nat.reduceLT, reduceIte, true_or, or_true, not_false_eq_true, not_true_eq_false, and_self, and_true, true_and, LIT, Int32.reduceLT, Int32.reduceLE, Int32.reduceToNatClampNeg]
  rw [H.1.2.2.2]
  have L := rowMany_loop (cal d) hW H h4 hl (b.1.length - 1) 0 (by omega)
  rw [Nat.zero_add] at L
  exact L
/-- what is said of a search -/
def soughtV (b : BS) (x : Int32) : Int32 := if x = 0 then nI b.2.2.2 else if x = 1 then nI b.1.length else if x = 2 then nI b.2.2.1 else if x = 3 then (if b.2.2.2 = 2 then nI (rowOf b).length else -1) else -1
def metV (b : BS) (k : Int32) : Int32 := if hasB b.1.length k = true then b.1.getD k.toNatClampNeg 0 else -1
/-- a search as it can be at all: none yet, or one in order -/
def BQ (b : BS) : Prop := b = ([], [], 0, 0) ∨ BOK 4000 b
theorem BQ.lk {b : BS} (h : BQ b) : b.2.2.2 ≤ 4 ∧ b.1.length ≤ 4000 ∧ LK b.2.1 b.1.length ∧ (b.2.2.2 = 2 → 0 < b.1.length) := by
  rcases h with rfl | h
  · refine ⟨by decide, by decide, fun i h1 h2 => absurd h2 (Nat.not_lt_zero i), fun e => absurd e (by decide)⟩
  · exact ⟨h.2.2.2.2.2.2.2.2, h.2.1, h.2.2.2.2.2.1, fun _ => h.1⟩
theorem p_soughtR {D : Nat} (hD : 2 ≤ D) {M : ej_Mem} (hW : RW M) {b : BS} (H : RG M b) (hB : BQ b) (x : Int32) : cal D jm_Ref_sought [.ref 90, .int x] M = some (some (.int (soughtV b x)), M) := by
  obtain ⟨d, rfl⟩ : ∃ d, D = d + 1 := ⟨D - 1, by omega⟩
  obtain ⟨h4, h5, hl, h0⟩ := hB.lk
  rw [ca_Ref_sought, eq_Ref_sought_0]
  simp only [RW.all hW, MR, ckk_T, deR_s, deQ_s, deQ_n, bkV_s, bkI_s, bkJ_s, bkQ_s, bkQ_n, ckb0, ckb1, ckb2, ckb3, eq_self, Nat.reduceEqDiff, Nat.reduceLeDiff, Nat.reduceLT, reduceIte, true_or, or_true, not_false_eq_true, not_true_eq_false, and_self, and_true, true_and, LIT, Int32.reduceLT, Int32.reduceLE, Int32.reduceToNatClampNeg]
  unfold soughtV
  by_cases x0 : x = 0
  · rw [if_pos x0, if_pos x0, H.1.1]
  · rw [if_neg x0, if_neg x0]
    by_cases x1 : x = 1
    · rw [if_pos x1, if_pos x1, H.1.2.1]
    · rw [if_neg x1, if_neg x1]
      by_cases x2 : x = 2
      · rw [if_pos x2, if_pos x2, H.1.2.2.1]
      · rw [if_neg x2, if_neg x2]
        by_cases x3 : x = 3
        · rw [if_pos x3, if_pos x3, H.1.1]
          by_cases hs : b.2.2.2 = 2
          · rw [if_pos (show nI b.2.2.2 = 2 by rw [hs]; rfl), if_pos hs, p_rowMany (by omega) hW H (h0 hs) h5 hl]
            rfl
          · have hn : ¬ nI b.2.2.2 = 2 := fun q => hs ((st_eq h4 (by decide)).mp q)
            rw [if_neg hn, if_neg hs]
        · rw [if_neg x3, if_neg x3]
theorem row_loop (cl : Nat → List Value → ej_Mem → Option ej_R) {M : ej_Mem} (hW : RW M) {b : BS} (H : RG M b) (h4 : b.1.length ≤ 4000) (hl : LK b.2.1 b.1.length) {k : Nat} (hk : k < 4001) : ∀ (r i : Nat), r < 4001 → i < b.1.length → r < (b_row b.2.1 i i).length →
    rn jm_Ref_row cl 38 [some (.ref 90), some (.int (nI k)), some (.int (nI i)), some (.int (nI (k + r)))] [] M = some (some (.int (nI ((b_row b.2.1 i i).getD r 0))), M)
  | 0, i, hr0, hi, hr => by
    have h0 : 0 < i := by
      rcases Nat.eq_zero_or_pos i with rfl | q
      · exact absurd hr (Nat.lt_irrefl 0)
      · exact q
    rw [eq_Ref_row_38, if_pos (nI_le (by omega) (by omega))]
    simp only [RW.all hW, MR, ckk_T, deR_s, deQ_s, deQ_n, bkV_s, bkI_s, bkJ_s, bkQ_s, bkQ_n, ckb0, ckb1, ckb2, ckb3, eq_self, Nat.reduceEqDiff, Nat.reduceLeDiff, Nat.reduceLT, reduceIte, true_or, or_true, not_false_eq_true, not_true_eq_false, and_self, and_true, true_and, LIT, Int32.reduceLT, Int32.reduceLE, Int32.reduceToNatClampNeg, ckb_n (show i < 4000 by omega) (show 4000 < 2 ^ 31 by decide), nI_clamp (show i < 2 ^ 31 by omega)]
    rw [(H.2.2.2 i h0 hi).2, b_row_s hl h0 hi]
    rfl
  | r + 1, i, hr0, hi, hr => by
    have h0 : 0 < i := by
      rcases Nat.eq_zero_or_pos i with rfl | q
      · exact absurd hr (Nat.not_lt_zero _)
      · exact q
    have h1 := hl i h0 hi
    rw [eq_Ref_row_38, if_neg (nI_ge (by omega) (by omega))]
    simp only [RW.all hW, MR, ckk_T, deR_s, deQ_s, deQ_n, bkV_s, bkI_s, bkJ_s, bkQ_s, bkQ_n, ckb0, ckb1, ckb2, ckb3, eq_self, Nat.reduceEqDiff, Nat.reduceLeDiff, Nat.reduceLT, reduceIte, true_or, or_true, not_false_eq_true, not_true_eq_false, and_self, and_true, true_and, LIT, Int32.reduceLT, Int32.reduceLE, Int32.reduceToNatClampNeg, ckb_n (show i < 4000 by omega) (show 4000 < 2 ^ 31 by decide), nI_clamp (show i < 2 ^ 31 by omega)]
    rw [b_row_s hl h0 hi] at hr ⊢
    rw [(H.2.2.2 i h0 hi).1, nI_p1m (by omega), show k + (r + 1) - 1 = k + r by omega, row_loop cl hW H h4 hl hk r _ (by omega) (by omega) (by simpa using hr)]
    rfl
theorem p_rowR {D : Nat} (hD : 2 ≤ D) {M : ej_Mem} (hW : RW M) {b : BS} (H : RG M b) (hB : BQ b) (k : Int32) : cal D jm_Ref_row [.ref 90, .int k] M = some (some (.int (rowK b k)), M) := by
  obtain ⟨d, rfl⟩ : ∃ d, D = d + 1 := ⟨D - 1, by omega⟩
  obtain ⟨h4, h5, hl, h0⟩ := hB.lk
  have hr := rowOf_le h5
  rw [ca_Ref_row, eq_Ref_row_0]
  simp only [RW.all hW, MR, ckk_T, deR_s, deQ_s, deQ_n, bkV_s, bkI_s, bkJ_s, bkQ_s, bkQ_n, ckb0, ckb1, ckb2, ckb3, eq_self, Nat.reduceEqDiff, Nat.reduceLeDiff, Nat.reduceLT, reduceIte, true_or, or_true, not_false_eq_true, not_true_eq_false, and_self, and_true, true_and, LIT, Int32.reduceLT, Int32.reduceLE, Int32.reduceToNatClampNeg]
  rw [H.1.1]
  unfold rowK
  by_cases hs : b.2.2.2 = 2
  · rw [if_pos (show nI b.2.2.2 = 2 by rw [hs]; rfl), p_rowMany (by omega) hW H (h0 hs) h5 hl]
    simp only [MR, ckk_T, deR_s, deQ_s, deQ_n, bkV_s, bkI_s, bkJ_s, bkQ_s, bkQ_n, ckb0, ckb1, ckb2, ckb3, eq_self, Nat.reduceEqDiff, Nat.reduceLeDiff, Nat.reduceLT, reduceIte, true_or, or_true, not_false_eq_true, not_true_eq_false, and_self, and_true, true_and, LIT, Int32.reduceLT, Int32.reduceLE, Int32.reduceToNatClampNeg]
    rw [p_in0 (by omega), inB_has (by omega)]
    simp only [RW.all hW, MR, ckk_T, deR_s, deQ_s, deQ_n, bkV_s, bkI_s, bkJ_s, bkQ_s, bkQ_n, ckb0, ckb1, ckb2, ckb3, eq_self, Nat.reduceEqDiff, Nat.reduceLeDiff, Nat.reduceLT, reduceIte, true_or, or_true, not_false_eq_true, not_true_eq_false, and_self, and_true, true_and, LIT, Int32.reduceLT, Int32.reduceLE, Int32.reduceToNatClampNeg]
    by_cases hk : hasB (rowOf b).length k = true
    · rw [if_pos (show b.2.2.2 = 2 ∧ hasB (rowOf b).length k = true from ⟨hs, hk⟩), hk, if_neg (show ¬ b2i true = 0 by decide), p_rowMany (by omega) hW H (h0 hs) h5 hl]
      simp only [MR, ckk_T, deR_s, deQ_s, deQ_n, bkV_s, bkI_s, bkJ_s, bkQ_s, bkQ_n, ckb0, ckb1, ckb2, ckb3, eq_self, Nat.reduceEqDiff, Nat.reduceLeDiff, Nat.reduceLT, reduceIte, true_or, or_true, not_false_eq_true, not_true_eq_false, and_self, and_true, true_and, LIT, Int32.reduceLT, Int32.reduceLE, Int32.reduceToNatClampNeg]
      obtain ⟨j, hj, rfl⟩ := (hasB_iff (by omega)).mp hk
      rw [nI_clamp (by omega), nI_m1 (by omega), H.1.2.2.2]
      have L := row_loop (cal d) hW H h5 hl (k := j) (by omega) ((rowOf b).length - 1 - j) (b.1.length - 1) (by omega) (by have := h0 hs; omega) (by show _ < (rowOf b).length; omega)
      rw [show j + ((rowOf b).length - 1 - j) = (rowOf b).length - 1 by omega] at L
      exact L
    · rw [if_neg (show ¬ (b.2.2.2 = 2 ∧ hasB (rowOf b).length k = true) from fun q => hk q.2)]
      have : hasB (rowOf b).length k = false := by simpa using hk
      rw [this, if_pos b2i_f]
  · have hn : ¬ nI b.2.2.2 = 2 := fun q => hs ((st_eq h4 (by decide)).mp q)
    rw [if_neg hn, if_neg (fun q => hs q.1)]
theorem p_metR {D : Nat} (hD : 2 ≤ D) {M : ej_Mem} (hW : RW M) {b : BS} (H : RG M b) (hB : BQ b) (k : Int32) : cal D jm_Ref_met [.ref 90, .int k] M = some (some (.int (metV b k)), M) := by
  obtain ⟨d, rfl⟩ : ∃ d, D = d + 1 := ⟨D - 1, by omega⟩
  obtain ⟨h4, h5, hl, h0⟩ := hB.lk
  rw [ca_Ref_met, eq_Ref_met_0]
  simp only [RW.all hW, MR, ckk_T, deR_s, deQ_s, deQ_n, bkV_s, bkI_s, bkJ_s, bkQ_s, bkQ_n, ckb0, ckb1, ckb2, ckb3, eq_self, Nat.reduceEqDiff, Nat.reduceLeDiff, Nat.reduceLT, reduceIte, true_or, or_true, not_false_eq_true, not_true_eq_false, and_self, and_true, true_and, LIT, Int32.reduceLT, Int32.reduceLE, Int32.reduceToNatClampNeg]
  rw [H.1.2.1, p_in0 (by omega), inB_has (by omega)]
  simp only [RW.all hW, MR, ckk_T, deR_s, deQ_s, deQ_n, bkV_s, bkI_s, bkJ_s, bkQ_s, bkQ_n, ckb0, ckb1, ckb2, ckb3, eq_self, Nat.reduceEqDiff, Nat.reduceLeDiff, Nat.reduceLT, reduceIte, true_or, or_true, not_false_eq_true, not_true_eq_false, and_self, and_true, true_and, LIT, Int32.reduceLT, Int32.reduceLE, Int32.reduceToNatClampNeg]
  unfold metV
  by_cases hk : hasB b.1.length k = true
  · obtain ⟨j, hj, rfl⟩ := (hasB_iff (by omega)).mp hk
    rw [hk, if_neg (by decide), if_pos rfl, ckb_n (by omega) (by decide), nI_clamp (by omega), H.2.1 j hj]
  · rw [if_neg hk]
    have : hasB b.1.length k = false := by simpa using hk
    rw [this, if_pos b2i_f]
def Pse (o k : Nat) : Prop := o = 104 ∨ o = 108 ∨ o = 109 ∨ o = 110 ∨ (o = 90 ∧ 31 ≤ k ∧ k ≤ 37)
theorem AgA.se {M M' : ej_Mem} (f : Fr Pse M M') : AgA (aI M) (aI M') := AgA.of f (fun o h k q => by unfold Pse at q; omega)
/-- what a search wants -/
def seOK (nG nW : Nat) (g w y s : Int32) : Bool := hasB nG g && (hasB nW w && (inB y 0 2999 && (decide (s = -1) || inB s 0 16777215)))
theorem search_set {D : Nat} (hD : 5 ≤ D) {M : ej_Mem} (hW : RW M) (hT : TXA (aI M)) {gi wi : Nat} (hg : gi < rN (aI M) 1) (hw : wi < rN (aI M) 2) (y s : Int32) :
    ∃ M', rn jm_Ref_search (cal D) 46 [some (.ref 90), some (.int (nI gi)), some (.int (nI wi)), some (.int y), some (.int s)] [] (setI M 90 34 (nI gi)) = some (some (.int 1), M') ∧ Fr Pse M M' ∧ GX M' gi wi y ∧ RG M' (b_new (wsR M (some wi)) (if s = -1 then rU (aI M) (40 + gi) 0 else s)) := by
  obtain ⟨u1, u2, u3⟩ := hT 1 (by decide)
  obtain ⟨v1, v2, v3⟩ := hT 2 (by decide)
  have m1 : mst 1 = 8 := rfl
  have m2 : mst 2 = 16 := rfl
  have hog : slOK (aI M) (40 + gi) := by have := u3 gi hg; rw [show pl 1 + gi = 40 + gi from rfl] at this; exact this
  rw [eq_Ref_search_46]
  simp only [RW.all hW, MR, ckk_T, deR_s, deQ_s, deQ_n, bkV_s, bkI_s, bkJ_s, bkQ_s, bkQ_n, ckb0, ckb1, ckb2, ckb3, eq_self, Nat.reduceEqDiff, Nat.reduceLeDiff, Nat.reduceLT, reduceIte, true_or, or_true, not_false_eq_true, not_true_eq_false, and_self, and_true, true_and, LIT, Int32.reduceLT, Int32.reduceLE, Int32.reduceToNatClampNeg]
  rw [eq_Ref_search_51]
  simp only [RW.all hW, MR, ckk_T, deR_s, deQ_s, deQ_n, bkV_s, bkI_s, bkJ_s, bkQ_s, bkQ_n, ckb0, ckb1, ckb2, ckb3, eq_self, Nat.reduceEqDiff, Nat.reduceLeDiff, Nat.reduceLT, reduceIte, true_or, or_true, not_false_eq_true, not_true_eq_false, and_self, and_true, true_and, LIT, Int32.reduceLT, Int32.reduceLE, Int32.reduceToNatClampNeg]
  rw [eq_Ref_search_56]
  generalize hM1 : setI (setI (setI M 90 34 (nI gi)) 90 35 (nI wi)) 90 36 y = M1
  have f1 : Fr Pse M M1 := by
    rw [← hM1]
    exact ((Fr.setI M _ (by unfold Pse; omega)).trans (Fr.setI _ _ (by unfold Pse; omega))).trans (Fr.setI _ _ (by unfold Pse; omega))
  have W1 := f1.rw hW
  have c34 : mI M1 90 34 = nI gi := by rw [← hM1, gI_n (by omega), gI_n (by omega), gI_s]
  have c35 : mI M1 90 35 = nI wi := by rw [← hM1, gI_n (by omega), gI_s]
  have c36 : mI M1 90 36 = y := by rw [← hM1, gI_s]
  have E := p_firstOf (by omega : 2 ≤ D) W1 (show gi < 8 by omega) (slOK_ag (AgA.se f1) _ hog) (aI M1 104)
  rw [setF_self, rU_ag (AgA.se f1)] at E
  simp only [RW.all W1, MR, ckk_T, deR_s, deQ_s, deQ_n, bkV_s, bkI_s, bkJ_s, bkQ_s, bkQ_n, ckb0, ckb1, ckb2, ckb3, eq_self, Nat.reduceEqDiff, Nat.reduceLeDiff, Nat.reduceLT, reduceIte, true_or, or_true, not_false_eq_true, not_true_eq_false, and_self, and_true, true_and, LIT, Int32.reduceLT, Int32.reduceLE, Int32.reduceToNatClampNeg]
  rw [E]
  generalize hs0 : (if s = -1 then rU (aI M) (40 + gi) 0 else s) = s0
  have step : (if s = -1 then (bkI (some (some (Value.int (rU (aI M) (40 + gi) 0)), M1)) fun x3 M2 => ckk (mC M2 108 = 100) (ckb 0 (mN M2 108) (rn jm_Ref_search (cal D) 78 [some (.ref 90), some (.int (nI gi)), some (.int (nI wi)), some (.int y), some (.int s)] [] (setA M2 108 0 x3)))) else rn jm_Ref_search (cal D) 78 [some (.ref 90), some (.int (nI gi)), some (.int (nI wi)), some (.int y), some (.int s)] [] (setA M1 108 0 s))
      = rn jm_Ref_search (cal D) 78 [some (.ref 90), some (.int (nI gi)), some (.int (nI wi)), some (.int y), some (.int s)] [] (setA M1 108 0 s0) := by
    rw [← hs0]
    by_cases q : s = -1
    · rw [if_pos q, if_pos q]
      simp only [RW.all W1, MR, ckk_T, deR_s, deQ_s, deQ_n, bkV_s, bkI_s, bkJ_s, bkQ_s, bkQ_n, ckb0, ckb1, ckb2, ckb3, eq_self, Nat.reduceEqDiff, Nat.reduceLeDiff, Nat.reduceLT, reduceIte, true_or, or_true, not_false_eq_true, not_true_eq_false, and_self, and_true, true_and, LIT, Int32.reduceLT, Int32.reduceLE, Int32.reduceToNatClampNeg]
    · rw [if_neg q, if_neg q]
  simp only [RW.all W1, MR, ckk_T, deR_s, deQ_s, deQ_n, bkV_s, bkI_s, bkJ_s, bkQ_s, bkQ_n, ckb0, ckb1, ckb2, ckb3, eq_self, Nat.reduceEqDiff, Nat.reduceLeDiff, Nat.reduceLT, reduceIte, true_or, or_true, not_false_eq_true, not_true_eq_false, and_self, and_true, true_and, LIT, Int32.reduceLT, Int32.reduceLE, Int32.reduceToNatClampNeg] at step ⊢
  rw [step, eq_Ref_search_78]
  simp only [RW.all W1, MR, ckk_T, deR_s, deQ_s, deQ_n, bkV_s, bkI_s, bkJ_s, bkQ_s, bkQ_n, ckb0, ckb1, ckb2, ckb3, eq_self, Nat.reduceEqDiff, Nat.reduceLeDiff, Nat.reduceLT, reduceIte, true_or, or_true, not_false_eq_true, not_true_eq_false, and_self, and_true, true_and, LIT, Int32.reduceLT, Int32.reduceLE, Int32.reduceToNatClampNeg]
  rw [eq_Ref_search_85]
  simp only [RW.all W1, MR, ckk_T, deR_s, deQ_s, deQ_n, bkV_s, bkI_s, bkJ_s, bkQ_s, bkQ_n, ckb0, ckb1, ckb2, ckb3, eq_self, Nat.reduceEqDiff, Nat.reduceLeDiff, Nat.reduceLT, reduceIte, true_or, or_true, not_false_eq_true, not_true_eq_false, and_self, and_true, true_and, LIT, Int32.reduceLT, Int32.reduceLE, Int32.reduceToNatClampNeg]
  rw [eq_Ref_search_92]
  simp only [RW.all W1, MR, ckk_T, deR_s, deQ_s, deQ_n, bkV_s, bkI_s, bkJ_s, bkQ_s, bkQ_n, ckb0, ckb1, ckb2, ckb3, eq_self, Nat.reduceEqDiff, Nat.reduceLeDiff, Nat.reduceLT, reduceIte, true_or, or_true, not_false_eq_true, not_true_eq_false, and_self, and_true, true_and, LIT, Int32.reduceLT, Int32.reduceLE, Int32.reduceToNatClampNeg]
  rw [eq_Ref_search_97]
  simp only [RW.all W1, MR, ckk_T, deR_s, deQ_s, deQ_n, bkV_s, bkI_s, bkJ_s, bkQ_s, bkQ_n, ckb0, ckb1, ckb2, ckb3, eq_self, Nat.reduceEqDiff, Nat.reduceLeDiff, Nat.reduceLT, reduceIte, true_or, or_true, not_false_eq_true, not_true_eq_false, and_self, and_true, true_and, LIT, Int32.reduceLT, Int32.reduceLE, Int32.reduceToNatClampNeg]
  rw [eq_Ref_search_102]
  simp only [RW.all W1, MR, ckk_T, deR_s, deQ_s, deQ_n, bkV_s, bkI_s, bkJ_s, bkQ_s, bkQ_n, ckb0, ckb1, ckb2, ckb3, eq_self, Nat.reduceEqDiff, Nat.reduceLeDiff, Nat.reduceLT, reduceIte, true_or, or_true, not_false_eq_true, not_true_eq_false, and_self, and_true, true_and, LIT, Int32.reduceLT, Int32.reduceLE, Int32.reduceToNatClampNeg]
  rw [eq_Ref_search_107]
  generalize hM2 : setI (setI (setI (setA (setA (setA M1 108 0 s0) 109 0 (-1)) 110 0 (-1)) 90 32 1) 90 33 0) 90 37 0 = M2
  have f2 : Fr (fun o k => o = 108 ∨ o = 109 ∨ o = 110 ∨ (o = 90 ∧ (k = 32 ∨ k = 33 ∨ k = 37))) M1 M2 := by
    rw [← hM2]
    exact (((((Fr.setA M1 _ (by omega)).trans (Fr.setA _ _ (by omega))).trans (Fr.setA _ _ (by omega))).trans (Fr.setI _ _ (by omega))).trans (Fr.setI _ _ (by omega))).trans (Fr.setI _ _ (by omega))
  have g2 : Fr Pse M M2 := f1.trans (f2.mono (fun o k => by unfold Pse; omega))
  have W2 := g2.rw hW
  have a108 : aI M2 108 0 = s0 := by
    rw [← hM2]
    show aI (setA (setA (setA M1 108 0 s0) 109 0 (-1)) 110 0 (-1)) 108 0 = s0
    rw [gA_o (by decide), gA_o (by decide), gA_s]
  have a109 : aI M2 109 0 = -1 := by
    rw [← hM2]
    show aI (setA (setA (setA M1 108 0 s0) 109 0 (-1)) 110 0 (-1)) 109 0 = -1
    rw [gA_o (by decide), gA_s]
  have T2 := TXA_ag (AgA.se g2) hT
  have hsl : slOK (aI M2) (48 + wi) := (T2 2 (by decide)).2.2 wi (by rw [rN_ag (AgA.se g2)]; exact hw)
  obtain ⟨g', e'⟩ := (p_isWished (by omega : 4 ≤ D) W2 (show wi < 16 by omega) hsl s0).self
  simp only [RW.all W2, MR, ckk_T, deR_s, deQ_s, deQ_n, bkV_s, bkI_s, bkJ_s, bkQ_s, bkQ_n, ckb0, ckb1, ckb2, ckb3, eq_self, Nat.reduceEqDiff, Nat.reduceLeDiff, Nat.reduceLT, reduceIte, true_or, or_true, not_false_eq_true, not_true_eq_false, and_self, and_true, true_and, LIT, Int32.reduceLT, Int32.reduceLE, Int32.reduceToNatClampNeg]
  rw [a108, e']
  simp only [RW.all W2, MR, ckk_T, deR_s, deQ_s, deQ_n, bkV_s, bkI_s, bkJ_s, bkQ_s, bkQ_n, ckb0, ckb1, ckb2, ckb3, eq_self, Nat.reduceEqDiff, Nat.reduceLeDiff, Nat.reduceLT, reduceIte, true_or, or_true, not_false_eq_true, not_true_eq_false, and_self, and_true, true_and, LIT, Int32.reduceLT, Int32.reduceLE, Int32.reduceToNatClampNeg]
  have hws : rTs (aI M2) (12 * (48 + wi)) s0 = wsR M (some wi) s0 := by
    show _ = rTs (aI M) _ s0
    rw [rTs_ag (AgA.se g2)]
  rw [hws]
  have F : ∀ v, Fr Pse M (setI (setF M2 104 g') 90 31 v) := fun v => (g2.trans ((fr104 M2 g').mono (fun o k => by unfold P104 Pse; omega))).trans (Fr.setI _ _ (by unfold Pse; omega))
  have G : ∀ st, RG (setI (setF M2 104 g') 90 31 (nI st)) ([s0], [(0, 0)], 0, st) := by
    intro st
    have H0 : RG (setI (setF M2 104 g') 90 31 (nI st)) ([s0], [(0, 0)], 0, st) := by
      refine ⟨⟨gI_s _ _ _ _, ?_, ?_, ?_⟩, ?_, ?_, ?_⟩
      · rw [gI_n (by omega)]
        show mI M2 90 32 = _
        rw [← hM2, gI_n (by omega), gI_n (by omega), gI_s]; rfl
      · rw [gI_n (by omega)]
        show mI M2 90 33 = _
        rw [← hM2, gI_n (by omega), gI_s]; rfl
      · rw [gI_n (by omega)]
        show mI M2 90 37 = _
        rw [← hM2, gI_s]; rfl
      · intro k hk
        have : k = 0 := by simpa using hk
        subst this
        show aI (setF M2 104 g') 108 0 = _
        rw [(fr104 M2 g').a (by unfold P104; omega), a108]; rfl
      · intro _
        show aI (setF M2 104 g') 109 0 = _
        rw [(fr104 M2 g').a (by unfold P104; omega), a109]
      · intro k h0 hk
        have : k = 0 := by simpa using hk
        omega
    exact H0
  have X : ∀ v, GX (setI (setF M2 104 g') 90 31 v) gi wi y := by
    intro v
    have e : ∀ k, 34 ≤ k → k ≤ 36 → mI (setI (setF M2 104 g') 90 31 v) 90 k = mI M1 90 k := by
      intro k h1 h2
      rw [gI_n (by omega)]
      show mI M2 90 k = _
      rw [f2.i (by omega)]
    refine ⟨⟨(F v).rw hW, TXA_ag (AgA.se (F v)) hT, ?_, ?_⟩, ?_, ?_, ?_⟩
    · rw [rN_ag (AgA.se (F v))]; exact hg
    · intro i hi
      cases hi
      rw [rN_ag (AgA.se (F v))]; exact hw
    · rw [e 34 (by decide) (by decide)]; exact c34
    · rw [e 35 (by decide) (by decide)]; exact c35
    · rw [e 36 (by decide) (by decide)]; exact c36
  unfold b_new
  cases hb : wsR M (some wi) s0
  · rw [if_pos b2i_f, eq_Ref_search_130]
    exact ⟨_, rfl, F 1, X 1, G 1⟩
  · rw [if_neg (by decide), eq_Ref_search_130]
    exact ⟨_, rfl, F 2, X 2, G 2⟩
theorem p_searchR_n {D : Nat} (hD : 3 ≤ D) {M : ej_Mem} (hW : RW M) (hT : TXA (aI M)) {g w y s : Int32} (h : seOK (rN (aI M) 1) (rN (aI M) 2) g w y s = false) : cal D jm_Ref_search [.ref 90, .int g, .int w, .int y, .int s] M = some (some (.int 0), M) := by
  obtain ⟨d, rfl⟩ : ∃ d, D = d + 1 := ⟨D - 1, by omega⟩
  obtain ⟨u1, u2, u3⟩ := hT 1 (by decide)
  obtain ⟨v1, v2, v3⟩ := hT 2 (by decide)
  have m1 : mst 1 = 8 := rfl
  have m2 : mst 2 = 16 := rfl
  rw [ca_Ref_search, eq_Ref_search_0]
  simp only [RW.all hW, MR, ckk_T, deR_s, deQ_s, deQ_n, bkV_s, bkI_s, bkJ_s, bkQ_s, bkQ_n, ckb0, ckb1, ckb2, ckb3, eq_self, Nat.reduceEqDiff, Nat.reduceLeDiff, Nat.reduceLT, reduceIte, true_or, or_true, not_false_eq_true, not_true_eq_false, and_self, and_true, true_and, LIT, Int32.reduceLT, Int32.reduceLE, Int32.reduceToNatClampNeg]
  rw [p_has (by omega) hW 1 g (c := rN (aI M) 1) (by decide) u1 (by omega)]
  simp only [RW.all hW, MR, ckk_T, deR_s, deQ_s, deQ_n, bkV_s, bkI_s, bkJ_s, bkQ_s, bkQ_n, ckb0, ckb1, ckb2, ckb3, eq_self, Nat.reduceEqDiff, Nat.reduceLeDiff, Nat.reduceLT, reduceIte, true_or, or_true, not_false_eq_true, not_true_eq_false, and_self, and_true, true_and, LIT, Int32.reduceLT, Int32.reduceLE, Int32.reduceToNatClampNeg]
  unfold seOK at h
  cases h1 : hasB (rN (aI M) 1) g
  · rw [if_pos b2i_f]
  · rw [h1, Bool.true_and] at h
    rw [if_neg (by decide), p_has (by omega) hW 2 w (c := rN (aI M) 2) (by decide) v1 (by omega)]
    simp only [RW.all hW, MR, ckk_T, deR_s, deQ_s, deQ_n, bkV_s, bkI_s, bkJ_s, bkQ_s, bkQ_n, ckb0, ckb1, ckb2, ckb3, eq_self, Nat.reduceEqDiff, Nat.reduceLeDiff, Nat.reduceLT, reduceIte, true_or, or_true, not_false_eq_true, not_true_eq_false, and_self, and_true, true_and, LIT, Int32.reduceLT, Int32.reduceLE, Int32.reduceToNatClampNeg]
    cases h2 : hasB (rN (aI M) 2) w
    · rw [if_pos b2i_f]
    · rw [h2, Bool.true_and] at h
      rw [if_neg (by decide), p_isYear (by omega)]
      simp only [RW.all hW, MR, ckk_T, deR_s, deQ_s, deQ_n, bkV_s, bkI_s, bkJ_s, bkQ_s, bkQ_n, ckb0, ckb1, ckb2, ckb3, eq_self, Nat.reduceEqDiff, Nat.reduceLeDiff, Nat.reduceLT, reduceIte, true_or, or_true, not_false_eq_true, not_true_eq_false, and_self, and_true, true_and, LIT, Int32.reduceLT, Int32.reduceLE, Int32.reduceToNatClampNeg]
      cases h3 : inB y 0 2999
      · rw [if_pos b2i_f]
      · rw [h3, Bool.true_and] at h
        rw [if_neg (by decide)]
        by_cases h4 : s = -1
        · rw [decide_eq_true h4] at h; cases h
        · rw [decide_eq_false h4, Bool.false_or] at h
          rw [if_neg h4, p_isState (by omega), h]
          simp only [RW.all hW, MR, ckk_T, deR_s, deQ_s, deQ_n, bkV_s, bkI_s, bkJ_s, bkQ_s, bkQ_n, ckb0, ckb1, ckb2, ckb3, eq_self, Nat.reduceEqDiff, Nat.reduceLeDiff, Nat.reduceLT, reduceIte, true_or, or_true, not_false_eq_true, not_true_eq_false, and_self, and_true, true_and, LIT, Int32.reduceLT, Int32.reduceLE, Int32.reduceToNatClampNeg]
          rw [if_pos b2i_f]
theorem p_searchR {D : Nat} (hD : 6 ≤ D) {M : ej_Mem} (hW : RW M) (hT : TXA (aI M)) {gi wi : Nat} (hg : gi < rN (aI M) 1) (hw : wi < rN (aI M) 2) {y s : Int32} (h : seOK (rN (aI M) 1) (rN (aI M) 2) (nI gi) (nI wi) y s = true) :
    ∃ M', cal D jm_Ref_search [.ref 90, .int (nI gi), .int (nI wi), .int y, .int s] M = some (some (.int 1), M') ∧ Fr Pse M M' ∧ GX M' gi wi y ∧ RG M' (b_new (wsR M (some wi)) (if s = -1 then rU (aI M) (40 + gi) 0 else s)) := by
  obtain ⟨d, rfl⟩ : ∃ d, D = d + 1 := ⟨D - 1, by omega⟩
  obtain ⟨u1, u2, u3⟩ := hT 1 (by decide)
  obtain ⟨v1, v2, v3⟩ := hT 2 (by decide)
  have m1 : mst 1 = 8 := rfl
  have m2 : mst 2 = 16 := rfl
  obtain ⟨M', e', f', x', r'⟩ := search_set (by omega : 5 ≤ d) hW hT hg hw y s
  refine ⟨M', ?_, f', x', r'⟩
  unfold seOK at h
  rw [Bool.and_eq_true, Bool.and_eq_true, Bool.and_eq_true] at h
  obtain ⟨a1, a2, a3, a4⟩ := h
  rw [ca_Ref_search, eq_Ref_search_0]
  simp only [RW.all hW, MR, ckk_T, deR_s, deQ_s, deQ_n, bkV_s, bkI_s, bkJ_s, bkQ_s, bkQ_n, ckb0, ckb1, ckb2, ckb3, eq_self, Nat.reduceEqDiff, Nat.reduceLeDiff, Nat.reduceLT, reduceIte, true_or, or_true, not_false_eq_true, not_true_eq_false, and_self, and_true, true_and, LIT, Int32.reduceLT, Int32.reduceLE, Int32.reduceToNatClampNeg]
  rw [p_has (by omega) hW 1 _ (c := rN (aI M) 1) (by decide) u1 (by omega), a1]
  simp only [RW.all hW, MR, ckk_T, deR_s, deQ_s, deQ_n, bkV_s, bkI_s, bkJ_s, bkQ_s, bkQ_n, ckb0, ckb1, ckb2, ckb3, eq_self, Nat.reduceEqDiff, Nat.reduceLeDiff, Nat.reduceLT, reduceIte, true_or, or_true, not_false_eq_true, not_true_eq_false, and_self, and_true, true_and, LIT, Int32.reduceLT, Int32.reduceLE, Int32.reduceToNatClampNeg, b2i_t]
  rw [p_has (by omega) hW 2 _ (c := rN (aI M) 2) (by decide) v1 (by omega), a2]
  simp only [RW.all hW, MR, ckk_T, deR_s, deQ_s, deQ_n, bkV_s, bkI_s, bkJ_s, bkQ_s, bkQ_n, ckb0, ckb1, ckb2, ckb3, eq_self, Nat.reduceEqDiff, Nat.reduceLeDiff, Nat.reduceLT, reduceIte, true_or, or_true, not_false_eq_true, not_true_eq_false, and_self, and_true, true_and, LIT, Int32.reduceLT, Int32.reduceLE, Int32.reduceToNatClampNeg, b2i_t]
  rw [p_isYear (by omega), a3]
  simp only [RW.all hW, MR, ckk_T, deR_s, deQ_s, deQ_n, bkV_s, bkI_s, bkJ_s, bkQ_s, bkQ_n, ckb0, ckb1, ckb2, ckb3, eq_self, Nat.reduceEqDiff, Nat.reduceLeDiff, Nat.reduceLT, reduceIte, true_or, or_true, not_false_eq_true, not_true_eq_false, and_self, and_true, true_and, LIT, Int32.reduceLT, Int32.reduceLE, Int32.reduceToNatClampNeg, b2i_t]
  by_cases h4 : s = -1
  · rw [if_pos h4]; exact e'
  · rw [decide_eq_false h4, Bool.false_or] at a4
    rw [if_neg h4, p_isState (by omega), a4]
    simp only [RW.all hW, MR, ckk_T, deR_s, deQ_s, deQ_n, bkV_s, bkI_s, bkJ_s, bkQ_s, bkQ_n, ckb0, ckb1, ckb2, ckb3, eq_self, Nat.reduceEqDiff, Nat.reduceLeDiff, Nat.reduceLT, reduceIte, true_or, or_true, not_false_eq_true, not_true_eq_false, and_self, and_true, true_and, LIT, Int32.reduceLT, Int32.reduceLE, Int32.reduceToNatClampNeg, b2i_t]
    exact e'
