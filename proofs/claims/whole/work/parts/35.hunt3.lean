/-! the class's search: passes, whole searches -/
def HC (M : ej_Mem) (h l t g w : Nat) : Prop := CX M l t g ∧ CQ (Ph h) M l t g ∧ mR M t 1 = some w ∧ WA M w ∧ WQ (Ph h) M w
theorem HC.fr {M M' : ej_Mem} {h l t g w : Nat} (f : Fr (Ph h) M M') (H : HC M h l t g w) : HC M' h l t g w := by
  obtain ⟨a, b, c, d, e⟩ := H
  exact ⟨a.fr f b, b.fr f, by rw [f.r]; exact c, d.fr f e, e.fr f⟩
theorem HC.eqs {M M' : ej_Mem} {h l t g w : Nat} (f : Fr (Ph h) M M') (H : HC M h l t g w) : nxC M' l t g = nxC M l t g ∧ wsC M' w = wsC M w ∧ nL M' l 0 = nL M l 0 := ⟨nxC_fr f H.2.1, wsC_fr f H.2.2.2.2, nL_fr f H.2.1.1 0⟩
theorem b_mvs_stop {nx : Nat → Int32 → Option Int32} {cap : Nat} {w : Int32 → Bool} {i : Nat} {s : Int32} : ∀ (c m : Nat) (b : BS), b.2.2.2 ≠ 1 → b_mvs nx cap w i s c m b = b
  | 0, _, _, _ => rfl
  | c + 1, m, b, h => by
    have e : b_try nx cap w i s m b = b := by unfold b_try; rw [if_neg h]
    show b_mvs nx cap w i s c (m + 1) (b_try nx cap w i s m b) = b
    rw [e]; exact b_mvs_stop c (m + 1) b h
theorem st_eq {n k : Nat} (h : n ≤ 4) (hk : k ≤ 4) : (nI n = nI k) ↔ n = k := nI_eq (by omega) (by omega)
theorem pass_end {M : ej_Mem} {h cap N sh : Nat} {b : BS} (z : HZ cap N sh) (H : HR M h cap N sh b) (hk : BOKp cap b) : ∃ M', (if mI M h 7 = 1 then (if mI M h 6 < mI M h 5 then (some (none, M) : Option ej_R) else some (none, setI M h 7 3)) else some (none, M)) = some (none, M') ∧ Fr (Ph h) M M' ∧ HR M' h cap N sh (b_fin b) := by
  obtain ⟨z1, z2, z3⟩ := z.caps
  have hcap := H.2.2.1
  obtain ⟨h5, h6, h7⟩ := H.2.1
  obtain ⟨k0, k1, k2, k3, k4, k5, k6, k7⟩ := hk
  rw [h7]
  unfold b_fin
  by_cases hs : b.2.2.2 = 1
  · rw [if_pos (show nI b.2.2.2 = 1 by rw [hs]; rfl), h6, h5]
    by_cases hg : b.2.2.1 = b.1.length
    · rw [if_neg (nI_nlt (by omega) (by omega)), if_pos ⟨hs, hg⟩]
      exact ⟨_, rfl, Fr.setI M _ ⟨by omega, by omega⟩, HR_st H 3⟩
    · rw [if_pos (nI_lt (by omega) (by omega)), if_neg (fun q => hg q.2)]
      exact ⟨_, rfl, Fr.refl _ M, H⟩
  · have hn : ¬ nI b.2.2.2 = 1 := fun q => hs ((st_eq k7 (by decide)).mp q)
    rw [if_neg hn, if_neg (fun q => hs q.1)]
    exact ⟨_, rfl, Fr.refl _ M, H⟩
theorem pass_loop {D : Nat} (hD : 4 ≤ D) {h cap N sh l t g w : Nat} (z : HZ cap N sh) {i : Nat} {s : Int32} : ∀ (n m : Nat) (M : ej_Mem) (b : BS), m + n = nL M l 0 → HC M h l t g w → HR M h cap N sh b → BOKp cap b → b.2.2.1 = i + 1 → i < b.1.length →
    ∃ M', rn jm_Hunt_passOne (cal D) 40 [some (.ref h), some (.ref l), some (.ref t), some (.int s), some (.int (nI m))] [] M = some (none, M') ∧ Fr (Ph h) M M' ∧ HR M' h cap N sh (b_fin (b_mvs (nxC M l t g) cap (wsC M w) i s n m b))
  | 0, m, M, b, hm, C, H, hk, hg, hi => by
    have hT0 := C.1.2.2.1 0 (by decide)
    have h40 : mst 0 = 40 := rfl
    rw [eq_Hunt_passOne_40]
    simp only [C.1.2.1.1, C.1.2.1.2.1, C.1.2.1.2.2.1, H.1.1, MR, ckk_T, deR_s, deQ_s, deQ_n, bkV_s, bkI_s, bkJ_s, bkQ_s, bkQ_n, ckb0, ckb1, ckb2, ckb3, eq_self, Nat.reduceEqDiff, Nat.reduceLeDiff, Nat.reduceLT, reduceIte, true_or, or_true, not_false_eq_true, not_true_eq_false, and_self, and_true, true_and, LIT, Int32.reduceLT, Int32.reduceLE, Int32.reduceToNatClampNeg]
    rw [hT0.1, if_pos (nI_le (by omega) (by omega))]
    exact pass_end z H hk
  | n + 1, m, M, b, hm, C, H, hk, hg, hi => by
    have ih := pass_loop hD z (i := i) (s := s) (l := l) (t := t) (g := g) (w := w) (h := h) n (m + 1)
    have hT0 := C.1.2.2.1 0 (by decide)
    have h40 : mst 0 = 40 := rfl
    have hz := z.caps
    rw [eq_Hunt_passOne_40]
    simp only [C.1.2.1.1, C.1.2.1.2.1, C.1.2.1.2.2.1, H.1.1, show mC M t = 6 from C.1.2.2.2.1, MR, ckk_T, deR_s, deQ_s, deQ_n, bkV_s, bkI_s, bkJ_s, bkQ_s, bkQ_n, ckb0, ckb1, ckb2, ckb3, eq_self, Nat.reduceEqDiff, Nat.reduceLeDiff, Nat.reduceLT, reduceIte, true_or, or_true, not_false_eq_true, not_true_eq_false, and_self, and_true, true_and, LIT, Int32.reduceLT, Int32.reduceLE, Int32.reduceToNatClampNeg]
    rw [hT0.1, if_neg (nI_ge (by omega) (by omega)), nI_1]
    by_cases hs : b.2.2.2 = 1
    · rw [if_pos (show mI M h 7 = 1 by rw [H.2.1.2.2, hs]; rfl)]
      by_cases g1 : lg_cmp (ej_ls 1 (mL M t 2) (nI m) &&& 1) 0 = 0
      · rw [if_pos g1]
        have hno : nxC M l t g m s = none := by
          unfold nxC ledC
          rw [if_neg (show ¬ (bJ (mL M t 2) m = true ∧ _) from fun q => by rw [(lowJ_0 (by omega)).mp g1] at q; cases q.1)]
          split <;> rfl
        have hb : b_try (nxC M l t g) cap (wsC M w) i s m b = b := by unfold b_try; rw [if_pos hs, hno]
        have e : b_mvs (nxC M l t g) cap (wsC M w) i s (n + 1) m b = b_mvs (nxC M l t g) cap (wsC M w) i s n (m + 1) b := by
          show b_mvs (nxC M l t g) cap (wsC M w) i s n (m + 1) (b_try (nxC M l t g) cap (wsC M w) i s m b) = _
          rw [hb]
        rw [e]
        exact ih M b (by omega) C H hk hg hi
      · rw [if_neg g1]
        have hal : bJ (mL M t 2) m = true := by
          cases e : bJ (mL M t 2) m
          · exact absurd ((lowJ_0 (by omega)).mpr e) g1
          · rfl
        obtain ⟨M1, e1, f1, r1⟩ := p_tryMove hD z H C.1 C.2.1 C.2.2.1 C.2.2.2.1 C.2.2.2.2 hs hg (by have := hk.2.1; rcases z with q | q <;> omega) (by omega : m < nL M l 0) hal s
        obtain ⟨a1, a2, a3⟩ := b_try_ok (nx := nxC M l t g) (w := wsC M w) (s := s) (m := m) hk hi (by omega)
        rw [e1]
        obtain ⟨q1, q2, q3⟩ := C.eqs f1
        obtain ⟨M2, e2, f2, r2⟩ := ih M1 _ (by rw [q3]; omega) (C.fr f1) r1 a1 (by rw [a3]; exact hg) (by omega)
        refine ⟨M2, e2, f1.trans f2, ?_⟩
        rw [q1, q2] at r2
        exact r2
    · have hn7 : ¬ mI M h 7 = 1 := by
        rw [H.2.1.2.2]
        exact fun q => hs ((st_eq hk.2.2.2.2.2.2.2 (by decide)).mp q)
      rw [if_neg hn7]
      rw [b_mvs_stop (n + 1) m b hs]
      exact pass_end z H hk
theorem p_passOne {D : Nat} (hD : 5 ≤ D) {h cap N sh l t g w : Nat} (z : HZ cap N sh) {M : ej_Mem} {b : BS} (C : HC M h l t g w) (H : HR M h cap N sh b) (hk : BOK cap b) (hs : b.2.2.2 = 1) :
    ∃ M', cal D jm_Hunt_passOne [.ref h, .ref l, .ref t] M = some (none, M') ∧ Fr (Ph h) M M' ∧ HR M' h cap N sh (b_pass (nL M l 0) (nxC M l t g) cap (wsC M w) b) := by
  obtain ⟨d, rfl⟩ : ∃ d, D = d + 1 := ⟨D - 1, by omega⟩
  obtain ⟨z1, z2, z3⟩ := z.caps
  obtain ⟨k0, k1, k2, k3, k4, k5, k6, k7, k8⟩ := hk
  have hg := k6 hs
  rw [ca_Hunt_passOne, eq_Hunt_passOne_0]
  simp only [H.1.1, H.1.2.1, H.1.2.2, H.2.1, MR, ckk_T, deR_s, deQ_s, deQ_n, bkV_s, bkI_s, bkJ_s, bkQ_s, bkQ_n, ckb0, ckb1, ckb2, ckb3, eq_self, Nat.reduceEqDiff, Nat.reduceLeDiff, Nat.reduceLT, reduceIte, true_or, or_true, not_false_eq_true, not_true_eq_false, and_self, and_true, true_and, LIT, Int32.reduceLT, Int32.reduceLE, Int32.reduceToNatClampNeg]
  rw [if_pos (nI_lt hg (by omega)), ckb_n (by omega) (by omega), nI_clamp (by omega), H.2.2.2.2.1 _ hg, nI_1]
  have f1 : Fr (Ph h) M (setI M h 6 (nI (b.2.2.1 + 1))) := Fr.setI M _ ⟨by omega, by omega⟩
  have hp : BOKp cap (b.1, b.2.1, b.2.2.1 + 1, b.2.2.2) := ⟨k0, k1, k2, hg, k4, k5, k7, k8⟩
  obtain ⟨q1, q2, q3⟩ := C.eqs f1
  obtain ⟨M2, e2, f2, r2⟩ := pass_loop (by omega : 4 ≤ d) z (i := b.2.2.1) (s := b.1.getD b.2.2.1 0) (nL M l 0) 0 _ _ (by rw [q3]; omega) (C.fr f1) (HR_gn H (b.2.2.1 + 1)) hp rfl hg
  refine ⟨M2, e2, f1.trans f2, ?_⟩
  rw [q1, q2] at r2
  exact r2
theorem whole_loop {D : Nat} (hD : 5 ≤ D) {h cap N sh l t g w : Nat} (z : HZ cap N sh) : ∀ (n k : Nat) (M : ej_Mem) (b : BS), k + n = cap → HC M h l t g w → HR M h cap N sh b → BOK cap b →
    ∃ M', rn jm_Hunt_whole (cal D) 26 [some (.ref h), some (.ref l), some (.ref t), some (.int (nI k))] [] M = some (some (.int (nI (b_run (nL M l 0) (nxC M l t g) cap (wsC M w) n b).2.2.2)), M') ∧ Fr (Ph h) M M' ∧ HR M' h cap N sh (b_run (nL M l 0) (nxC M l t g) cap (wsC M w) n b)
  | 0, k, M, b, hk, C, H, hB => by
    have hz := z.caps
    rw [eq_Hunt_whole_26]
    simp only [H.1.1, MR, ckk_T, deR_s, deQ_s, deQ_n, bkV_s, bkI_s, bkJ_s, bkQ_s, bkQ_n, ckb0, ckb1, ckb2, ckb3, eq_self, Nat.reduceEqDiff, Nat.reduceLeDiff, Nat.reduceLT, reduceIte, true_or, or_true, not_false_eq_true, not_true_eq_false, and_self, and_true, true_and, LIT, Int32.reduceLT, Int32.reduceLE, Int32.reduceToNatClampNeg]
    rw [if_pos (nI_le (by omega) (by omega)), H.2.1.2.2]
    exact ⟨M, rfl, Fr.refl _ M, H⟩
  | n + 1, k, M, b, hk, C, H, hB => by
    have hz := z.caps
    have hT0 := C.1.2.2.1 0 (by decide)
    have h40 : mst 0 = 40 := rfl
    have ih := whole_loop hD z (l := l) (t := t) (g := g) (w := w) (h := h) n (k + 1)
    rw [eq_Hunt_whole_26]
    simp only [H.1.1, MR, ckk_T, deR_s, deQ_s, deQ_n, bkV_s, bkI_s, bkJ_s, bkQ_s, bkQ_n, ckb0, ckb1, ckb2, ckb3, eq_self, Nat.reduceEqDiff, Nat.reduceLeDiff, Nat.reduceLT, reduceIte, true_or, or_true, not_false_eq_true, not_true_eq_false, and_self, and_true, true_and, LIT, Int32.reduceLT, Int32.reduceLE, Int32.reduceToNatClampNeg]
    rw [if_neg (nI_ge (by omega) (by omega)), nI_1]
    unfold b_run
    by_cases hs : b.2.2.2 = 1
    · rw [if_pos (show mI M h 7 = 1 by rw [H.2.1.2.2, hs]; rfl), if_pos hs]
      obtain ⟨M1, e1, f1, r1⟩ := p_passOne hD z C H hB hs
      obtain ⟨q1, q2, q3⟩ := C.eqs f1
      rw [e1]
      obtain ⟨M2, e2, f2, r2⟩ := ih M1 _ (by omega) (C.fr f1) r1 (b_pass_ok (by omega) hB hs).1
      rw [q1, q2, q3] at e2 r2
      exact ⟨M2, e2, f1.trans f2, r2⟩
    · have hn7 : ¬ mI M h 7 = 1 := by
        rw [H.2.1.2.2]
        exact fun q => hs ((st_eq hB.2.2.2.2.2.2.2.2 (by decide)).mp q)
      rw [if_neg hn7, if_neg hs, H.2.1.2.2]
      exact ⟨M, rfl, Fr.refl _ M, H⟩
theorem p_whole {D : Nat} (hD : 6 ≤ D) {h cap N sh l t g w : Nat} (z : HZ cap N sh) {M : ej_Mem} {b : BS} (C : HC M h l t g w) (H : HR M h cap N sh b) :
    ∃ M', cal D jm_Hunt_whole [.ref h, .ref l, .ref t] M = some (some (.int (nI (b_all (nL M l 0) (nxC M l t g) cap (wsC M w) (mI M g 0)).2.2.2)), M') ∧ Fr (Ph h) M M' ∧ HR M' h cap N sh (b_all (nL M l 0) (nxC M l t g) cap (wsC M w) (mI M g 0)) := by
  obtain ⟨d, rfl⟩ : ∃ d, D = d + 1 := ⟨D - 1, by omega⟩
  have hz := z.caps
  have C0 := C
  obtain ⟨⟨hS, hL, hT, hTA, hg, hG⟩, Q, hw1, hw, qw⟩ := C
  obtain ⟨M1, e1, f1, r1⟩ := p_beginC (by omega : 4 ≤ d) z H hw qw (mI M g 0)
  rw [ca_Hunt_whole, eq_Hunt_whole_0]
  simp only [show mC M t = 6 from hTA, hg, hw1, hG.1, H.1.1, MR, ckk_T, deR_s, deQ_s, deQ_n, bkV_s, bkI_s, bkJ_s, bkQ_s, bkQ_n, ckb0, ckb1, ckb2, ckb3, eq_self, Nat.reduceEqDiff, Nat.reduceLeDiff, Nat.reduceLT, reduceIte, true_or, or_true, not_false_eq_true, not_true_eq_false, and_self, and_true, true_and, LIT, Int32.reduceLT, Int32.reduceLE, Int32.reduceToNatClampNeg]
  rw [e1]
  obtain ⟨q1, q2, q3⟩ := C0.eqs f1
  obtain ⟨M2, e2, f2, r2⟩ := whole_loop (by omega : 5 ≤ d) z cap 0 M1 _ (by omega) (C0.fr f1) r1 (b_new_ok hz.1 _ _)
  rw [q1, q2, q3] at e2 r2
  exact ⟨M2, e2, f1.trans f2, r2⟩
theorem run_loop {D : Nat} (hD : 5 ≤ D) {h cap N sh l t g w n0 : Nat} (hn0 : n0 < 2 ^ 31) (z : HZ cap N sh) : ∀ (n k : Nat) (M : ej_Mem) (b : BS), k + n = n0 → HC M h l t g w → HR M h cap N sh b → BOK cap b →
    ∃ M', rn jm_Hunt_run (cal D) 3 [some (.ref h), some (.ref l), some (.ref t), some (.int (nI n0)), some (.int (nI k))] [] M = some (some (.int (nI (k + ((b_run (nL M l 0) (nxC M l t g) cap (wsC M w) n b).2.2.1 - b.2.2.1)))), M') ∧ Fr (Ph h) M M' ∧ HR M' h cap N sh (b_run (nL M l 0) (nxC M l t g) cap (wsC M w) n b)
  | 0, k, M, b, hk, C, H, hB => by
    rw [eq_Hunt_run_3, if_pos (nI_le (by omega) (by omega))]
    refine ⟨M, ?_, Fr.refl _ M, H⟩
    show _ = some (some (Value.int (nI (k + (b.2.2.1 - b.2.2.1)))), M)
    rw [Nat.sub_self, Nat.add_zero]
  | n + 1, k, M, b, hk, C, H, hB => by
    have hT0 := C.1.2.2.1 0 (by decide)
    have h40 : mst 0 = 40 := rfl
    have ih := run_loop hD hn0 z (l := l) (t := t) (g := g) (w := w) (h := h) n (k + 1)
    rw [eq_Hunt_run_3, if_neg (nI_ge (by omega) (by omega)), nI_1]
    simp only [H.1.1, MR, ckk_T, deR_s, deQ_s, deQ_n, bkV_s, bkI_s, bkJ_s, bkQ_s, bkQ_n, ckb0, ckb1, ckb2, ckb3, eq_self, Nat.reduceEqDiff, Nat.reduceLeDiff, Nat.reduceLT, reduceIte, true_or, or_true, not_false_eq_true, not_true_eq_false, and_self, and_true, true_and, LIT, Int32.reduceLT, Int32.reduceLE, Int32.reduceToNatClampNeg]
    unfold b_run
    by_cases hs : b.2.2.2 = 1
    · rw [if_pos (show mI M h 7 = 1 by rw [H.2.1.2.2, hs]; rfl), if_pos hs]
      obtain ⟨M1, e1, f1, r1⟩ := p_passOne hD z C H hB hs
      obtain ⟨q1, q2, q3⟩ := C.eqs f1
      rw [e1]
      obtain ⟨p1, p2⟩ := b_pass_ok (nx := nxC M l t g) (w := wsC M w) (by omega : nL M l 0 ≤ 40) hB hs
      obtain ⟨M2, e2, f2, r2⟩ := ih M1 _ (by omega) (C.fr f1) r1 p1
      rw [q1, q2, q3] at e2 r2
      refine ⟨M2, ?_, f1.trans f2, r2⟩
      have hle := (b_run_ok (nx := nxC M l t g) (w := wsC M w) (by omega : nL M l 0 ≤ 40) n _ p1).2.1
      simp only [bkV_s]
      rw [e2, p2]
      rw [p2] at hle
      rw [show k + 1 + ((b_run (nL M l 0) (nxC M l t g) cap (wsC M w) n (b_pass (nL M l 0) (nxC M l t g) cap (wsC M w) b)).2.2.1 - (b.2.2.1 + 1)) = k + ((b_run (nL M l 0) (nxC M l t g) cap (wsC M w) n (b_pass (nL M l 0) (nxC M l t g) cap (wsC M w) b)).2.2.1 - b.2.2.1) by omega]
    · have hn7 : ¬ mI M h 7 = 1 := by
        rw [H.2.1.2.2]
        exact fun q => hs ((st_eq hB.2.2.2.2.2.2.2.2 (by decide)).mp q)
      rw [if_neg hn7, if_neg hs, Nat.sub_self, Nat.add_zero]
      exact ⟨M, rfl, Fr.refl _ M, H⟩
theorem p_runC {D : Nat} (hD : 6 ≤ D) {h cap N sh l t g w n0 : Nat} (hn0 : n0 < 2 ^ 31) (z : HZ cap N sh) {M : ej_Mem} {b : BS} (C : HC M h l t g w) (H : HR M h cap N sh b) (hB : BOK cap b) :
    ∃ M', cal D jm_Hunt_run [.ref h, .ref l, .ref t, .int (nI n0)] M = some (some (.int (nI ((b_run (nL M l 0) (nxC M l t g) cap (wsC M w) n0 b).2.2.1 - b.2.2.1))), M') ∧ Fr (Ph h) M M' ∧ HR M' h cap N sh (b_run (nL M l 0) (nxC M l t g) cap (wsC M w) n0 b) := by
  obtain ⟨d, rfl⟩ : ∃ d, D = d + 1 := ⟨D - 1, by omega⟩
  rw [ca_Hunt_run, eq_Hunt_run_0]
  have L := run_loop (by omega : 5 ≤ d) hn0 z n0 0 M b (by omega) C H hB
  rw [Nat.zero_add] at L
  exact L
