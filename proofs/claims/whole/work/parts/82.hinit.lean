/-! a new Hunt -/
theorem nw_c (M : ej_Mem) (k l s o : Nat) : mC (newM M k l s) o = if o = mZ M then k else mC M o := rfl
theorem nw_n (M : ej_Mem) (k l s o : Nat) : mN (newM M k l s) o = if o = mZ M then l else mN M o := rfl
theorem nw_i (M : ej_Mem) (k l s o : Nat) : mI (newM M k l s) o = if o = mZ M then (fun _ => 0) else mI M o := rfl
theorem nw_r (M : ej_Mem) (k l s o : Nat) : mR (newM M k l s) o = if o = mZ M then (fun _ => none) else mR M o := rfl
theorem nw_a (M : ej_Mem) (k l s o : Nat) : aI (newM M k l s) o = if o = mZ M then (fun _ => 0) else aI M o := rfl
theorem nw_z (M : ej_Mem) (k l s : Nat) : mZ (newM M k l s) = mZ M + 1 := rfl
theorem nw_s (M : ej_Mem) (k l s : Nat) : mS (newM M k l s) = mS M + s := rfl
def hIni (M0 : ej_Mem) (cap N : Nat) (a b : Int32) : ej_Mem :=
  setR (newM (setR (newM (setR (newM (setI (setI (setI (setI (setI (newM M0 1 0 8) (mZ M0) 5 0) (mZ M0) 6 0) (mZ M0) 7 0) (mZ M0) 0 a) (mZ M0) 1 b) 100 cap cap) (mZ M0) 2 (some (mZ M0 + 1))) 100 cap cap) (mZ M0) 3 (some (mZ M0 + 2))) 100 N N) (mZ M0) 4 (some (mZ M0 + 3))
theorem hz_sh {cap N sh : Nat} (z : HZ cap N sh) : (1 : Int32) <<< ((32 - nI sh) &&& 31) = nI N ∧ cap ≤ 67108864 ∧ N ≤ 67108864 := by
  rcases z with ⟨rfl, rfl, rfl⟩ | ⟨rfl, rfl, rfl⟩
  · exact ⟨by decide, by decide, by decide⟩
  · exact ⟨by decide, by decide, by decide⟩
theorem p_huntInit {D : Nat} (hD : 1 ≤ D) {cap N sh : Nat} (z : HZ cap N sh) (M0 : ej_Mem) : cal D jm_Hunt_init [.ref (mZ M0), .int (nI cap), .int (nI sh)] (newM M0 1 0 8) = some (none, hIni M0 cap N (nI cap) (nI sh)) := by
  obtain ⟨d, rfl⟩ : ∃ d, D = d + 1 := ⟨D - 1, by omega⟩
  obtain ⟨e1, e2, e3⟩ := hz_sh z
  rw [ca_Hunt_init, eq_Hunt_init_0]
  have c : ∀ (k l s : Nat) (M : ej_Mem), mZ M ≠ mZ M0 → mC M (mZ M0) = 1 → mC (newM M k l s) (mZ M0) = 1 := fun k l s M h1 h2 => by rw [nw_c, if_neg (fun q => h1 q.symm)]; exact h2
  have c0 : mC (newM M0 1 0 8) (mZ M0) = 1 := by rw [nw_c, if_pos rfl]
  simp only [c0, MR, ckk_T, deR_s, deQ_s, deQ_n, bkV_s, bkI_s, bkJ_s, bkQ_s, bkQ_n, ckb0, ckb1, ckb2, ckb3, eq_self, Nat.reduceEqDiff, Nat.reduceLeDiff, Nat.reduceLT, reduceIte, true_or, or_true, not_false_eq_true, not_true_eq_false, and_self, and_true, true_and, LIT, Int32.reduceLT, Int32.reduceLE, Int32.reduceToNatClampNeg]
  rw [eq_Hunt_init_9]
  simp only [c0, MR, ckk_T, deR_s, deQ_s, deQ_n, bkV_s, bkI_s, bkJ_s, bkQ_s, bkQ_n, ckb0, ckb1, ckb2, ckb3, eq_self, Nat.reduceEqDiff, Nat.reduceLeDiff, Nat.reduceLT, reduceIte, true_or, or_true, not_false_eq_true, not_true_eq_false, and_self, and_true, true_and, LIT, Int32.reduceLT, Int32.reduceLE, Int32.reduceToNatClampNeg]
  rw [eq_Hunt_init_14]
  simp only [c0, MR, ckk_T, deR_s, deQ_s, deQ_n, bkV_s, bkI_s, bkJ_s, bkQ_s, bkQ_n, ckb0, ckb1, ckb2, ckb3, eq_self, Nat.reduceEqDiff, Nat.reduceLeDiff, Nat.reduceLT, reduceIte, true_or, or_true, not_false_eq_true, not_true_eq_false, and_self, and_true, true_and, LIT, Int32.reduceLT, Int32.reduceLE, Int32.reduceToNatClampNeg]
  rw [eq_Hunt_init_19]
  simp only [c0, MR, ckk_T, deR_s, deQ_s, deQ_n, bkV_s, bkI_s, bkJ_s, bkQ_s, bkQ_n, ckb0, ckb1, ckb2, ckb3, eq_self, Nat.reduceEqDiff, Nat.reduceLeDiff, Nat.reduceLT, reduceIte, true_or, or_true, not_false_eq_true, not_true_eq_false, and_self, and_true, true_and, LIT, Int32.reduceLT, Int32.reduceLE, Int32.reduceToNatClampNeg]
  rw [eq_Hunt_init_24]
  simp only [c0, MR, ckk_T, deR_s, deQ_s, deQ_n, bkV_s, bkI_s, bkJ_s, bkQ_s, bkQ_n, ckb0, ckb1, ckb2, ckb3, eq_self, Nat.reduceEqDiff, Nat.reduceLeDiff, Nat.reduceLT, reduceIte, true_or, or_true, not_false_eq_true, not_true_eq_false, and_self, and_true, true_and, LIT, Int32.reduceLT, Int32.reduceLE, Int32.reduceToNatClampNeg]
  have z2 : mZ (setI (setI (setI (setI (setI (newM M0 1 0 8) (mZ M0) 5 0) (mZ M0) 6 0) (mZ M0) 7 0) (mZ M0) 0 (nI cap)) (mZ M0) 1 (nI sh)) = mZ M0 + 1 := rfl
  have c2 : mC (setI (setI (setI (setI (setI (newM M0 1 0 8) (mZ M0) 5 0) (mZ M0) 6 0) (mZ M0) 7 0) (mZ M0) 0 (nI cap)) (mZ M0) 1 (nI sh)) (mZ M0) = 1 := c0
  unfold hIni
  generalize setI (setI (setI (setI (setI (newM M0 1 0 8) (mZ M0) 5 0) (mZ M0) 6 0) (mZ M0) 7 0) (mZ M0) 0 (nI cap)) (mZ M0) 1 (nI sh) = M2 at *
  have c3 := c 100 cap cap M2 (by omega) c2
  rw [eq_Hunt_init_29, nI_clamp (by omega), ckk_t ⟨nI_pos (by omega), e2⟩, ckk_t c3, z2]
  have z3 : mZ (setR (newM M2 100 cap cap) (mZ M0) 2 (some (mZ M0 + 1))) = mZ M0 + 2 := by show mZ M2 + 1 = _; omega
  have c3' : mC (setR (newM M2 100 cap cap) (mZ M0) 2 (some (mZ M0 + 1))) (mZ M0) = 1 := c3
  generalize setR (newM M2 100 cap cap) (mZ M0) 2 (some (mZ M0 + 1)) = M3 at *
  have c4 := c 100 cap cap M3 (by omega) c3'
  rw [eq_Hunt_init_36, nI_clamp (by omega), ckk_t ⟨nI_pos (by omega), e2⟩, ckk_t c4, z3]
  have z4 : mZ (setR (newM M3 100 cap cap) (mZ M0) 3 (some (mZ M0 + 2))) = mZ M0 + 3 := by show mZ M3 + 1 = _; omega
  have c4' : mC (setR (newM M3 100 cap cap) (mZ M0) 3 (some (mZ M0 + 2))) (mZ M0) = 1 := c4
  generalize setR (newM M3 100 cap cap) (mZ M0) 3 (some (mZ M0 + 2)) = M4 at *
  have c5 := c 100 N N M4 (by omega) c4'
  rw [eq_Hunt_init_43, e1, nI_clamp (by omega), ckk_t ⟨nI_pos (by omega), e3⟩, ckk_t c5, z4, eq_Hunt_init_55]
theorem hIni_z (M0 : ej_Mem) (cap N : Nat) (a b : Int32) : mZ (hIni M0 cap N a b) = mZ M0 + 4 ∧ mS (hIni M0 cap N a b) = mS M0 + 8 + cap + cap + N := ⟨rfl, rfl⟩
theorem hIni_g (P : Nat → Nat → Prop) (M0 : ej_Mem) (cap N : Nat) (a b : Int32) (hP : ∀ k, P (mZ M0) k) : FrG P M0 (hIni M0 cap N a b) := by
  unfold hIni
  refine FrG.trans ?_ (FrG.setR (P := P) _ _ (hP 4))
  refine FrG.trans ?_ (FrG.new P _ _ _ _)
  refine FrG.trans ?_ (FrG.setR (P := P) _ _ (hP 3))
  refine FrG.trans ?_ (FrG.new P _ _ _ _)
  refine FrG.trans ?_ (FrG.setR (P := P) _ _ (hP 2))
  refine FrG.trans ?_ (FrG.new P _ _ _ _)
  refine FrG.trans ?_ (FrG.setI (P := P) _ _ (hP 1))
  refine FrG.trans ?_ (FrG.setI (P := P) _ _ (hP 0))
  refine FrG.trans ?_ (FrG.setI (P := P) _ _ (hP 7))
  refine FrG.trans ?_ (FrG.setI (P := P) _ _ (hP 6))
  refine FrG.trans ?_ (FrG.setI (P := P) _ _ (hP 5))
  exact FrG.new P _ _ _ _
theorem hIni_r {cap N sh : Nat} (z : HZ cap N sh) (M0 : ej_Mem) : HR (hIni M0 cap N (nI cap) (nI sh)) (mZ M0) cap N sh b_none := by
  have h4 : ∀ i, i < 4 → ∀ j, j < 4 → i ≠ j → mZ M0 + i ≠ mZ M0 + j := fun i _ j _ h => by omega
  have q1 : mZ M0 ≠ mZ M0 + 1 := by omega
  have q2 : mZ M0 ≠ mZ M0 + 2 := by omega
  have q3 : mZ M0 ≠ mZ M0 + 3 := by omega
  have p1 : mZ M0 + 1 ≠ mZ M0 := by omega
  have p2 : mZ M0 + 2 ≠ mZ M0 := by omega
  have p3 : mZ M0 + 3 ≠ mZ M0 := by omega
  have r12 : mZ M0 + 1 ≠ mZ M0 + 2 := by omega
  have r13 : mZ M0 + 1 ≠ mZ M0 + 3 := by omega
  have r21 : mZ M0 + 2 ≠ mZ M0 + 1 := by omega
  have r23 : mZ M0 + 2 ≠ mZ M0 + 3 := by omega
  have r31 : mZ M0 + 3 ≠ mZ M0 + 1 := by omega
  have r32 : mZ M0 + 3 ≠ mZ M0 + 2 := by omega
  have zz : ∀ (M : ej_Mem) o k (v : Option Nat), mZ (setR M o k v) = mZ M := fun _ _ _ _ => rfl
  have zi : ∀ (M : ej_Mem) o k (v : Int32), mZ (setI M o k v) = mZ M := fun _ _ _ _ => rfl
  have cr : ∀ (M : ej_Mem) o k (v : Option Nat), mC (setR M o k v) = mC M ∧ mN (setR M o k v) = mN M ∧ mI (setR M o k v) = mI M ∧ aI (setR M o k v) = aI M := fun _ _ _ _ => ⟨rfl, rfl, rfl, rfl⟩
  have ci : ∀ (M : ej_Mem) o k (v : Int32), mC (setI M o k v) = mC M ∧ mN (setI M o k v) = mN M ∧ mR (setI M o k v) = mR M ∧ aI (setI M o k v) = aI M := fun _ _ _ _ => ⟨rfl, rfl, rfl, rfl⟩
  have ii : ∀ (M : ej_Mem) o k (v : Int32), mI (setI M o k v) o = va_up (mI M o) k v := fun M o k v => by
    show (if o = o then _ else _) = _
    rw [if_pos rfl]; rfl
  have rr : ∀ (M : ej_Mem) o k (v : Option Nat), mR (setR M o k v) o = va_up (mR M o) k v := fun M o k v => by
    show (if o = o then _ else _) = _
    rw [if_pos rfl]; rfl
  have a1 : aI (hIni M0 cap N (nI cap) (nI sh)) (mZ M0 + 3) = fun _ => 0 := by
    unfold hIni
    simp only [cr, ci, nw_a, zz, zi, nw_z, Nat.add_assoc, Nat.reduceAdd, if_true]
  refine ⟨⟨⟨?_, ?_, ?_, ?_, ?_, ?_⟩, ⟨?_, ?_, ?_⟩, ?_, ?_, ?_⟩, ⟨?_, ?_, ?_⟩, Nat.zero_le _, List.nodup_nil, fun k hk => absurd hk (Nat.not_lt_zero k), rfl, fun k hk => absurd hk (Nat.not_lt_zero k), fun q _ => ?_, Tab.emp _ (fun q _ => ?_)⟩
  all_goals first
    | (unfold hsl; rw [a1]; rfl)
    | (unfold hIni; simp only [cr, ci, ii, rr, nw_c, nw_n, nw_i, nw_r, zz, zi, nw_z, Nat.add_assoc, Nat.reduceAdd, if_true, if_neg q1, if_neg q2, if_neg q3, if_neg p1, if_neg p2, if_neg p3, if_neg r12, if_neg r13, if_neg r21, if_neg r23, if_neg r31, if_neg r32]; rfl)
    | (unfold hIni; simp only [cr, ci, ii, rr, nw_c, nw_n, nw_i, nw_r, zz, zi, nw_z, Nat.add_assoc, Nat.reduceAdd, if_true, if_neg q1, if_neg q2, if_neg q3, if_neg p1, if_neg p2, if_neg p3, if_neg r12, if_neg r13, if_neg r21, if_neg r23, if_neg r31, if_neg r32])
