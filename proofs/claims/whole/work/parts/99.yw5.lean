/-! the class: a test from its beginning to its end -/
def TIc (M : ej_Mem) (t : Nat) (tp : Nat → Nat) (lo0 : Nat) (st : TSt) : Prop := CXk M t tp st.1 (dpt st.2.2.1 st.2.2.2.1) st.2.2.2.1.length st.2.2.2.2 (ops st.2.2.1 st.2.2.2.1) (match st.2.1 with | none => pcs st.2.2.1 st.2.2.2.1 | some w => w :: pcs st.2.2.1 st.2.2.2.1) lo0 ∧ (st.2.1 ≠ none → st.2.2.1.2.2 = 0) ∧ st.2.2.2.2 ≤ 60 ∧ st.1 ≤ t ∧ dpt st.2.2.1 st.2.2.2.1 ≤ 10
theorem h_dead {D : Nat} {M : ej_Mem} {t : Nat} {tp : Nat → Nat} {g : Nat} (h : CDd M t tp g) (l1 l2 l3 l4 l5 : Int32) (o6 : Option Value) : rn jm_Clerk_readTest (cal D) 28 [some (.ref 61), some (.int l1), some (.int l2), some (.int l3), some (.int l4), some (.int l5), o6] [] M = endT D l1 l2 M := by
  obtain ⟨hW, h3, gn⟩ := h.fr
  rw [eq_Clerk_readTest_28]
  by_cases z : 400 < l5
  · rw [if_pos z]; rfl
  · rw [if_neg z]
    by_cases y : l4 = 0
    · rw [if_pos y]; rfl
    · rw [if_neg y, ckk_t (SW.all hW).2.2.1, if_neg (by rw [h3]; exact gn)]; rfl
theorem h_no {D : Nat} (M : ej_Mem) (l1 l2 l3 l5 : Int32) (o6 : Option Value) : rn jm_Clerk_readTest (cal D) 28 [some (.ref 61), some (.int l1), some (.int l2), some (.int l3), some (.int 0), some (.int l5), o6] [] M = endT D l1 l2 M := by
  rw [eq_Clerk_readTest_28]
  by_cases z : 400 < l5
  · rw [if_pos z]; rfl
  · rw [if_neg z, if_pos rfl]; rfl
theorem c_tloop {D : Nat} (hD : 7 ≤ D) {t : Nat} {tp : Nat → Nat} {lo0 : Nat} {yes no : Int32} : ∀ (n : Nat) (st : TSt) (M : ej_Mem) (k : Nat) (o6 : Option Value), t - st.1 < n → TIc M t tp lo0 st → k ≤ st.1 → ∃ M' x, rn jm_Clerk_readTest (cal D) 28 [some (.ref 61), some (.int yes), some (.int no), some (.int (b2i st.2.1.isNone)), some (.int 1), some (.int (nI k)), o6] [] M = some (some (.int x), M') ∧ TstC M M' t tp lo0 yes no (trun tp t n st) x
  | 0, st, M, k, o6, hn, h, hk => absurd hn (Nat.not_lt_zero _)
  | n + 1, (p, none, f, fs, c), M, k, o6, hn, h, hk => by
    obtain ⟨X, _, hc, hp, hd⟩ := h
    have X : CXk M t tp p (dpt f fs) fs.length c (ops f fs) (pcs f fs) lo0 := X
    have hc : c ≤ 60 := hc
    have hp : p ≤ t := hp
    have hd : dpt f fs ≤ 10 := hd
    have hn : t - p < n + 1 := hn
    have hk : k ≤ p := hk
    have H := X.1
    have TP := H.2.2.1.1
    have t4 := TP.1
    have ol := ops_len fs f
    have pl := pcs_len fs f
    have fl := fs_dpt fs f
    have d1 := dpt_k f fs 0
    have b1 : p ≤ blk tp t p := bl_ge tp t 401 p
    have b2 : blk tp t p ≤ t := bl_le tp t 401 p hp
    have ef : mI M 61 3 = 0 := H.2.2.2.2
    have olk : (ops f fs).length = f.2.2 + (ops (f.1, f.2.1, 0) fs).length := by rw [ops_k f, List.length_append, List.length_replicate]
    have X1 := X.pf (blk tp t p)
    have F1 := pf_Pk lo0 M (blk tp t p) 0
    have lk := c_look (by omega : 1 ≤ D) H (by omega)
    generalize pf 61 M (blk tp t p) 0 = M1 at *
    have X1' : CXk M1 t tp (blk tp t p) (dpt (f.1, f.2.1, 0) fs + f.2.2) fs.length c (List.replicate f.2.2 3 ++ ops (f.1, f.2.1, 0) fs) (pcs f fs) lo0 := by rw [← ops_k f, d1]; exact X1
    obtain ⟨M2, e2, F2, G2⟩ := c_readFact hD X1' b2 (ops_h f.1 f.2.1 fs) (ops_le fs _) (by omega) hc (by omega) (by omega)
    have eW : stw tp t (blk tp t p) (wd 9) = true → ¬ sg tp t (blk tp t p) = 91 := fun y z => by have := stw_0 (by decide) y; rw [z] at this; exact absurd this (by decide)
    have go : rn jm_Clerk_readTest (cal D) 28 [some (.ref 61), some (.int yes), some (.int no), some (.int 1), some (.int 1), some (.int (nI k)), o6] [] M = (if sg tp t (blk tp t p) = 91 ∨ stw tp t (blk tp t p) (wd 9) = true then rn jm_Clerk_readTest (cal D) 28 [some (.ref 61), some (.int yes), some (.int no), some (.int 1), some (.int 1), some (.int (nI (k + 1))), some (.int (sI (sg tp t (blk tp t p))))] [] M2 else rn jm_Clerk_readTest (cal D) 28 [some (.ref 61), some (.int yes), some (.int no), some (.int 0), some (.int 1), some (.int (nI (k + 1))), some (.int (sI (sg tp t (blk tp t p))))] [] M2) := by
      rw [eq_Clerk_readTest_28, if_neg (show ¬ (400 : Int32) < nI k from nI_nlt (b := k) (a := 400) (by omega) (by decide)), if_neg (by decide), ckk_t (SW.all H.1).2.2.1, ef, if_pos rfl, ckk_t (SW.all H.1).2.2.1, lk, bkI_s, if_neg (by decide)]
      by_cases z : sg tp t (blk tp t p) = 91
      · rw [if_pos (by rw [z]; rfl), ckk_t (SW.all X1.1.1).2.2.1, e2, bkV_s, nI_1, if_pos (Or.inl z)]
      · rw [if_neg (show ¬ sI (sg tp t (blk tp t p)) = 91 from fun y => z ((sI_eq (sg_le TP _) (by decide : 91 < 256)).mp y)), ckk_t (SW.all X1.1.1).2.2.1, c_isWord (by omega) X1.1 (k := 9) (by decide) b2 rfl, bkI_s]
        cases y : stw tp t (blk tp t p) (wd 9) with
        | false => rw [if_pos (by rfl), ckk_t (SW.all X1.1.1).2.2.1, e2, bkV_s, nI_1, if_neg (by rintro (q | q); exact z q; exact Bool.false_ne_true q)]
        | true => rw [if_neg (by decide), ckk_t (SW.all X1.1.1).2.2.1, e2, bkV_s, nI_1, if_pos (Or.inr rfl)]
    have F12 := F1.trans F2
    show ∃ M' x, rn jm_Clerk_readTest (cal D) 28 [some (.ref 61), some (.int yes), some (.int no), some (.int 1), some (.int 1), some (.int (nI k)), o6] [] M = some (some (.int x), M') ∧ _
    rw [go]
    unfold trun tstep
    simp only
    have dd : ∀ g l3, CDd M2 t tp g → ∃ M' x, rn jm_Clerk_readTest (cal D) 28 [some (.ref 61), some (.int yes), some (.int no), some (.int l3), some (.int 1), some (.int (nI (k + 1))), some (.int (sI (sg tp t (blk tp t p))))] [] M2 = some (some (.int x), M') ∧ TstC M M' t tp lo0 yes no (.inl g) x := by
      intro g l3 hg
      rw [h_dead hg]
      obtain ⟨M3, e3, F3, d3⟩ := e_dead (by omega : 1 ≤ D) (lo0 := lo0) hg yes no
      exact ⟨M3, _, e3, F12.trans F3, d3⟩
    split at G2
    · rename_i hw
      have w3 : blk tp t p + 3 ≤ t := stw_le b2 hw
      rw [if_pos hw, if_pos (Or.inr hw)]
      split at G2
      · rename_i hz
        rw [if_pos (by omega)]
        exact dd _ _ G2
      · rename_i hz
        rw [if_neg (by omega)]
        obtain ⟨M', x, e', T'⟩ := c_tloop hD n (blk tp t p + 3, none, (f.1, f.2.1, f.2.2 + 1), fs, c) M2 (k + 1) (some (.int (sI (sg tp t (blk tp t p))))) (by show t - (blk tp t p + 3) < n; omega) ⟨by
            show CXk M2 t tp (blk tp t p + 3) (dpt (f.1, f.2.1, f.2.2 + 1) fs) fs.length c (ops (f.1, f.2.1, f.2.2 + 1) fs) (pcs (f.1, f.2.1, f.2.2 + 1) fs) lo0
            have d2 := dpt_k f fs (f.2.2 + 1)
            rw [pcs_k, ops_k (f.1, f.2.1, f.2.2 + 1), show dpt (f.1, f.2.1, f.2.2 + 1) fs = dpt (f.1, f.2.1, 0) fs + f.2.2 + 1 by omega]
            exact G2, fun z => absurd rfl z, hc, w3, by
            have d2 := dpt_k f fs (f.2.2 + 1)
            show dpt (f.1, f.2.1, f.2.2 + 1) fs ≤ 10
            omega⟩ (by show k + 1 ≤ blk tp t p + 3; omega)
        exact ⟨M', x, e', T'.after F12⟩
    · rename_i hw
      rw [if_neg hw]
      split at G2
      · rename_i hs
        have qt := sg_lt hs (by decide)
        rw [if_pos hs, if_pos (Or.inl hs)]
        split at G2
        · rename_i hz
          rw [if_pos (by omega)]
          exact dd _ _ G2
        · rename_i hz
          rw [if_neg (by omega)]
          obtain ⟨M', x, e', T'⟩ := c_tloop hD n (blk tp t p + 1, none, (none, none, 0), f :: fs, c) M2 (k + 1) (some (.int (sI (sg tp t (blk tp t p))))) (by show t - (blk tp t p + 1) < n; omega) ⟨by
              show CXk M2 t tp (blk tp t p + 1) (0 + 1 + dpt f fs) (fs.length + 1) c (0 :: ops f fs) (pcs f fs) lo0
              rw [ops_k f, show 0 + 1 + dpt f fs = dpt (f.1, f.2.1, 0) fs + f.2.2 + 1 by omega]
              exact G2, fun z => absurd rfl z, hc, by show blk tp t p + 1 ≤ t; omega, by
              show 0 + 1 + dpt f fs ≤ 10
              omega⟩ (by show k + 1 ≤ blk tp t p + 1; omega)
          exact ⟨M', x, e', T'.after F12⟩
      · rename_i hs
        rw [if_neg hs, if_neg (by rintro (q | q); exact hs q; exact hw q)]
        obtain ⟨_, G3⟩ := G2
        cases hcm : cmp tp t (blk tp t p) c with
        | inl g =>
          rw [hcm] at G3
          exact dd g _ G3
        | inr y =>
          obtain ⟨p', set, lo, hi⟩ := y
          obtain ⟨c1, c2, c3⟩ := cmp_ok b2 hcm
          rw [hcm] at G3
          obtain ⟨M', x, e', T'⟩ := c_tloop hD n (p', some (negs f.2.2 (fP set lo hi)), (f.1, f.2.1, 0), fs, c + 1) M2 (k + 1) (some (.int (sI (sg tp t (blk tp t p))))) (by show t - p' < n; omega) ⟨by
              show CXk M2 t tp p' (dpt (f.1, f.2.1, 0) fs) fs.length (c + 1) (ops (f.1, f.2.1, 0) fs) (negs f.2.2 (fP set lo hi) :: pcs (f.1, f.2.1, 0) fs) lo0
              rw [pcs_k]
              exact G3, fun _ => rfl, by show c + 1 ≤ 60; omega, c2, by
              show dpt (f.1, f.2.1, 0) fs ≤ 10
              omega⟩ (by show k + 1 ≤ p'; omega)
          exact ⟨M', x, e', T'.after F12⟩
  | n + 1, (p, some w, f, fs, c), M, k, o6, hn, h, hk => by
    obtain ⟨X, hk0, hc, hp, hd⟩ := h
    have hk0 : f.2.2 = 0 := hk0 (fun z => by cases z)
    obtain ⟨o, a, k0⟩ := f
    have hk0 : k0 = 0 := hk0
    subst hk0
    have X : CXk M t tp p (dpt (o, a, 0) fs) fs.length c (ops (o, a, 0) fs) (w :: pcs (o, a, 0) fs) lo0 := X
    have hc : c ≤ 60 := hc
    have hp : p ≤ t := hp
    have hd : dpt (o, a, 0) fs ≤ 10 := hd
    have hn : t - p < n + 1 := hn
    have hk : k ≤ p := hk
    have H := X.1
    have TP := H.2.2.1.1
    have t4 := TP.1
    have ol := ops_len fs (o, a, 0)
    have pl := pcs_len fs (o, a, 0)
    have fl := fs_dpt fs (o, a, 0)
    have b1 : p ≤ blk tp t p := bl_ge tp t 401 p
    have b2 : blk tp t p ≤ t := bl_le tp t 401 p hp
    have ef : mI M 61 3 = 0 := H.2.2.2.2
    have X1 := X.pf (blk tp t p)
    have F1 := pf_Pk lo0 M (blk tp t p) 0
    have lk := c_look (by omega : 1 ≤ D) H (by omega)
    generalize pf 61 M (blk tp t p) 0 = M1 at *
    have s1 := c_isWord (by omega : 6 ≤ D) X1.1 (k := 11) (by decide) b2 (r := 14) rfl
    have s2 := c_isWord (by omega : 6 ≤ D) X1.1 (k := 12) (by decide) b2 (r := 15) rfl
    show ∃ M' x, rn jm_Clerk_readTest (cal D) 28 [some (.ref 61), some (.int yes), some (.int no), some (.int 0), some (.int 1), some (.int (nI k)), o6] [] M = some (some (.int x), M') ∧ _
    rw [eq_Clerk_readTest_28, if_neg (show ¬ (400 : Int32) < nI k from nI_nlt (b := k) (a := 400) (by omega) (by decide)), if_neg (by decide), ckk_t (SW.all H.1).2.2.1, ef, if_pos rfl, ckk_t (SW.all H.1).2.2.1, lk, bkI_s, if_pos rfl, ckk_t (SW.all X1.1.1).2.2.1, s1, bkI_s]
    unfold trun tstep
    simp only
    cases ha : stw tp t (blk tp t p) (wd 11) with
    | true =>
      have w3 : blk tp t p + 3 ≤ t := stw_le b2 ha
      have sga : sg tp t (blk tp t p) = 97 := stw_0 (by decide) ha
      obtain ⟨M2, e2, F2, X2⟩ := c_readAnd (by omega : 3 ≤ D) X1 b2 ha (by omega) (by omega) hc
      rw [if_neg (by decide), if_pos (by rw [sga]; rfl), ckk_t (SW.all X1.1.1).2.2.1, e2, bkV_s, nI_1, if_pos rfl]
      have d2 : dpt (o, some (andv a w), 0) fs = dpt (o, a, 0) fs := by cases fs <;> rfl
      obtain ⟨M', x, e', T'⟩ := c_tloop hD n (blk tp t p + 3, none, (o, some (andv a w), 0), fs, c) M2 (k + 1) (some (.int (sI (sg tp t (blk tp t p))))) (by show t - (blk tp t p + 3) < n; omega) ⟨by
          show CXk M2 t tp (blk tp t p + 3) (dpt (o, some (andv a w), 0) fs) fs.length c (ops (o, some (andv a w), 0) fs) (pcs (o, some (andv a w), 0) fs) lo0
          rw [d2]; exact X2, fun z => absurd rfl z, hc, w3, by
          show dpt (o, some (andv a w), 0) fs ≤ 10
          omega⟩ (by show k + 1 ≤ blk tp t p + 3; omega)
      exact ⟨M', x, e', T'.after (F1.trans F2)⟩
    | false =>
      rw [if_pos (by rfl), ckk_t (SW.all X1.1.1).2.2.1, s2, bkI_s, if_neg (show ¬ (false = true) by decide)]
      cases ho : stw tp t (blk tp t p) (wd 12) with
      | true =>
        have w3 : blk tp t p + 2 ≤ t := stw_le b2 ho
        have sgo : sg tp t (blk tp t p) = 111 := stw_0 (by decide) ho
        obtain ⟨M2, e2, F2, X2⟩ := c_readOr (by omega : 3 ≤ D) X1 b2 ho (by omega) (by omega) hc
        rw [if_neg (by decide), if_neg (by rw [sgo]; decide), ckk_t (SW.all X1.1.1).2.2.1, e2, bkV_s, nI_1, if_pos rfl]
        have d2 : dpt (some (orv o (andv a w)), none, 0) fs = dpt (o, a, 0) fs := by cases fs <;> rfl
        obtain ⟨M', x, e', T'⟩ := c_tloop hD n (blk tp t p + 2, none, (some (orv o (andv a w)), none, 0), fs, c) M2 (k + 1) (some (.int (sI (sg tp t (blk tp t p))))) (by show t - (blk tp t p + 2) < n; omega) ⟨by
            show CXk M2 t tp (blk tp t p + 2) (dpt (some (orv o (andv a w)), none, 0) fs) fs.length c (ops (some (orv o (andv a w)), none, 0) fs) (pcs (some (orv o (andv a w)), none, 0) fs) lo0
            rw [d2]; exact X2, fun z => absurd rfl z, hc, w3, by
            show dpt (some (orv o (andv a w)), none, 0) fs ≤ 10
            omega⟩ (by show k + 1 ≤ blk tp t p + 2; omega)
        exact ⟨M', x, e', T'.after (F1.trans F2)⟩
      | false =>
        rw [if_pos (by rfl), if_neg (show ¬ (false = true) by decide)]
        have a12 := X1.2.1.2.2.2.1
        cases fs with
        | nil =>
          have a12 : mI M1 61 12 = nI 0 := a12
          have fin : ∃ M' x, endT D yes no M1 = some (some (.int x), M') ∧ TstC M M' t tp lo0 yes no (.inr (blk tp t p, orv o (andv a w), c)) x := by
            obtain ⟨M3, x, e3, T3⟩ := e_good (by omega : 2 ≤ D) X1 b2 hc yes no
            exact ⟨M3, x, e3, T3.after F1⟩
          by_cases z : sI (sg tp t (blk tp t p)) = 93
          · rw [if_pos z, ckk_t (SW.all X1.1.1).2.2.1, a12, if_pos (show nI 0 ≤ 0 by decide), h_no]
            exact fin
          · rw [if_neg z, h_no]
            exact fin
        | cons g gs =>
          have a12 : mI M1 61 12 = nI (gs.length + 1) := a12
          have gl : gs.length + 1 ≤ 10 := by
            have : (g :: gs).length = gs.length + 1 := rfl
            omega
          dsimp only
          by_cases hs : sg tp t (blk tp t p) = 93
          · have qt := sg_lt hs (by decide)
            obtain ⟨M2, e2, F2, X2⟩ := c_close (by omega : 3 ≤ D) X1 (by omega) (by omega) hc
            rw [if_pos (by rw [hs]; rfl), ckk_t (SW.all X1.1.1).2.2.1, a12, if_neg (nI_nle (by omega) (by omega)), ckk_t (SW.all X1.1.1).2.2.1, e2, bkV_s, nI_1, if_pos hs]
            have d0 : dpt (o, a, 0) (g :: gs) = dpt g gs + 1 := by show 0 + 1 + dpt g gs = _; omega
            have d1 := dpt_k g gs 0
            obtain ⟨M', x, e', T'⟩ := c_tloop hD n (blk tp t p + 1, some (negs g.2.2 (orv o (andv a w))), (g.1, g.2.1, 0), gs, c) M2 (k + 1) (some (.int (sI (sg tp t (blk tp t p))))) (by show t - (blk tp t p + 1) < n; omega) ⟨X2, fun _ => rfl, hc, by show blk tp t p + 1 ≤ t; omega, by
                show dpt (g.1, g.2.1, 0) gs ≤ 10
                omega⟩ (by show k + 1 ≤ blk tp t p + 1; omega)
            exact ⟨M', x, e', T'.after (F1.trans F2)⟩
          · rw [if_neg (show ¬ sI (sg tp t (blk tp t p)) = 93 from fun z => hs ((sI_eq (sg_le TP _) (by decide : 93 < 256)).mp z)), h_no, if_neg hs]
            obtain ⟨M3, e3, F3, d3⟩ := e_open (by omega : 1 ≤ D) (lo0 := lo0) X1.1 b2 a12 (by omega) yes no
            exact ⟨M3, _, e3, F1.trans F3, d3⟩
theorem c_test {D : Nat} (hD : 8 ≤ D) {M : ej_Mem} {t : Nat} {tp : Nat → Nat} {p c : Nat} (H : CLk M t tp p 0) (h6 : mI M 61 6 = nI (5 * c)) (hc : c ≤ 60) (hp : p ≤ t) (yes no : Int32) : ∃ M' x, cal D jm_Clerk_readTest [.ref 61, .int yes, .int no] M = some (some (.int x), M') ∧ TstC M M' t tp c yes no (tst tp t p c) x := by
  obtain ⟨d, rfl⟩ : ∃ d, D = d + 1 := ⟨D - 1, by omega⟩
  have t4 := H.2.2.1.1.1
  rw [ca_Clerk_readTest, eq_Clerk_readTest_0]
  simp only [SW.all H.1, MR, ckk_T, deR_s, deQ_s, deQ_n, bkV_s, bkI_s, bkJ_s, bkQ_s, bkQ_n, ckb0, ckb1, ckb2, ckb3, eq_self, Nat.reduceEqDiff, Nat.reduceLeDiff, Nat.reduceLT, reduceIte, true_or, or_true, not_false_eq_true, not_true_eq_false, and_self, and_true, true_and, LIT, Int32.reduceLT, Int32.reduceLE, Int32.reduceToNatClampNeg]
  have gen : ∀ P : Nat → Nat → Prop, P 61 10 → P 61 11 → P 61 12 → P 61 16 → Fr P M (setI (setI (setI (setI M 61 10 0) 61 11 0) 61 12 0) 61 16 0) := fun P p1 p2 p3 p4 => (((Fr.setI (P := P) M _ p1).trans (Fr.setI (P := P) _ _ p2)).trans (Fr.setI (P := P) _ _ p3)).trans (Fr.setI (P := P) _ _ p4)
  have F := gen (Pk c) (by unfold Pk; omega) (by unfold Pk; omega) (by unfold Pk; omega) (by unfold Pk; omega)
  have K := H.keep (gen (fun o k => 62 ≤ o ∨ (o = 61 ∧ 4 ≤ k)) (by omega) (by omega) (by omega) (by omega)) (fun o k q => q)
  have X : CXk (setI (setI (setI (setI M 61 10 0) 61 11 0) 61 12 0) 61 16 0) t tp p 0 0 c [] [] c := ⟨K, ⟨h6, rfl, rfl, rfl, rfl⟩, trivial, rfl⟩
  obtain ⟨M', x, e', T'⟩ := c_tloop (by omega : 7 ≤ d) (yes := yes) (no := no) 402 (p, none, (none, none, 0), [], c) _ 0 none (by show t - p < 402; omega) ⟨X, fun z => absurd rfl z, hc, hp, by show 0 ≤ 10; omega⟩ (Nat.zero_le _)
  exact ⟨M', x, e', T'.after F⟩
