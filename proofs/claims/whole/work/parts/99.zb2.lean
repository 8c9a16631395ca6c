/-! the reference: a clause -/
def Pcl (sl o k : Nat) : Prop := Pt sl 0 o k ∨ ((96 ≤ o ∧ o ≤ 99) ∧ 12 * sl ≤ k ∧ k < 12 * sl + 12)
theorem Pt_cl {sl e0 : Nat} {M M' : ej_Mem} (f : Fr (Pt sl e0) M M') : Fr (Pcl sl) M M' := f.mono (fun o k q => Or.inl (by unfold Pt at *; omega))
def tld (A : Arr) (sl n : Nat) (k : Int32) : Prop := ∃ i, i < n ∧ A 96 (12 * sl + i) = k
def RCs (M : ej_Mem) (t : Nat) (tp : Nat → Nat) (so sl e : Nat) (st : ClS) : Prop := RL M t tp st.1 0 ∧ (mI M 90 4 = nI sl ∧ mI M 90 5 = nI e ∧ mI M 90 6 = 0 ∧ mI M 90 7 = nI st.2.2.1) ∧ RCo (aI M) so sl st.2.1 e ∧ rTxn (aI M) so sl st.2.1 = st.2.2.2.2.2 ∧ (3 * e ≤ st.1 + 3 * st.2.2.1 ∧ st.2.2.1 ≤ 60 ∧ st.1 ≤ t) ∧ (so = 0 → ((st.2.2.2.1 = true ↔ tld (aI M) sl st.2.1 3) ∧ (st.2.2.2.2.1 = true ↔ tld (aI M) sl st.2.1 4)))
theorem p_clauseOf {D : Nat} (hD : 1 ≤ D) {so k : Nat} (hs : so < 2) (hk : k < wN so) (M : ej_Mem) : cal D jm_Ref_clauseOf [.int (nI so), .int (nI k)] M = some (some (.ref (3 + (14 + (if so = 1 then k else 2 + k)))), M) := by
  obtain ⟨d, rfl⟩ : ∃ d, D = d + 1 := ⟨D - 1, by omega⟩
  rw [ca_Ref_clauseOf, eq_Ref_clauseOf_0]
  have : so = 0 ∨ so = 1 := by omega
  rcases this with rfl | rfl
  · have hk : k < 7 := hk
    have : k = 0 ∨ k = 1 ∨ k = 2 ∨ k = 3 ∨ k = 4 ∨ k = 5 ∨ k = 6 := by omega
    rcases this with rfl | rfl | rfl | rfl | rfl | rfl | rfl <;> rfl
  · have hk : k < 2 := hk
    have : k = 0 ∨ k = 1 := by omega
    rcases this with rfl | rfl <;> rfl
theorem wd_of {so k : Nat} (hs : so < 2) (hk : k < wN so) : (14 + (if so = 1 then k else 2 + k)) < 28 ∧ wd (14 + (if so = 1 then k else 2 + k)) = wd (wB so + k) ∧ wB so + k < 28 := by
  have : so = 0 ∨ so = 1 := by omega
  rcases this with rfl | rfl
  · have hk : k < 7 := hk
    have : k = 0 ∨ k = 1 ∨ k = 2 ∨ k = 3 ∨ k = 4 ∨ k = 5 ∨ k = 6 := by omega
    rcases this with rfl | rfl | rfl | rfl | rfl | rfl | rfl <;> exact ⟨by decide, rfl, by decide⟩
  · have hk : k < 2 := hk
    have : k = 0 ∨ k = 1 := by omega
    rcases this with rfl | rfl <;> exact ⟨by decide, rfl, by decide⟩
theorem r_fw {D : Nat} (hD : 6 ≤ D) {M : ej_Mem} {t : Nat} {tp : Nat → Nat} {q f so : Nat} (hs : so < 2) (H : RL M t tp q f) (hq : q ≤ t) {l2 l3 : Int32} {o6 : Option Value} : ∀ n k, k + n = wN so → rn jm_Ref_clause (cal D) 25 [some (.ref 90), some (.int (nI so)), some (.int l2), some (.int l3), some (.int (nI (wN so))), some (.int (nI k)), o6] [] M = rn jm_Ref_clause (cal D) 51 [some (.ref 90), some (.int (nI so)), some (.int l2), some (.int l3), some (.int (nI (wN so))), some (.int (nI (fwd tp t q (wB so) n k))), o6] [] M
  | 0, k, hk => by
    have wl : wN so ≤ 7 := by unfold wN; split <;> decide
    rw [eq_Ref_clause_25, if_pos (nI_le (by omega) (by omega))]; rfl
  | n + 1, k, hk => by
    have wl : wN so ≤ 7 := by unfold wN; split <;> decide
    obtain ⟨w1, w2, w3⟩ := wd_of hs (show k < wN so by omega)
    rw [eq_Ref_clause_25, if_neg (nI_ge (by omega) (by omega)), p_clauseOf (by omega) hs (by omega), bkQ_s]
    simp only [RW.all H.1, MR, ckk_T, deR_s, deQ_s, deQ_n, bkV_s, bkI_s, bkJ_s, bkQ_s, bkQ_n, ckb0, ckb1, ckb2, ckb3, eq_self, Nat.reduceEqDiff, Nat.reduceLeDiff, Nat.reduceLT, reduceIte, true_or, or_true, not_false_eq_true, not_true_eq_false, and_self, and_true, true_and, LIT, Int32.reduceLT, Int32.reduceLE, Int32.reduceToNatClampNeg]
    rw [r_stands hD H w1 hq rfl, bkI_s, w2]
    unfold fwd
    cases z : stw tp t q (wd (wB so + k)) with
    | true => rw [if_neg (by decide), if_pos rfl]
    | false =>
      rw [if_pos (by rfl), if_neg (show ¬ (false = true) by decide), nI_1]
      exact r_fw hD hs H hq n (k + 1) (by omega)
theorem r_was (cl : Nat → List Value → ej_Mem → Option ej_R) {M : ej_Mem} (hW : RW M) {sl n : Nat} (h4 : mI M 90 4 = nI sl) (hsl : sl < 72) (hn : n ≤ 12) (x : Int32) : ∀ m i b, i + m = n → ∃ r : Bool, rn jm_Ref_wasTold cl 5 [some (.ref 90), some (.int (nI n)), some (.int x), some (.int (b2i b)), some (.int (nI i))] [] M = some (some (.int (b2i r)), M) ∧ (r = true ↔ b = true ∨ ∃ j, i ≤ j ∧ j < n ∧ aI M 96 (12 * sl + j) = x)
  | 0, i, b, hi => by
    refine ⟨b, ?_, ⟨fun z => Or.inl z, fun z => ?_⟩⟩
    · rw [eq_Ref_wasTold_5, if_pos (nI_le (by omega) (by omega)), ck_b2i]
    · rcases z with z | ⟨j, j1, j2, _⟩
      · exact z
      · omega
  | m + 1, i, b, hi => by
    rw [eq_Ref_wasTold_5, if_neg (nI_ge (by omega) (by omega)), nI_1]
    cases b with
    | true =>
      rw [if_neg (by decide)]
      obtain ⟨r, e, q⟩ := r_was cl hW h4 hsl hn x m (i + 1) true (by omega)
      exact ⟨r, e, ⟨fun _ => Or.inl rfl, fun _ => q.mpr (Or.inl rfl)⟩⟩
    | false =>
      rw [if_pos (by rfl)]
      simp only [RW.all hW, h4, mul12, nI_add, MR, ckk_T, deR_s, deQ_s, deQ_n, bkV_s, bkI_s, bkJ_s, bkQ_s, bkQ_n, ckb0, ckb1, ckb2, ckb3, eq_self, Nat.reduceEqDiff, Nat.reduceLeDiff, Nat.reduceLT, reduceIte, true_or, or_true, not_false_eq_true, not_true_eq_false, and_self, and_true, true_and, LIT, Int32.reduceLT, Int32.reduceLE, Int32.reduceToNatClampNeg]
      rw [ckb_n (by omega) (by decide), nI_clamp (by omega)]
      by_cases z : aI M 96 (12 * sl + i) = x
      · rw [if_pos z]
        obtain ⟨r, e, q⟩ := r_was cl hW h4 hsl hn x m (i + 1) true (by omega)
        exact ⟨r, e, ⟨fun _ => Or.inr ⟨i, Nat.le_refl _, by omega, z⟩, fun _ => q.mpr (Or.inl rfl)⟩⟩
      · rw [if_neg z]
        obtain ⟨r, e, q⟩ := r_was cl hW h4 hsl hn x m (i + 1) false (by omega)
        refine ⟨r, e, q.trans ⟨fun y => ?_, fun y => ?_⟩⟩
        · rcases y with y | ⟨j, j1, j2, j3⟩
          · cases y
          · exact Or.inr ⟨j, by omega, j2, j3⟩
        · rcases y with y | ⟨j, j1, j2, j3⟩
          · cases y
          · by_cases u : j = i
            · subst u; exact absurd j3 z
            · exact Or.inr ⟨j, by omega, j2, j3⟩
/-- the place of a clause is opened -/
def clM (M : ej_Mem) (p at' : Nat) (k : Int32) (e : Nat) : ej_Mem := setA (setA (setA (pf 90 M p 0) 96 at' k) 97 at' 0) 98 at' (nI e)
theorem clM_fr {sl : Nat} (M : ej_Mem) (p n : Nat) (hn : n < 12) (k : Int32) (e : Nat) : Fr (Pcl sl) M (clM M p (12 * sl + n) k e) := (((Pt_cl (pf_Pt sl 0 M p 0)).trans (Fr.setA (P := Pcl sl) _ _ (Or.inr ⟨by omega, by omega, by omega⟩))).trans (Fr.setA (P := Pcl sl) _ _ (Or.inr ⟨by omega, by omega, by omega⟩))).trans (Fr.setA (P := Pcl sl) _ _ (Or.inr ⟨by omega, by omega, by omega⟩))
theorem clM_rl {M : ej_Mem} {t : Nat} {tp : Nat → Nat} {p0 f : Nat} (h : RL M t tp p0 f) (p at' : Nat) (k : Int32) (e : Nat) : RL (clM M p at' k e) t tp p 0 := (h.pf p 0).keep (((Fr.setA (P := fun o j => 92 ≤ o ∨ (o = 90 ∧ 4 ≤ j)) _ _ (by omega)).trans (Fr.setA (P := fun o j => 92 ≤ o ∨ (o = 90 ∧ 4 ≤ j)) _ _ (by omega))).trans (Fr.setA (P := fun o j => 92 ≤ o ∨ (o = 90 ∧ 4 ≤ j)) _ _ (by omega))) (fun o k q => q)
theorem clM_a (M : ej_Mem) (p at' : Nat) (k : Int32) (e : Nat) : aI (clM M p at' k e) 96 = va_up (aI M 96) at' k ∧ aI (clM M p at' k e) 97 = va_up (aI M 97) at' 0 ∧ aI (clM M p at' k e) 98 = va_up (aI M 98) at' (nI e) ∧ (∀ o, o ≠ 96 → o ≠ 97 → o ≠ 98 → aI (clM M p at' k e) o = aI M o) := by
  unfold clM
  have b : aI (pf 90 M p 0) = aI M := rfl
  refine ⟨?_, ?_, ?_, fun o h1 h2 h3 => ?_⟩
  · rw [gA_o (by decide), gA_o (by decide), gA_u, b]
  · rw [gA_o (by decide), gA_u, gA_o (by decide), b]
  · rw [gA_u, gA_o (by decide), gA_o (by decide), b]
  · rw [gA_o h3, gA_o h2, gA_o h1, b]
theorem clM_i (M : ej_Mem) (p at' : Nat) (k : Int32) (e : Nat) {j : Nat} (hj : 4 ≤ j) : mI (clM M p at' k e) 90 j = mI M 90 j := by
  show mI (pf 90 M p 0) 90 j = _
  rw [(pf_fr 90 M p 0).i (by unfold Ppf; omega)]
theorem r_cl104 {D : Nat} (hD : 3 ≤ D) {M : ej_Mem} {t : Nat} {tp : Nat → Nat} {q so sl e n k : Nat} (hs : so < 2) (H : RL M t tp q 0) (h4 : mI M 90 4 = nI sl) (h5 : mI M 90 5 = nI e) (hsl : sl < 72) (hn : n < 12) (hk : k < wN so) {l3 l4 : Int32} {o6 : Option Value} : rn jm_Ref_clause (cal D) 104 [some (.ref 90), some (.int (nI so)), some (.int (nI n)), some (.int l3), some (.int l4), some (.int (nI k)), o6] [] M = (if isTk so k = true then rn jm_Ref_clause (cal D) 180 [some (.ref 90), some (.int (nI so)), some (.int (nI n)), some (.int l3), some (.int l4), some (.int (nI k)), some (.int (nI (12 * sl + n)))] [] (clM M (q + (wd (wB so + k)).length) (12 * sl + n) (nI k) e) else rn jm_Ref_clause (cal D) 187 [some (.ref 90), some (.int (nI so)), some (.int (nI n)), some (.int l3), some (.int l4), some (.int (nI k)), some (.int (nI (12 * sl + n)))] [] (clM M (q + (wd (wB so + k)).length) (12 * sl + n) (nI k) e)) := by
  obtain ⟨w1, w2, w3⟩ := wd_of hs hk
  obtain ⟨y1, y2, y3⟩ := wd_ok _ w1
  have wdh := H.2.1 _ w1
  rw [w2] at y2 wdh
  have wl : wN so ≤ 7 := by unfold wN; split <;> decide
  rw [eq_Ref_clause_104]
  simp only [RW.all H.1, MR, ckk_T, deR_s, deQ_s, deQ_n, bkV_s, bkI_s, bkJ_s, bkQ_s, bkQ_n, ckb0, ckb1, ckb2, ckb3, eq_self, Nat.reduceEqDiff, Nat.reduceLeDiff, Nat.reduceLT, reduceIte, true_or, or_true, not_false_eq_true, not_true_eq_false, and_self, and_true, true_and, LIT, Int32.reduceLT, Int32.reduceLE, Int32.reduceToNatClampNeg]
  rw [p_clauseOf (by omega) hs hk, bkQ_s, ckk_t wdh.1, p_strlen (by omega) wdh y2, bkI_s]
  simp only [RW.all H.1, H.2.2.2.1, h4, h5, mul12, nI_add, va_upe, MR, ckk_T, deR_s, deQ_s, deQ_n, bkV_s, bkI_s, bkJ_s, bkQ_s, bkQ_n, ckb0, ckb1, ckb2, ckb3, eq_self, Nat.reduceEqDiff, Nat.reduceLeDiff, Nat.reduceLT, reduceIte, true_or, or_true, not_false_eq_true, not_true_eq_false, and_self, and_true, true_and, LIT, Int32.reduceLT, Int32.reduceLE, Int32.reduceToNatClampNeg]
  simp only [ckb_n (show 12 * sl + n < 864 by omega) (show 864 < 2 ^ 31 by decide), nI_clamp (show 12 * sl + n < 2 ^ 31 by omega), pf_q H.2.2.2.2]
  have e1 : (nI so = 1) ↔ so = 1 := nI_eq (by omega) (by decide : 1 < 2 ^ 31)
  have e2 : (nI k = 1) ↔ k = 1 := nI_eq (by omega) (by decide : 1 < 2 ^ 31)
  have e3 : (nI k = 0) ↔ k = 0 := nI_eq (by omega) (by decide : 0 < 2 ^ 31)
  simp only [e1, e2, e3]
  unfold isTk
  by_cases z : so = 1
  · rw [if_pos z, if_pos z]
    by_cases y : k = 1
    · rw [if_pos y, if_pos (decide_eq_true y)]; rfl
    · rw [if_neg y, if_neg (by rw [decide_eq_false y]; decide)]; rfl
  · rw [if_neg z, if_neg z]
    by_cases y : k = 0
    · rw [if_pos y, if_pos (decide_eq_true y)]; rfl
    · rw [if_neg y, if_neg (by rw [decide_eq_false y]; decide)]; rfl
theorem r_cl283 (cl : Nat → List Value → ej_Mem → Option ej_R) {M : ej_Mem} (hW : RW M) {at' : Nat} (ha : at' < 864) {l1 l2 l3 l4 l5 : Int32} : rn jm_Ref_clause cl 283 [some (.ref 90), some (.int l1), some (.int l2), some (.int l3), some (.int l4), some (.int l5), some (.int (nI at'))] [] M = some (none, setA M 99 at' (mI M 90 5)) := by
  rw [eq_Ref_clause_283]
  simp only [RW.all hW, MR, ckk_T, deR_s, deQ_s, deQ_n, bkV_s, bkI_s, bkJ_s, bkQ_s, bkQ_n, ckb0, ckb1, ckb2, ckb3, eq_self, Nat.reduceEqDiff, Nat.reduceLeDiff, Nat.reduceLT, reduceIte, true_or, or_true, not_false_eq_true, not_true_eq_false, and_self, and_true, true_and, LIT, Int32.reduceLT, Int32.reduceLE, Int32.reduceToNatClampNeg]
  rw [ckb_n ha (by decide), nI_clamp (by omega)]
def ClG (M M' : ej_Mem) (t : Nat) (tp : Nat → Nat) (so sl : Nat) (r : Nat ⊕ ClS) : Prop := Fr (Pcl sl) M M' ∧ match r with
  | .inl g => RDd M' t tp g
  | .inr st' => ∃ e', RCs M' t tp so sl e' st'
theorem RDd.set {M : ej_Mem} {t : Nat} {tp : Nat → Nat} {g : Nat} (h : RDd M t tp g) {o k : Nat} (ho : 92 ≤ o) (v : Int32) : RDd (setA M o k v) t tp g := by
  obtain ⟨g0, gb, p, hp, H⟩ := h
  exact ⟨g0, gb, p, hp, H.keep (Fr.setA (P := fun o j => 92 ≤ o ∨ (o = 90 ∧ 4 ≤ j)) _ _ (Or.inl ho)) (fun o k q => q)⟩
/-- one clause more -/
theorem RCs.add {M M6 : ej_Mem} {t : Nat} {tp : Nat → Nat} {so sl e e' p n c p' c' : Nat} {sd sf sd' sf' : Bool} {T T' : Txt} (h : RCs M t tp so sl e (p, n, c, sd, sf, T)) (hs : so < 2) (hsl : sl < 72) (hn : n < 12) (F : Fr (Pcl sl) M M6) (S : SAg (aI M) (aI M6) sl n e) (H : RL M6 t tp p' 0) (h4 : mI M6 90 4 = nI sl) (h5 : mI M6 90 5 = nI e') (h6 : mI M6 90 6 = 0) (h7 : mI M6 90 7 = nI c') (he : e ≤ e') (he2 : e' ≤ 200) (hb : 3 * e' ≤ p' + 3 * c' ∧ c' ≤ 60 ∧ p' ≤ t) (k : Nat) (v6 : aI M6 96 (12 * sl + n) = nI k) (hk : k < 7) (v8 : aI M6 98 (12 * sl + n) = nI e) (v9 : aI M6 99 (12 * sl + n) = nI e') (hp : e < e' → pOK (aI M6 93) (e' - e) (200 * sl + e) 0) (hne : isTk so k = true → e < e') (hT : rTxn (aI M6) so sl n = T → rTxn (aI M6) so sl (n + 1) = T') (hd : so = 0 → sd' = (sd || decide (k = 3)) ∧ sf' = (sf || decide (k = 4))) : RCs M6 t tp so sl e' (p', n + 1, c', sd', sf', T') := by
  obtain ⟨g1, g2, g3, g4, g5, g6⟩ := h
  have g3 : RCo (aI M) so sl n e := g3
  have g4 : rTxn (aI M) so sl n = T := g4
  have nn : ∀ x y : Nat, x < 7 → y < 7 → (nI x = nI y ↔ x = y) := fun x y hx hy => nI_eq (by omega) (by omega)
  refine ⟨H, ⟨h4, h5, h6, h7⟩, fun i hi => ?_, hT (by rw [rTxn_sa g3 S (by omega) (by omega)]; exact g4), hb, fun z => ?_⟩
  · by_cases y : i = n
    · subst y
      refine ⟨⟨e, e', v8, v9, he, Nat.le_refl _, hp⟩, fun z w => ?_, fun z w => ?_⟩
      · rw [v8, v9]
        rw [v6] at w
        have : k = 0 := (nn k 0 hk (by decide)).mp w
        have := hne (by unfold isTk; rw [if_neg (by omega)]; exact decide_eq_true this)
        exact fun y => by have := (nI_eq (by omega) (by omega)).mp y; omega
      · rw [v8, v9]
        rw [v6] at w
        have : k = 1 := (nn k 1 hk (by decide)).mp w
        have := hne (by unfold isTk; rw [if_pos z]; exact decide_eq_true this)
        exact fun y => by have := (nI_eq (by omega) (by omega)).mp y; omega
    · have hi : i < n + 1 := hi
      exact (g3.sa S).mono he i (by omega)
  · obtain ⟨d1, d2⟩ := g6 z
    obtain ⟨s1, s2⟩ := hd z
    have tl : ∀ x : Nat, x < 7 → (tld (aI M6) sl (n + 1) (nI x) ↔ tld (aI M) sl n (nI x) ∨ k = x) := by
      intro x hx
      constructor
      · rintro ⟨i, i1, i2⟩
        by_cases y : i = n
        · subst y; rw [v6] at i2; exact Or.inr ((nn k x hk hx).mp i2)
        · exact Or.inl ⟨i, by omega, by rw [← (S.1 i (by omega)).1]; exact i2⟩
      · rintro (⟨i, i1, i2⟩ | y)
        · exact ⟨i, by omega, by rw [(S.1 i i1).1]; exact i2⟩
        · exact ⟨n, by omega, by rw [v6, y]⟩
    show (sd' = true ↔ tld (aI M6) sl (n + 1) 3) ∧ (sf' = true ↔ tld (aI M6) sl (n + 1) 4)
    rw [show (3 : Int32) = nI 3 from rfl, show (4 : Int32) = nI 4 from rfl, tl 3 (by decide), tl 4 (by decide), s1, s2, Bool.or_eq_true, Bool.or_eq_true, decide_eq_true_iff, decide_eq_true_iff]
    exact ⟨or_congr d1 Iff.rfl, or_congr d2 Iff.rfl⟩
