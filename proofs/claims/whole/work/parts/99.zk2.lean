/-! the class: a clause -/
theorem stp_cg {F F' : Nat → Int32} {c j : Nat} (hj : j < c) (hc : c ≤ 60) (e : ∀ x, x < 5 * c → F' x = F x) (s : Int32) : stp F' s (nI (5 * j)) = stp F s (nI (5 * j)) := by
  unfold stp
  rw [nI_clamp (by omega), e _ (by omega), e _ (by omega), e _ (by omega), e _ (by omega), e _ (by omega)]
theorem Go_cg {F F' : Nat → Int32} {c : Nat} (hc : c ≤ 60) (hC : CodeOK F c) (e : ∀ x, x < 5 * c → F' x = F x) {s : Int32} : ∀ (i : Nat) (a b : Int32), tgt c a → Go F s i a b → Go F' s i a b
  | 0, a, b, _, h => h
  | i + 1, a, b, ha, h => by
    obtain ⟨j, hj, rfl⟩ : ∃ j, j < c ∧ a = nI (5 * j) := by
      rcases ha with rfl | rfl | ha
      · exact absurd (by decide) h.1
      · exact absurd (by decide) h.1
      · exact ha
    refine ⟨h.1, ?_⟩
    rw [stp_cg hj hc e s]
    refine Go_cg hc hC e i _ b ?_ h.2
    unfold stp
    rw [nI_clamp (by omega)]
    split
    · exact (hC j hj).1
    · exact (hC j hj).2
def CEn (F : Nat → Int32) (c : Nat) (e : Int32) (P : Prd) : Prop := tgt c e ∧ ∀ s, ∃ i, i ≤ c ∧ Go F s i e (if P s = true then -1 else -2)
theorem tgt_mono {c c' : Nat} (h : c ≤ c') {x : Int32} (q : tgt c x) : tgt c' x := by
  rcases q with q | q | ⟨j, a, b⟩
  · exact Or.inl q
  · exact Or.inr (Or.inl q)
  · exact Or.inr (Or.inr ⟨j, by omega, b⟩)
theorem CEn.cg {F F' : Nat → Int32} {c c' : Nat} (hc : c ≤ 60) (hC : CodeOK F c) (e : ∀ x, x < 5 * c → F' x = F x) (h' : c ≤ c') {x : Int32} {P : Prd} (h : CEn F c x P) : CEn F' c' x P := by
  refine ⟨tgt_mono h' h.1, fun s => ?_⟩
  obtain ⟨i, hi, g⟩ := h.2 s
  exact ⟨i, by omega, Go_cg hc hC e i _ _ h.1 g⟩
theorem CEn.ev {F : Nat → Int32} {c : Nat} {e : Int32} {P : Prd} (h : CEn F c e P) (s : Int32) : evC F s c e = P s := by
  obtain ⟨i, hi, g⟩ := h.2 s
  have := g.ev (c - i)
  rw [show c - i + i = c by omega] at this
  rw [this]
  cases P s
  · rw [if_neg Bool.false_ne_true, evC_neg _ (by decide)]; decide
  · rw [if_pos rfl, evC_neg _ (by decide)]; decide
def TnR (F U : Nat → Int32) (c : Nat) : Nat → (Int32 → Int32) → Prop
  | 0, g => ∀ s, g s = 0
  | J + 1, g => ∃ v w g', v ≤ 15 ∧ U (2 * J) = nI v ∧ CEn F c (U (2 * J + 1)) w ∧ TnR F U c J g' ∧ ∀ s, g s = g' s ||| (if w s = true then b1I v else 0)
theorem TnR.cg {F F' U U' : Nat → Int32} {c c' : Nat} (hc : c ≤ 60) (hC : CodeOK F c) (e : ∀ x, x < 5 * c → F' x = F x) (h' : c ≤ c') : ∀ (J : Nat) (g : Int32 → Int32), (∀ x, x < 2 * J → U' x = U x) → TnR F U c J g → TnR F' U' c' J g
  | 0, g, _, h => h
  | J + 1, g, u, h => by
    obtain ⟨v, w, g', h1, h2, h3, h4, h5⟩ := h
    exact ⟨v, w, g', h1, by rw [u _ (by omega)]; exact h2, by rw [u _ (by omega)]; exact h3.cg hc hC e h', TnR.cg hc hC e h' J g' (fun x hx => u x (by omega)) h4, h5⟩
/-- all that the class holds between two clauses -/
def CCs (M : ej_Mem) (t : Nat) (tp : Nat → Nat) (so wr J : Nat) (st : ClS) : Prop := CLk M t tp st.1 0 ∧ (mI M 61 6 = nI (5 * st.2.2.1) ∧ mI M 61 8 = nI (2 * J) ∧ (so = 0 → bI (mI M 61 4) 4 = st.2.2.2.1 ∧ bI (mI M 61 4) 5 = st.2.2.2.2.1)) ∧ (st.2.2.1 ≤ 60 ∧ st.1 ≤ t ∧ J ≤ st.2.1) ∧ CodeOK (aI M 62) st.2.2.1 ∧ (122 ≤ wr ∧ mC M wr = 7 ∧ mI M wr 0 = tGv st.2.2.2.2.2 ∧ mI M wr 1 = tEn st.2.2.2.2.2 ∧ mI M wr 2 = tDy st.2.2.2.2.2 ∧ mI M wr 3 = tFe st.2.2.2.2.2 ∧ mI M wr 4 = tLn st.2.2.2.2.2) ∧ CEn (aI M 62) st.2.2.1 (mI M wr 5) (tTs st.2.2.2.2.2) ∧ TnR (aI M 62) (aI M 63) st.2.2.1 J (tTu st.2.2.2.2.2)
def Pcc (wr o k : Nat) : Prop := (o = 61 ∧ (2 ≤ k ∧ k ≤ 4 ∨ k = 6 ∨ k = 8 ∨ 10 ≤ k ∧ k ≤ 12 ∨ k = 16)) ∨ (62 ≤ o ∧ o ≤ 67) ∨ o = wr
theorem pf_cc (wr : Nat) (M : ej_Mem) (p f : Nat) : Fr (Pcc wr) M (pf 61 M p f) := (pf_fr 61 M p f).mono (fun o k q => by unfold Ppf at q; unfold Pcc; omega)
theorem Pk_cc {wr lo0 : Nat} {M M' : ej_Mem} (f : Fr (Pk lo0) M M') : Fr (Pcc wr) M M' := f.mono (fun o k q => by unfold Pk at q; unfold Pcc; omega)
/-- words of moves, of gifts -/
theorem c_moveWord {D : Nat} (hD : 7 ≤ D) {M : ej_Mem} {t : Nat} {tp : Nat → Nat} {q f : Nat} (H : CLk M t tp q f) (hq : q ≤ t) : cal D jm_Clerk_moveWord [.ref 61] M = some (some (.int (if wK tp t 0 q = 7 then 0 else nI (wK tp t 0 q + 1))), M) := by
  obtain ⟨d, rfl⟩ : ∃ d, D = d + 1 := ⟨D - 1, by omega⟩
  have w := fun k hk => c_isWord (by omega : 6 ≤ d) H (k := k) hk hq (r := 3 + k) rfl
  have e : wK tp t 0 q = if stw tp t q (wd 0) = true then 0 else if stw tp t q (wd 1) = true then 1 else if stw tp t q (wd 2) = true then 2 else if stw tp t q (wd 3) = true then 3 else if stw tp t q (wd 4) = true then 4 else if stw tp t q (wd 5) = true then 5 else if stw tp t q (wd 6) = true then 6 else 7 := rfl
  rw [ca_Clerk_moveWord, eq_Clerk_moveWord_0, e]
  simp only [SW.all H.1, MR, ckk_T, deR_s, deQ_s, deQ_n, bkV_s, bkI_s, bkJ_s, bkQ_s, bkQ_n, ckb0, ckb1, ckb2, ckb3, eq_self, Nat.reduceEqDiff, Nat.reduceLeDiff, Nat.reduceLT, reduceIte, true_or, or_true, not_false_eq_true, not_true_eq_false, and_self, and_true, true_and, LIT, Int32.reduceLT, Int32.reduceLE, Int32.reduceToNatClampNeg]
  rw [show (3 : Nat) = 3 + 0 from rfl, w 0 (by decide), bkI_s]
  cases stw tp t q (wd 0) with
  | true => rfl
  | false =>
    rw [if_pos (by rfl), if_neg Bool.false_ne_true, ckk_t (SW.all H.1).2.2.1, show (4 : Nat) = 3 + 1 from rfl, w 1 (by decide), bkI_s]
    cases stw tp t q (wd 1) with
    | true => rfl
    | false =>
      rw [if_pos (by rfl), if_neg Bool.false_ne_true, ckk_t (SW.all H.1).2.2.1, show (5 : Nat) = 3 + 2 from rfl, w 2 (by decide), bkI_s]
      cases stw tp t q (wd 2) with
      | true => rfl
      | false =>
        rw [if_pos (by rfl), if_neg Bool.false_ne_true, ckk_t (SW.all H.1).2.2.1, show (6 : Nat) = 3 + 3 from rfl, w 3 (by decide), bkI_s]
        cases stw tp t q (wd 3) with
        | true => rfl
        | false =>
          rw [if_pos (by rfl), if_neg Bool.false_ne_true, ckk_t (SW.all H.1).2.2.1, show (7 : Nat) = 3 + 4 from rfl, w 4 (by decide), bkI_s]
          cases stw tp t q (wd 4) with
          | true => rfl
          | false =>
            rw [if_pos (by rfl), if_neg Bool.false_ne_true, ckk_t (SW.all H.1).2.2.1, show (8 : Nat) = 3 + 5 from rfl, w 5 (by decide), bkI_s]
            cases stw tp t q (wd 5) with
            | true => rfl
            | false =>
              rw [if_pos (by rfl), if_neg Bool.false_ne_true, ckk_t (SW.all H.1).2.2.1, show (9 : Nat) = 3 + 6 from rfl, w 6 (by decide), bkI_s]
              cases stw tp t q (wd 6) with
              | true => rfl
              | false => rfl
theorem c_giftWord {D : Nat} (hD : 7 ≤ D) {M : ej_Mem} {t : Nat} {tp : Nat → Nat} {q f : Nat} (H : CLk M t tp q f) (hq : q ≤ t) : cal D jm_Clerk_giftWord [.ref 61] M = some (some (.int (if wK tp t 1 q = 2 then 0 else nI (wK tp t 1 q + 8))), M) := by
  obtain ⟨d, rfl⟩ : ∃ d, D = d + 1 := ⟨D - 1, by omega⟩
  have w := fun k hk => c_isWord (by omega : 6 ≤ d) H (k := k) hk hq (r := 3 + k) rfl
  have e : wK tp t 1 q = if stw tp t q (wd 7) = true then 0 else if stw tp t q (wd 8) = true then 1 else 2 := rfl
  rw [ca_Clerk_giftWord, eq_Clerk_giftWord_0, e]
  simp only [SW.all H.1, MR, ckk_T, deR_s, deQ_s, deQ_n, bkV_s, bkI_s, bkJ_s, bkQ_s, bkQ_n, ckb0, ckb1, ckb2, ckb3, eq_self, Nat.reduceEqDiff, Nat.reduceLeDiff, Nat.reduceLT, reduceIte, true_or, or_true, not_false_eq_true, not_true_eq_false, and_self, and_true, true_and, LIT, Int32.reduceLT, Int32.reduceLE, Int32.reduceToNatClampNeg]
  rw [show (10 : Nat) = 3 + 7 from rfl, w 7 (by decide), bkI_s]
  cases stw tp t q (wd 7) with
  | true => rfl
  | false =>
    rw [if_pos (by rfl), if_neg Bool.false_ne_true, ckk_t (SW.all H.1).2.2.1, show (11 : Nat) = 3 + 8 from rfl, w 8 (by decide), bkI_s]
    cases stw tp t q (wd 8) with
    | true => rfl
    | false => rfl
/-- the class's number of a word -/
def wrd (so k : Nat) : Nat := if so = 1 then k + 8 else k + 1
theorem c_word {D : Nat} (hD : 8 ≤ D) {M : ej_Mem} {t : Nat} {tp : Nat → Nat} {so wr J p n c : Nat} {sd sf : Bool} {T : Txt} (h : CCs M t tp so wr J (p, n, c, sd, sf, T)) (hs : so < 2) (hn : n ≤ 12) : ∃ M' x, cal D jm_Clerk_clauseWord [.ref 61, .int (nI so), .int (nI n)] M = some (some (.int x), M') ∧ Fr (Pcc wr) M M' ∧
    (if wK tp t so (blk tp t p) = wN so then (x = 0 ∧ CDd M' t tp (flt 0 (blk tp t p))) else if n = 12 ∨ (so = 0 ∧ ((wK tp t so (blk tp t p) = 3 ∧ sd = true) ∨ (wK tp t so (blk tp t p) = 4 ∧ sf = true))) then (x = 0 ∧ CDd M' t tp (flt 4 (blk tp t p))) else (x = nI (wrd so (wK tp t so (blk tp t p))) ∧ CCs M' t tp so wr J (lwk tp t (blk tp t p), n, c, if so = 0 then sd || decide (wK tp t so (blk tp t p) = 3) else sd, if so = 0 then sf || decide (wK tp t so (blk tp t p) = 4) else sf, T))) := by
  obtain ⟨d, rfl⟩ : ∃ d, D = d + 1 := ⟨D - 1, by omega⟩
  obtain ⟨H, ⟨h6, h8, hse⟩, ⟨B2, B3, BJ⟩, hC, hW, hE, hTn⟩ := h
  have H : CLk M t tp p 0 := H
  have B3 : p ≤ t := B3
  have TP := H.2.2.1.1
  have t4 := TP.1
  have b2 : blk tp t p ≤ t := bl_le tp t 401 p B3
  have fl := fwd_le tp t (blk tp t p) (wB so) (wN so) 0
  have wl : wN so ≤ 7 := by unfold wN; split <;> decide
  have H1 := H.pf (blk tp t p) 0
  have F1 := pf_cc wr M (blk tp t p) 0
  have s4 : mI (pf 61 M (blk tp t p) 0) 61 4 = mI M 61 4 := (pf_fr 61 M _ _).i (by unfold Ppf; omega)
  have L := c_look (by omega : 1 ≤ d) H (by omega)
  have aM1 : aI (pf 61 M (blk tp t p) 0) = aI M := rfl
  have cM1 : mC (pf 61 M (blk tp t p) 0) = mC M := rfl
  have iM1 : ∀ o k, ¬ Ppf 61 o k → mI (pf 61 M (blk tp t p) 0) o k = mI M o k := fun o k q => (pf_fr 61 M _ _).i q
  rw [show fwd tp t (blk tp t p) (wB so) (wN so) 0 = wK tp t so (blk tp t p) from rfl] at fl
  have code : ∃ y, (if nI so = 0 then bkI (cal d jm_Clerk_moveWord [.ref 61] (pf 61 M (blk tp t p) 0)) fun x6 M5 => rn jm_Clerk_clauseWord (cal d) 20 [some (.ref 61), some (.int (nI so)), some (.int (nI n)), none, none] [.int x6] M5 else bkI (cal d jm_Clerk_giftWord [.ref 61] (pf 61 M (blk tp t p) 0)) fun x4 M3 => rn jm_Clerk_clauseWord (cal d) 20 [some (.ref 61), some (.int (nI so)), some (.int (nI n)), none, none] [.int x4] M3) = rn jm_Clerk_clauseWord (cal d) 20 [some (.ref 61), some (.int (nI so)), some (.int (nI n)), none, none] [.int (nI y)] (pf 61 M (blk tp t p) 0) ∧ y = (if wK tp t so (blk tp t p) = wN so then 0 else wrd so (wK tp t so (blk tp t p))) := by
    have s01 : so = 0 ∨ so = 1 := by omega
    rcases s01 with rfl | rfl
    · refine ⟨_, ?_, rfl⟩
      rw [if_pos (by rfl), c_moveWord (by omega) H1 b2, bkI_s]
      by_cases z : wK tp t 0 (blk tp t p) = 7
      · rw [if_pos z, if_pos (show wK tp t 0 (blk tp t p) = wN 0 from z)]; rfl
      · rw [if_neg z, if_neg (show ¬ wK tp t 0 (blk tp t p) = wN 0 from z)]; rfl
    · refine ⟨_, ?_, rfl⟩
      rw [if_neg (by decide), c_giftWord (by omega) H1 b2, bkI_s]
      by_cases z : wK tp t 1 (blk tp t p) = 2
      · rw [if_pos z, if_pos (show wK tp t 1 (blk tp t p) = wN 1 from z)]; rfl
      · rw [if_neg z, if_neg (show ¬ wK tp t 1 (blk tp t p) = wN 1 from z)]; rfl
  rw [ca_Clerk_clauseWord, eq_Clerk_clauseWord_0, ckk_t (SW.all H.1).2.2.1, L, bkI_s]
  obtain ⟨y, ey, hy⟩ := code
  have ck : ∀ (K : Option ej_R), ckk (mC (pf 61 M (blk tp t p) 0) 61 = 0) K = K := fun K => ckk_t (SW.all H1.1).2.2.1 K
  simp only [ck]
  rw [ey]
  generalize hk : wK tp t so (blk tp t p) = k at *
  have yl : y ≤ 9 := by
    rw [hy]
    by_cases z : k = wN so
    · rw [if_pos z]; omega
    · rw [if_neg z]
      unfold wrd
      by_cases s : so = 1
      · have : wN so = 2 := by unfold wN; rw [if_pos s]
        rw [if_pos s]; omega
      · rw [if_neg s]; omega
  generalize hM1 : pf 61 M (blk tp t p) 0 = M1 at *
  have ny : ∀ v : Nat, v < 16 → (nI y = nI v ↔ y = v) := fun v hv => nI_eq (by omega) (by omega)
  have sec : ∃ b : Bool, rn jm_Clerk_clauseWord (cal d) 20 [some (.ref 61), some (.int (nI so)), some (.int (nI n)), none, none] [.int (nI y)] M1 = rn jm_Clerk_clauseWord (cal d) 47 [some (.ref 61), some (.int (nI so)), some (.int (nI n)), some (.int (nI y)), none] [.int (b2i b)] M1 ∧ b = (decide (y = 4 ∨ y = 5) && bI (mI M 61 4) y) := by
    rw [eq_Clerk_clauseWord_20]
    have tail : (y = 4 ∨ y = 5) → ∃ b : Bool, rn jm_Clerk_clauseWord (cal d) 31 [some (.ref 61), some (.int (nI so)), some (.int (nI n)), some (.int (nI y)), none] [] M1 = rn jm_Clerk_clauseWord (cal d) 47 [some (.ref 61), some (.int (nI so)), some (.int (nI n)), some (.int (nI y)), none] [.int (b2i b)] M1 ∧ b = (decide (y = 4 ∨ y = 5) && bI (mI M 61 4) y) := by
      intro hh
      rw [eq_Clerk_clauseWord_31, ck, s4, decide_eq_true hh, Bool.true_and]
      cases hb : bI (mI M 61 4) y with
      | false => rw [if_pos ((low_0 (by omega)).mpr hb), eq_Clerk_clauseWord_46]; exact ⟨false, rfl, rfl⟩
      | true => rw [if_neg (fun z => by rw [(low_0 (by omega)).mp z] at hb; cases hb)]; exact ⟨true, rfl, rfl⟩
    by_cases z4 : y = 4
    · rw [if_pos (show nI y = 4 from (ny 4 (by decide)).mpr z4)]; exact tail (Or.inl z4)
    · rw [if_neg (show ¬ nI y = 4 from fun z => z4 ((ny 4 (by decide)).mp z))]
      by_cases z5 : y = 5
      · rw [if_pos (show nI y = 5 from (ny 5 (by decide)).mpr z5)]; exact tail (Or.inr z5)
      · rw [if_neg (show ¬ nI y = 5 from fun z => z5 ((ny 5 (by decide)).mp z)), eq_Clerk_clauseWord_46]
        exact ⟨false, rfl, by rw [decide_eq_false (by omega)]; rfl⟩
  obtain ⟨b, eb, hb⟩ := sec
  rw [eb, eq_Clerk_clauseWord_47]
  -- the end: the word is counted, and gone past
  have e79 : ∀ (M2 : ej_Mem) (g : Nat), CLk M2 t tp (blk tp t p) g → (∀ o k, ¬ (o = 61 ∧ (k = 2 ∨ k = 3)) → mI M2 o k = mI M1 o k) → rn jm_Clerk_clauseWord (cal d) 79 [some (.ref 61), some (.int (nI so)), some (.int (nI n)), some (.int (nI y)), some (.int (b2i b))] [] M2 = some (some (.int (nI y)), pf 61 (setI M2 61 4 (mI M 61 4 ||| (1 <<< (nI y &&& 31)))) (lwk tp t (blk tp t p)) g) := by
    intro M2 g H2 hi
    have q4 : mI M2 61 4 = mI M 61 4 := by rw [hi 61 4 (by omega)]; exact s4
    rw [eq_Clerk_clauseWord_79]
    simp only [SW.all H2.1, q4, MR, ckk_T, deR_s, deQ_s, deQ_n, bkV_s, bkI_s, bkJ_s, bkQ_s, bkQ_n, ckb0, ckb1, ckb2, ckb3, eq_self, Nat.reduceEqDiff, Nat.reduceLeDiff, Nat.reduceLT, reduceIte, true_or, or_true, not_false_eq_true, not_true_eq_false, and_self, and_true, true_and, LIT, Int32.reduceLT, Int32.reduceLE, Int32.reduceToNatClampNeg]
    have H3 : CLk (setI M2 61 4 (mI M 61 4 ||| (1 <<< (nI y &&& 31)))) t tp (blk tp t p) g := H2.keep (Fr.setI (P := fun o k => 62 ≤ o ∨ (o = 61 ∧ 4 ≤ k)) _ _ (by omega)) (fun o k q => q)
    rw [c_skipWord (by omega) H3 (by omega), bkV_s]
  have e72 : rn jm_Clerk_clauseWord (cal d) 72 [some (.ref 61), some (.int (nI so)), some (.int (nI n)), some (.int (nI y)), some (.int (b2i b))] [] M1 = some (some (.int 0), pf 61 M1 (blk tp t p) (orF 0 (flt 4 (blk tp t p)))) := by
    rw [eq_Clerk_clauseWord_72, ck, c_fail (by omega) H1 (by decide) (x := 4) (c := 4) rfl, bkV_s]
  by_cases zk : k = wN so
  · rw [if_pos zk] at hy
    simp only [if_pos zk]
    subst hy
    rw [if_pos (by rfl), ck, c_fail (by omega) H1 (by decide) (x := 0) (c := 0) rfl, bkV_s]
    have H2 := H1.pf (blk tp t p) (orF 0 (flt 0 (blk tp t p)))
    rw [e79 _ _ H2 (fun o k q => (pf_fr 61 M1 _ _).i (by unfold Ppf; omega))]
    have H3 : CLk (setI (pf 61 M1 (blk tp t p) (orF 0 (flt 0 (blk tp t p)))) 61 4 (mI M 61 4 ||| (1 <<< (nI 0 &&& 31)))) t tp (blk tp t p) (orF 0 (flt 0 (blk tp t p))) := H2.keep (Fr.setI (P := fun o k => 62 ≤ o ∨ (o = 61 ∧ 4 ≤ k)) _ _ (by omega)) (fun o k q => q)
    refine ⟨_, _, rfl, ((F1.trans (pf_cc wr _ _ _)).trans (Fr.setI (P := Pcc wr) _ _ (by unfold Pcc; omega))).trans (pf_cc wr _ _ _), rfl, flt_pos 0 _, by show flt 0 _ < _; unfold flt; omega, _, lw_le tp t 401 _ b2, H3.pf _ _⟩
  · rw [if_neg zk] at hy
    simp only [if_neg zk]
    have yn0 : y ≠ 0 := by rw [hy]; unfold wrd; split <;> omega
    rw [if_neg (show ¬ nI y = 0 from fun z => yn0 ((ny 0 (by decide)).mp z))]
    have dead4 : ∃ M' x, rn jm_Clerk_clauseWord (cal d) 72 [some (.ref 61), some (.int (nI so)), some (.int (nI n)), some (.int (nI y)), some (.int (b2i b))] [] M1 = some (some (.int x), M') ∧ Fr (Pcc wr) M M' ∧ x = 0 ∧ CDd M' t tp (flt 4 (blk tp t p)) := ⟨_, _, e72, F1.trans (pf_cc wr _ _ _), rfl, flt_pos 4 _, by show flt 4 _ < _; unfold flt; omega, _, b2, H1.pf _ _⟩
    have bt : so = 0 → (b = true ↔ (k = 3 ∧ sd = true) ∨ (k = 4 ∧ sf = true)) := by
      intro s0
      have w1 : y = k + 1 := by rw [hy]; unfold wrd; rw [if_neg (by omega)]
      obtain ⟨e4, e5⟩ := hse s0
      have e4 : bI (mI M 61 4) 4 = sd := e4
      have e5 : bI (mI M 61 4) 5 = sf := e5
      rw [hb, Bool.and_eq_true, decide_eq_true_iff]
      constructor
      · rintro ⟨q | q, r⟩
        · rw [q, e4] at r; exact Or.inl ⟨by omega, r⟩
        · rw [q, e5] at r; exact Or.inr ⟨by omega, r⟩
      · rintro (⟨q, r⟩ | ⟨q, r⟩)
        · have : y = 4 := by omega
          rw [this, e4]; exact ⟨Or.inl rfl, r⟩
        · have : y = 5 := by omega
          rw [this, e5]; exact ⟨Or.inr rfl, r⟩
    have b1 : so = 1 → b = false := by
      intro s1
      have w1 : y = k + 8 := by rw [hy]; unfold wrd; rw [if_pos s1]
      rw [hb, decide_eq_false (by omega)]; rfl
    by_cases z12 : n = 12
    · have cond : n = 12 ∨ so = 0 ∧ (k = 3 ∧ sd = true ∨ k = 4 ∧ sf = true) := Or.inl z12
      simp only [if_pos cond]
      rw [if_pos (show (12 : Int32) ≤ nI n by rw [z12]; decide)]
      exact dead4
    · rw [if_neg (show ¬ (12 : Int32) ≤ nI n from nI_ge (b := 12) (by omega) (by decide))]
      cases b with
      | true =>
        have s0 : so = 0 := by
          by_cases q : so = 1
          · exact absurd (b1 q) (by decide)
          · omega
        have cond : n = 12 ∨ so = 0 ∧ (k = 3 ∧ sd = true ∨ k = 4 ∧ sf = true) := Or.inr ⟨s0, (bt s0).mp rfl⟩
        simp only [if_pos cond]
        rw [if_neg (by decide)]
        exact dead4
      | false =>
        have cond : ¬ (n = 12 ∨ so = 0 ∧ (k = 3 ∧ sd = true ∨ k = 4 ∧ sf = true)) := by
          rintro (q | ⟨s0, q⟩)
          · exact z12 q
          · exact Bool.false_ne_true ((bt s0).mpr q)
        simp only [if_neg cond]
        rw [if_pos (by rfl), e79 M1 0 H1 (fun _ _ _ => rfl)]
        · have H3 : CLk (setI M1 61 4 (mI M 61 4 ||| (1 <<< (nI y &&& 31)))) t tp (blk tp t p) 0 := H1.keep (Fr.setI (P := fun o k => 62 ≤ o ∨ (o = 61 ∧ 4 ≤ k)) _ _ (by omega)) (fun o k q => q)
          have H4 := H3.pf (lwk tp t (blk tp t p)) 0
          have ll := lw_le tp t 401 (blk tp t p) b2
          have f4 : mI (pf 61 (setI M1 61 4 (mI M 61 4 ||| (1 <<< (nI y &&& 31)))) (lwk tp t (blk tp t p)) 0) 61 4 = mI M 61 4 ||| (1 <<< (nI y &&& 31)) := by rw [(pf_fr 61 _ _ _).i (by unfold Ppf; omega), gI_s]
          have fo : ∀ o k, ¬ (o = 61 ∧ (k = 2 ∨ k = 3 ∨ k = 4)) → mI (pf 61 (setI M1 61 4 (mI M 61 4 ||| (1 <<< (nI y &&& 31)))) (lwk tp t (blk tp t p)) 0) o k = mI M o k := fun o k q => by rw [(pf_fr 61 _ _ _).i (by unfold Ppf; omega), gI_n (by omega), ← hM1, (pf_fr 61 M _ _).i (by unfold Ppf; omega)]
          have aa : aI (pf 61 (setI M1 61 4 (mI M 61 4 ||| (1 <<< (nI y &&& 31)))) (lwk tp t (blk tp t p)) 0) = aI M := aM1
          have cc : mC (pf 61 (setI M1 61 4 (mI M 61 4 ||| (1 <<< (nI y &&& 31)))) (lwk tp t (blk tp t p)) 0) = mC M := cM1
          have FF := (F1.trans (Fr.setI (P := Pcc wr) M1 (mI M 61 4 ||| (1 <<< (nI y &&& 31))) (show Pcc wr 61 4 by unfold Pcc; omega))).trans (pf_cc wr _ (lwk tp t (blk tp t p)) 0)
          refine ⟨_, _, rfl, FF, by rw [hy], ?_⟩
          generalize pf 61 (setI M1 61 4 (mI M 61 4 ||| (1 <<< (nI y &&& 31)))) (lwk tp t (blk tp t p)) 0 = M5 at *
          obtain ⟨hw1, hw2, hw3, hw4, hw5, hw6, hw7⟩ := hW
          refine ⟨H4, ⟨by rw [fo _ _ (by omega)]; exact h6, by rw [fo _ _ (by omega)]; exact h8, fun s0 => ?_⟩, ⟨B2, ll, BJ⟩, by rw [aa]; exact hC, ⟨hw1, by rw [cc]; exact hw2, by rw [fo _ _ (by omega)]; exact hw3, by rw [fo _ _ (by omega)]; exact hw4, by rw [fo _ _ (by omega)]; exact hw5, by rw [fo _ _ (by omega)]; exact hw6, by rw [fo _ _ (by omega)]; exact hw7⟩, by rw [aa, fo _ _ (by omega)]; exact hE, by rw [aa]; exact hTn⟩
          obtain ⟨e4, e5⟩ := hse s0
          have w1 : y = k + 1 := by rw [hy]; unfold wrd; rw [if_neg (by omega)]
          show bI (mI M5 61 4) 4 = (if so = 0 then sd || decide (k = 3) else sd) ∧ bI (mI M5 61 4) 5 = (if so = 0 then sf || decide (k = 4) else sf)
          rw [f4, bI_or, bI_or, e4, e5, bI_shl (by omega) (by decide), bI_shl (by omega) (by decide), if_pos s0, if_pos s0]
          refine ⟨?_, ?_⟩
          · congr 1; apply decide_eq_decide.mpr; omega
          · congr 1; apply decide_eq_decide.mpr; omega
