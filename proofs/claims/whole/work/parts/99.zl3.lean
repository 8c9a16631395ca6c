/-! the class: a clause, from its word on -/
theorem CEn_t (F : Nat → Int32) (c : Nat) : CEn F c (-1) (fun _ => true) := ⟨Or.inl rfl, fun s => ⟨0, Nat.zero_le _, rfl⟩⟩
theorem CEn_f (F : Nat → Int32) (c : Nat) : CEn F c (-2) (fun _ => false) := ⟨Or.inr (Or.inl rfl), fun s => ⟨0, Nat.zero_le _, rfl⟩⟩
/-- what a test leaves of the code -/
theorem tst_code {M M1 : ej_Mem} {t : Nat} {tp : Nat → Nat} {c p' c' : Nat} {yes no x : Int32} {w Py Pn : Prd} (hc : c ≤ 60) (hC : CodeOK (aI M 62) c) (hy : CEn (aI M 62) c yes Py) (hn : CEn (aI M 62) c no Pn) (h : TstC M M1 t tp c yes no (.inr (p', w, c')) x) : c < c' ∧ c' ≤ 60 ∧ (∀ y, y < 5 * c → aI M1 62 y = aI M 62 y) ∧ CodeOK (aI M1 62) c' ∧ CEn (aI M1 62) c' x (fun s => if w s = true then Py s else Pn s) := by
  obtain ⟨F, rfl, H, h6, lt, le, hp, G, tg⟩ := h
  have ag : ∀ y, y < 5 * c → aI M1 62 y = aI M 62 y := fun y hy' => F.a (by unfold Pk; omega)
  have hy' := hy.cg (c' := c') hc hC ag (by omega)
  have hn' := hn.cg (c' := c') hc hC ag (by omega)
  refine ⟨lt, le, ag, fun i hi => ?_, Or.inr (Or.inr ⟨c, lt, rfl⟩), fun s => ?_⟩
  · by_cases z : i < c
    · rw [ag _ (by omega), ag _ (by omega)]
      exact ⟨tgt_mono (by omega) (hC i z).1, tgt_mono (by omega) (hC i z).2⟩
    · have one : ∀ k, (k = 5 * i + 3 ∨ k = 5 * i + 4) → tgt c' (aI M1 62 k) := by
        intro k hk
        rcases tg i (by omega) hi k hk with ⟨j, j1, j2, j3⟩ | q | q
        · exact Or.inr (Or.inr ⟨j, j2, j3⟩)
        · rw [q]; exact hy'.1
        · rw [q]; exact hn'.1
      exact ⟨one _ (Or.inl rfl), one _ (Or.inr rfl)⟩
  · obtain ⟨i, hi, g⟩ := G s
    have old : ∀ {e : Int32} {P : Prd}, CEn (aI M 62) c e P → ∃ j, j ≤ c ∧ Go (aI M1 62) s j e (if P s = true then -1 else -2) := by
      intro e P q
      obtain ⟨j, hj, gj⟩ := q.2 s
      exact ⟨j, hj, Go_cg hc hC ag j _ _ q.1 gj⟩
    cases hw : w s with
    | true =>
      rw [hw, if_pos rfl] at g
      obtain ⟨j, hj, gj⟩ := old hy
      refine ⟨i + j, by omega, ?_⟩
      show Go _ s (i + j) _ (if (if w s = true then Py s else Pn s) = true then -1 else -2)
      rw [hw, if_pos rfl]
      exact g.trans gj
    | false =>
      rw [hw, if_neg Bool.false_ne_true] at g
      obtain ⟨j, hj, gj⟩ := old hn
      refine ⟨i + j, by omega, ?_⟩
      show Go _ s (i + j) _ (if (if w s = true then Py s else Pn s) = true then -1 else -2)
      rw [hw, if_neg Bool.false_ne_true]
      exact g.trans gj
def ClC (M M' : ej_Mem) (t : Nat) (tp : Nat → Nat) (so wr : Nat) (r : Nat ⊕ ClS) : Prop := Fr (Pcc wr) M M' ∧ match r with
  | .inl g => CDd M' t tp g
  | .inr st' => ∃ J', CCs M' t tp so wr J' st'
theorem CDd.wr {M : ej_Mem} {t : Nat} {tp : Nat → Nat} {g : Nat} (h : CDd M t tp g) {o k : Nat} (ho : 62 ≤ o) (v : Int32) : CDd (setI M o k v) t tp g := by
  obtain ⟨g0, gb, p, hp, H⟩ := h
  exact ⟨g0, gb, p, hp, H.keep (Fr.setI (P := fun o k => 62 ≤ o ∨ (o = 61 ∧ 4 ≤ k)) _ _ (Or.inl ho)) (fun o k q => q)⟩
/-- one field of the writ is set; all else that a clause rests on stays -/
theorem CCs.fld {M M1 : ej_Mem} {t : Nat} {tp : Nat → Nat} {so wr J p n c p' : Nat} {sd sf : Bool} {T T' : Txt} (h : CCs M t tp so wr J (p, n, c, sd, sf, T)) (hpf : ∃ f, M1 = pf 61 M p' f) (H1 : CLk M1 t tp p' 0) (hp' : p' ≤ t) (k : Nat) (v : Int32) (hk : k < 5) (e0 : tGv T' = if k = 0 then v else tGv T) (e1 : tEn T' = if k = 1 then v else tEn T) (e2 : tDy T' = if k = 2 then v else tDy T) (e3 : tFe T' = if k = 3 then v else tFe T) (e4 : tLn T' = if k = 4 then v else tLn T) (e5 : tTs T' = tTs T) (e6 : tTu T' = tTu T) : Fr (Pcc wr) M (setI M1 wr k v) ∧ CCs (setI M1 wr k v) t tp so wr J (p', n + 1, c, sd, sf, T') := by
  obtain ⟨f, rfl⟩ := hpf
  obtain ⟨H, ⟨h6, h8, hse⟩, ⟨B2, B3, BJ⟩, hC, ⟨w1, w2, w3, w4, w5, w6, w7⟩, hE, hTn⟩ := h
  have fo : ∀ o j, ¬ (o = 61 ∧ (j = 2 ∨ j = 3)) → ¬ (o = wr ∧ j = k) → mI (setI (pf 61 M p' f) wr k v) o j = mI M o j := fun o j q z => by rw [gI_n z, (pf_fr 61 M _ _).i (by unfold Ppf; omega)]
  have fw : ∀ j x, j < 5 → mI M wr j = x → mI (setI (pf 61 M p' f) wr k v) wr j = if k = j then v else x := by
    intro j x hj hx
    by_cases z : k = j
    · subst z; rw [if_pos rfl, gI_s]
    · rw [if_neg z, fo _ _ (by omega) (by omega)]; exact hx
  have w3 : mI M wr 0 = tGv T := w3
  have w4 : mI M wr 1 = tEn T := w4
  have w5 : mI M wr 2 = tDy T := w5
  have w6 : mI M wr 3 = tFe T := w6
  have w7 : mI M wr 4 = tLn T := w7
  refine ⟨(pf_cc wr M p' f).trans (Fr.setI (P := Pcc wr) _ _ (Or.inr (Or.inr rfl))), H1.keep (Fr.setI (P := fun o k => 62 ≤ o ∨ (o = 61 ∧ 4 ≤ k)) _ _ (by omega)) (fun o k q => q), ⟨by rw [fo _ _ (by omega) (by omega)]; exact h6, by rw [fo _ _ (by omega) (by omega)]; exact h8, by rw [fo _ _ (by omega) (by omega)]; exact hse⟩, ⟨B2, hp', by have BJ : J ≤ n := BJ; show J ≤ n + 1; omega⟩, hC, ⟨w1, w2, ?_, ?_, ?_, ?_, ?_⟩, ?_, ?_⟩
  · show mI _ wr 0 = tGv T'; rw [fw 0 _ (by omega) w3, e0]
  · show mI _ wr 1 = tEn T'; rw [fw 1 _ (by omega) w4, e1]
  · show mI _ wr 2 = tDy T'; rw [fw 2 _ (by omega) w5, e2]
  · show mI _ wr 3 = tFe T'; rw [fw 3 _ (by omega) w6, e3]
  · show mI _ wr 4 = tLn T'; rw [fw 4 _ (by omega) w7, e4]
  · rw [fo _ _ (by omega) (by omega)]
    show CEn (aI M 62) c _ (tTs T')
    rw [e5]; exact hE
  · show TnR (aI M 62) (aI M 63) c J (tTu T')
    rw [e6]; exact hTn
/-- IF, or not -/
theorem c_skipIf {D : Nat} (hD : 7 ≤ D) {M : ej_Mem} {t : Nat} {tp : Nat → Nat} {p f : Nat} (H : CLk M t tp p f) (hp : p ≤ t) (hf : f < 2 ^ 30) : cal D jm_Clerk_skipIf [.ref 61] M = (if f = 0 then (if stw tp t (blk tp t p) (wd 13) = true then some (some (.int 1), pf 61 M (lwk tp t (blk tp t p)) 0) else some (some (.int 0), pf 61 M (blk tp t p) 0)) else some (some (.int 0), pf 61 M (blk tp t p) f)) := by
  obtain ⟨d, rfl⟩ : ∃ d, D = d + 1 := ⟨D - 1, by omega⟩
  have t4 := H.2.2.1.1.1
  have b2 : blk tp t p ≤ t := bl_le tp t 401 p hp
  have H1 := H.pf (blk tp t p) f
  rw [ca_Clerk_skipIf, eq_Clerk_skipIf_0, ckk_t (SW.all H.1).2.2.1, c_look (by omega) H (by omega), bkI_s, ckk_t (SW.all H1.1).2.2.1, H1.2.2.2.2]
  by_cases z : f = 0
  · subst z
    rw [if_pos rfl, if_pos (by rfl)]
    simp only [SW.all H1.1, MR, ckk_T, deR_s, deQ_s, deQ_n, bkV_s, bkI_s, bkJ_s, bkQ_s, bkQ_n, ckb0, ckb1, ckb2, ckb3, eq_self, Nat.reduceEqDiff, Nat.reduceLeDiff, Nat.reduceLT, reduceIte, true_or, or_true, not_false_eq_true, not_true_eq_false, and_self, and_true, true_and, LIT, Int32.reduceLT, Int32.reduceLE, Int32.reduceToNatClampNeg]
    rw [c_isWord (by omega : 6 ≤ d) H1 (k := 13) (by decide) b2 (r := 16) rfl, bkI_s]
    cases stw tp t (blk tp t p) (wd 13) with
    | true => rw [if_neg (by decide), if_pos rfl, ckk_t (SW.all H1.1).2.2.1, c_skipWord (by omega) H1 (by omega), bkV_s, pf_pf]
    | false => rw [if_pos (by rfl), if_neg Bool.false_ne_true]
  · rw [if_neg z, if_neg (show ¬ nI f = 0 from fun q => z ((nI_eq (by omega) (by omega)).mp (show nI f = nI 0 from q)))]; rfl
def atM (M : ej_Mem) (J : Nat) (v x : Int32) : ej_Mem := setI (setA (setA M 63 (2 * J) v) 63 (2 * J + 1) x) 61 8 (nI (2 * J + 2))
theorem c_addTurn {D : Nat} (hD : 1 ≤ D) {M : ej_Mem} (hW : SW M) {J : Nat} (hJ : J < 12) (h8 : mI M 61 8 = nI (2 * J)) (v x : Int32) : cal D jm_Clerk_addTurn [.ref 61, .int v, .int x] M = some (none, atM M J v x) := by
  obtain ⟨d, rfl⟩ : ∃ d, D = d + 1 := ⟨D - 1, by omega⟩
  rw [ca_Clerk_addTurn, eq_Clerk_addTurn_0]
  simp only [SW.all hW, h8, MR, ckk_T, deR_s, deQ_s, deQ_n, bkV_s, bkI_s, bkJ_s, bkQ_s, bkQ_n, ckb0, ckb1, ckb2, ckb3, eq_self, Nat.reduceEqDiff, Nat.reduceLeDiff, Nat.reduceLT, reduceIte, true_or, or_true, not_false_eq_true, not_true_eq_false, and_self, and_true, true_and, LIT, Int32.reduceLT, Int32.reduceLE, Int32.reduceToNatClampNeg]
  rw [nI_add2, if_neg (show ¬ Int32.ofNat 24 < nI (2 * J + 2) from nI_nlt (by omega) (by decide)), ckb_n (by omega) (by decide), show nI (2 * J) + 1 = nI (2 * J + 1) from nI_add _ 1, ckb_n (by omega) (by decide), nI_clamp (by omega), nI_clamp (by omega)]
  rfl
theorem atM_fr (M : ej_Mem) (J : Nat) (v x : Int32) (wr : Nat) : Fr (Pcc wr) M (atM M J v x) := ((Fr.setA (P := Pcc wr) _ _ (Or.inr (Or.inl ⟨by decide, by decide⟩))).trans (Fr.setA (P := Pcc wr) _ _ (Or.inr (Or.inl ⟨by decide, by decide⟩)))).trans (Fr.setI (P := Pcc wr) _ _ (by unfold Pcc; omega))
theorem atM_lk {M : ej_Mem} {t : Nat} {tp : Nat → Nat} {p f : Nat} (H : CLk M t tp p f) (J : Nat) (v x : Int32) : CLk (atM M J v x) t tp p f := H.keep (((Fr.setA (P := fun o k => 62 ≤ o ∨ (o = 61 ∧ 4 ≤ k)) _ _ (by omega)).trans (Fr.setA (P := fun o k => 62 ≤ o ∨ (o = 61 ∧ 4 ≤ k)) _ _ (by omega))).trans (Fr.setI (P := fun o k => 62 ≤ o ∨ (o = 61 ∧ 4 ≤ k)) _ _ (by omega))) (fun o k q => q)
/-- a turn more -/
theorem CCs.turn {M M1 : ej_Mem} {t : Nat} {tp : Nat → Nat} {so wr J p n c p' c' : Nat} {sd sf : Bool} {T : Txt} (h : CCs M t tp so wr J (p, n, c, sd, sf, T)) (H1 : CLk M1 t tp p' 0) (i6 : mI M1 61 6 = nI (5 * c')) (hp' : p' ≤ t) (lc : c ≤ c') (hc' : c' ≤ 60) (ag : ∀ y, y < 5 * c → aI M1 62 y = aI M 62 y) (hC' : CodeOK (aI M1 62) c') (u63 : aI M1 63 = aI M 63) (k4 : mI M1 61 4 = mI M 61 4) (k8 : mC M1 = mC M) (kw : ∀ j, mI M1 wr j = mI M wr j) {v : Nat} {x : Int32} {w : Prd} (hv : v ≤ 15) (hx : CEn (aI M1 62) c' x w) : CCs (atM M1 J (nI v) x) t tp so wr (J + 1) (p', n + 1, c', sd, sf, xTrn v w T) := by
  obtain ⟨H, ⟨h6, h8, hse⟩, ⟨B2, B3, BJ⟩, hC, ⟨w1, w2, w3, w4, w5, w6, w7⟩, hE, hTn⟩ := h
  have B2 : c ≤ 60 := B2
  have BJ : J ≤ n := BJ
  have hC : CodeOK (aI M 62) c := hC
  have hE : CEn (aI M 62) c (mI M wr 5) (tTs T) := hE
  have g : ∀ o j, ¬ (o = 61 ∧ j = 8) → mI (atM M1 J (nI v) x) o j = mI M1 o j := fun o j q => gI_n q
  have gw : ∀ j, mI (atM M1 J (nI v) x) wr j = mI M wr j := fun j => by rw [g _ _ (by omega)]; exact kw j
  have e62 : aI (atM M1 J (nI v) x) 62 = aI M1 62 := by
    show aI (setA (setA M1 63 (2 * J) (nI v)) 63 (2 * J + 1) x) 62 = _
    rw [gA_o (by decide), gA_o (by decide)]
  have e63 : aI (atM M1 J (nI v) x) 63 = va_up (va_up (aI M 63) (2 * J) (nI v)) (2 * J + 1) x := by
    show aI (setA (setA M1 63 (2 * J) (nI v)) 63 (2 * J + 1) x) 63 = _
    rw [gA_u, gA_u, u63]
  refine ⟨atM_lk H1 J _ _, ⟨by rw [g _ _ (by omega)]; exact i6, gI_s _ _ _ _, by rw [g _ _ (by omega), k4]; exact hse⟩, ⟨hc', hp', by show J + 1 ≤ n + 1; omega⟩, by rw [e62]; exact hC', ⟨w1, by show mC M1 wr = 7; rw [k8]; exact w2, by rw [gw]; exact w3, by rw [gw]; exact w4, by rw [gw]; exact w5, by rw [gw]; exact w6, by rw [gw]; exact w7⟩, ?_, ?_⟩
  · rw [gw, e62]
    exact hE.cg B2 hC ag lc
  · rw [e62, e63]
    refine ⟨v, w, tTu T, hv, by rw [up_n (by omega), up_s], by rw [up_s]; exact hx, ?_, fun s => rfl⟩
    exact TnR.cg B2 hC ag lc J _ (fun y hy => by rw [up_n (by omega), up_n (by omega)]) hTn
theorem c_cltrn {d : Nat} (hD : 8 ≤ d) {M : ej_Mem} {t : Nat} {tp : Nat → Nat} {wr J p1 n c : Nat} {sd sf : Bool} {T : Txt} (h0 : CCs M t tp 0 wr J (p1, n, c, sd, sf, T)) (hn : n < 12) : ∃ M', rn jm_Clerk_readClause (cal d) 0 [some (.ref 61), some (.ref wr), some (.int (nI 7)), none] [] M = some (none, M') ∧ ClC M M' t tp 0 wr (clk tp t 0 n c sd sf T 6 p1) := by
  have h := h0
  obtain ⟨H, ⟨h6, h8, hse⟩, ⟨B2, B3, BJ⟩, hC, ⟨w1, w2, w3, w4, w5, w6, w7⟩, hE, hTn⟩ := h
  have H : CLk M t tp p1 0 := H
  have h6 : mI M 61 6 = nI (5 * c) := h6
  have B2 : c ≤ 60 := B2
  have B3 : p1 ≤ t := B3
  have BJ : J ≤ n := BJ
  have hC : CodeOK (aI M 62) c := hC
  have t4 := H.2.2.1.1.1
  have c61 : ∀ K : Option ej_R, ckk (mC M 61 = 0) K = K := fun K => ckk_t (SW.all H.1).2.2.1 K
  rw [eq_Clerk_readClause_0]
  rw [if_neg (by decide), if_neg (by decide), if_neg (by decide), if_neg (by decide), if_neg (by decide), if_neg (by decide), if_pos (by rfl)]
  simp only [c61]
  obtain ⟨p', v, e1, c1, c2, c3, c4⟩ := c_readNumber (p := p1) (f := 0) (by omega : 2 ≤ d) H (by decide) B3 (x := 15) (most := 15) rfl (by decide)
  rw [e1, bkI_s]
  have nb := nmF_b (tp := tp) (most := 15) (f := 0) (by decide) B3 t4
  have W1 : ∀ q f, SW (pf 61 M q f) := fun q f => (H.pf q f).1
  rw [ckk_t (SW.all (W1 _ _)).2.2.1, c_skipIf (by omega : 7 ≤ d) (H.pf p' _) c2 nb]
  unfold clk
  rw [if_neg (show ¬ isTk 0 6 = true by decide), if_neg (show ¬ ((0:Nat) = 1 ∨ (6:Nat) = 1 ∨ (6:Nat) = 2) by decide), show mostN 6 = 15 from rfl]
  by_cases zg : nmF tp t 15 p1 0 = 0
  · obtain ⟨u1, u2⟩ := c4 (nmF_0 zg).2
    rw [zg, if_pos rfl, if_pos rfl, if_pos rfl, ← u1, ← u2]
    have bp : blk tp t p' ≤ t := bl_le tp t 401 p' c2
    have lp : lwk tp t (blk tp t p') ≤ t := lw_le tp t 401 _ bp
    cases stw tp t (blk tp t p') (wd 13) with
    | true =>
      rw [if_pos rfl, if_pos rfl, bkI_s, if_neg (by decide), pf_pf, ckk_t (SW.all (W1 _ _)).2.2.1]
      have H2 := H.pf (lwk tp t (blk tp t p')) 0
      have q6 : mI (pf 61 M (lwk tp t (blk tp t p')) 0) 61 6 = nI (5 * c) := by rw [(pf_fr 61 M _ _).i (by unfold Ppf; omega)]; exact h6
      obtain ⟨M1, x, e2, TT⟩ := c_test (by omega : 8 ≤ d) H2 q6 B2 lp (-1) (-2)
      have FF := TT.1
      have F0 := pf_fr 61 M (lwk tp t (blk tp t p')) 0
      have q8 : mI M1 61 8 = nI (2 * J) := by rw [FF.i (by unfold Pk; omega), F0.i (by unfold Ppf; omega)]; exact h8
      rw [e2, bkI_s]
      cases hr : tst tp t (lwk tp t (blk tp t p')) c with
      | inl g =>
        rw [hr] at TT
        obtain ⟨g0, gb, pd, hpd, HD⟩ := TT.2
        rw [ckk_t (SW.all HD.1).2.2.1, c_addTurn (by omega) HD.1 (J := J) (by omega) q8, bkV_s]
        exact ⟨_, rfl, ((pf_cc wr M _ _).trans (Pk_cc FF)).trans (atM_fr _ _ _ _ _), g0, gb, pd, hpd, atM_lk HD _ _ _⟩
      | inr y =>
        obtain ⟨p2, w, c'⟩ := y
        rw [hr] at TT
        obtain ⟨q1, q2, q3, q4, q5⟩ := tst_code B2 hC (CEn_t _ _) (CEn_f _ _) (TT.after (pf_Pk c M (lwk tp t (blk tp t p')) 0))
        obtain ⟨_, _, K1, i6, _, _, hp', _, _⟩ := TT
        rw [ckk_t (SW.all K1.1).2.2.1, c_addTurn (by omega) K1.1 (J := J) (by omega) q8, bkV_s]
        refine ⟨_, rfl, ((pf_cc wr M _ _).trans (Pk_cc FF)).trans (atM_fr _ _ _ _ _), J + 1, ?_⟩
        exact CCs.turn (p' := p2) (c' := c') (w := w) h0 K1 i6 hp' (by omega) q2 q3 q4 (FF.af (fun j => by unfold Pk; omega)) (by rw [FF.i (by unfold Pk; omega), F0.i (by unfold Ppf; omega)]) FF.c (fun j => by rw [FF.i (by unfold Pk; omega), F0.i (by unfold Ppf; omega)]) c3 (by
          have : (fun s => if w s = true then true else false) = w := by funext s; cases w s <;> rfl
          rw [← this]; exact q5)
    | false =>
      rw [if_neg Bool.false_ne_true, if_neg Bool.false_ne_true, bkI_s, if_pos (by rfl), pf_pf, ckk_t (SW.all (W1 _ _)).2.2.1, c_addTurn (by omega) (W1 _ _) (J := J) (by omega) (by rw [(pf_fr 61 M _ _).i (by unfold Ppf; omega)]; exact h8), bkV_s]
      refine ⟨_, rfl, (pf_cc wr M _ _).trans (atM_fr _ _ _ _ _), J + 1, ?_⟩
      have F0 := pf_fr 61 M (blk tp t p') 0
      exact CCs.turn (M1 := pf 61 M (blk tp t p') 0) (p' := blk tp t p') (c' := c) (w := fun _ => true) h0 (H.pf _ _) (by rw [F0.i (by unfold Ppf; omega)]; exact h6) bp (Nat.le_refl _) B2 (fun y _ => rfl) hC rfl (by rw [F0.i (by unfold Ppf; omega)]) rfl (fun j => by rw [F0.i (by unfold Ppf; omega)]) c3 (CEn_t _ _)
  · rw [if_neg zg, if_neg zg, bkI_s, if_pos (by rfl), pf_pf, ckk_t (SW.all (W1 _ _)).2.2.1, c_addTurn (by omega) (W1 _ _) (J := J) (by omega) (by rw [(pf_fr 61 M _ _).i (by unfold Ppf; omega)]; exact h8), bkV_s]
    exact ⟨_, rfl, (pf_cc wr M _ _).trans (atM_fr _ _ _ _ _), zg, nb, _, bl_le tp t 401 p' c2, atM_lk (H.pf _ _) _ _ _⟩
theorem c_clrest {D : Nat} (hD : 9 ≤ D) {M : ej_Mem} {t : Nat} {tp : Nat → Nat} {so wr J p1 n c k : Nat} {sd sf : Bool} {T : Txt} (h : CCs M t tp so wr J (p1, n, c, if so = 0 then sd || decide (k = 3) else sd, if so = 0 then sf || decide (k = 4) else sf, T)) (hk : k < wN so) (hs : so < 2) (hn : n < 12) (hd : so = 0 → k = 3 → tDy T = 0) (hf : so = 0 → k = 4 → tFe T = 0) : ∃ M', cal D jm_Clerk_readClause [.ref 61, .ref wr, .int (nI (wrd so k))] M = some (none, M') ∧ ClC M M' t tp so wr (clk tp t so n c sd sf T k p1) := by
  obtain ⟨d, rfl⟩ : ∃ d, D = d + 1 := ⟨D - 1, by omega⟩
  have h0 := h
  obtain ⟨H, ⟨h6, h8, hse⟩, ⟨B2, B3, BJ⟩, hC, ⟨w1, w2, w3, w4, w5, w6, w7⟩, hE, hTn⟩ := h
  have H : CLk M t tp p1 0 := H
  have h6 : mI M 61 6 = nI (5 * c) := h6
  have B2 : c ≤ 60 := B2
  have B3 : p1 ≤ t := B3
  have BJ : J ≤ n := BJ
  have hC : CodeOK (aI M 62) c := hC
  have hE : CEn (aI M 62) c (mI M wr 5) (tTs T) := hE
  have t4 := H.2.2.1.1.1
  have cw : ∀ K : Option ej_R, ckk (mC M wr = 7) K = K := fun K => ckk_t w2 K
  have c61 : ∀ K : Option ej_R, ckk (mC M 61 = 0) K = K := fun K => ckk_t (SW.all H.1).2.2.1 K
  have b2 : blk tp t p1 ≤ t := bl_le tp t 401 p1 B3
  rw [ca_Clerk_readClause]
  by_cases n06 : so = 0 ∧ k = 6
  · obtain ⟨rfl, rfl⟩ := n06
    have h1 : CCs M t tp 0 wr J (p1, n, c, sd, sf, T) := by
      have e : ∀ b : Bool, (if (0 : Nat) = 0 then b || false else b) = b := fun b => by cases b <;> rfl
      have h2 := h0
      rw [show decide ((6 : Nat) = 3) = false from rfl, show decide ((6 : Nat) = 4) = false from rfl, e, e] at h2
      exact h2
    exact c_cltrn (by omega) h1 hn
  rw [eq_Clerk_readClause_0]
  have nk : ∀ v : Nat, v < 16 → (nI (wrd so k) = nI v ↔ wrd so k = v) := fun v hv => by
    have wl : wN so ≤ 7 := by unfold wN; split <;> decide
    exact nI_eq (by unfold wrd; split <;> omega) (by omega)
  have sdk : k ≠ 3 → (if so = 0 then sd || decide (k = 3) else sd) = sd := fun z => by split; rw [decide_eq_false z, Bool.or_false]; rfl
  have sfk : k ≠ 4 → (if so = 0 then sf || decide (k = 4) else sf) = sf := fun z => by split; rw [decide_eq_false z, Bool.or_false]; rfl
  -- a test that ends in the entry
  have ent : ∀ (yes no : Int32) (Py Pn : Prd), CEn (aI M 62) c yes Py → CEn (aI M 62) c no Pn → isTk so k = true → (∀ w s, (if w s = true then Py s else Pn s) = tTs (xTst so w T) s) → k ≠ 3 → k ≠ 4 → ∃ M', (bkI (cal d jm_Clerk_readTest [.ref 61, .int yes, .int no] M) fun x2 M1 => ckk (mC M1 wr = 7) (some (none, setI M1 wr 5 x2))) = some (none, M') ∧ ClC M M' t tp so wr (clk tp t so n c sd sf T k p1) := by
    intro yes no Py Pn hy hno hT hP k3 k4
    obtain ⟨M1, x, e1, TT⟩ := c_test (by omega : 8 ≤ d) H h6 B2 B3 yes no
    rw [e1, bkI_s]
    unfold clk
    rw [if_pos hT]
    have FF := TT.1
    have w2' : mC M1 wr = 7 := by rw [FF.c]; exact w2
    rw [ckk_t w2']
    have FX : Fr (Pcc wr) M (setI M1 wr 5 x) := (Pk_cc FF).trans (Fr.setI (P := Pcc wr) _ _ (Or.inr (Or.inr rfl)))
    cases hr : tst tp t p1 c with
    | inl g =>
      rw [hr] at TT
      exact ⟨_, rfl, FX, CDd.wr TT.2 (by omega) x⟩
    | inr y =>
      obtain ⟨p', w, c'⟩ := y
      rw [hr] at TT
      obtain ⟨q1, q2, q3, q4, q5⟩ := tst_code B2 hC hy hno TT
      obtain ⟨_, _, K1, i6, _, _, hp', _, _⟩ := TT
      have fi : ∀ o j, ¬ Pk c o j → mI M1 o j = mI M o j := fun o j q => FF.i q
      have u63 : aI M1 63 = aI M 63 := FF.af (fun j => by unfold Pk; omega)
      have gw : ∀ j, j ≠ 5 → mI (setI M1 wr 5 x) wr j = mI M wr j := fun j q => by rw [gI_n (by omega), fi _ _ (by unfold Pk; omega)]
      have g61 : ∀ j, (j = 4 ∨ j = 8) → mI (setI M1 wr 5 x) 61 j = mI M 61 j := fun j q => by rw [gI_n (by omega), fi _ _ (by unfold Pk; omega)]
      refine ⟨_, rfl, FX, J, K1.keep (Fr.setI (P := fun o k => 62 ≤ o ∨ (o = 61 ∧ 4 ≤ k)) _ _ (by omega)) (fun o k q => q), ⟨by rw [gI_n (by omega)]; exact i6, by rw [g61 8 (Or.inr rfl)]; exact h8, fun s0 => ?_⟩, ⟨q2, hp', by show J ≤ n + 1; omega⟩, q4, ⟨w1, w2', by rw [gw 0 (by decide)]; exact w3, by rw [gw 1 (by decide)]; exact w4, by rw [gw 2 (by decide)]; exact w5, by rw [gw 3 (by decide)]; exact w6, by rw [gw 4 (by decide)]; exact w7⟩, ?_, ?_⟩
      · have := hse s0
        rw [g61 4 (Or.inl rfl)]
        have a1 : bI (mI M 61 4) 4 = (if so = 0 then sd || decide (k = 3) else sd) := this.1
        have a2 : bI (mI M 61 4) 5 = (if so = 0 then sf || decide (k = 4) else sf) := this.2
        rw [sdk k3] at a1
        rw [sfk k4] at a2
        exact ⟨a1, a2⟩
      · rw [gI_s]
        show CEn (aI M1 62) c' x (tTs (xTst so w T))
        have : tTs (xTst so w T) = fun s => if w s = true then Py s else Pn s := by funext s; exact (hP w s).symm
        rw [this]; exact q5
      · show TnR (aI M1 62) (aI M1 63) c' J (tTu T)
        rw [u63]
        exact TnR.cg B2 hC q3 (by omega) J _ (fun _ _ => rfl) hTn
  -- rights
  have rgt : ∀ (fd : Nat) (cur : Int32), mI M wr fd = cur → fd < 5 → isTk so k = false → (so = 1 ∨ k = 1 ∨ k = 2) → k ≠ 3 → k ≠ 4 → (∀ x, (tGv (xSet so k x T) = if fd = 0 then cur ||| x else tGv T) ∧ (tEn (xSet so k x T) = if fd = 1 then cur ||| x else tEn T) ∧ (tDy (xSet so k x T) = if fd = 2 then cur ||| x else tDy T) ∧ (tFe (xSet so k x T) = if fd = 3 then cur ||| x else tFe T) ∧ (tLn (xSet so k x T) = if fd = 4 then cur ||| x else tLn T) ∧ tTs (xSet so k x T) = tTs T ∧ tTu (xSet so k x T) = tTu T) → ∃ M', (bkI (cal d jm_Clerk_readRights [.ref 61] M) fun x4 M3 => ckk (mC M3 wr = 7) (some (none, setI M3 wr fd (mI M wr fd ||| x4)))) = some (none, M') ∧ ClC M M' t tp so wr (clk tp t so n c sd sf T k p1) := by
    intro fd cur hcur hfd hT hR k3 k4 hx
    rw [c_readRights (by omega) H (by decide) B3, bkI_s]
    unfold clk
    rw [if_neg (show ¬ isTk so k = true by rw [hT]; decide), if_pos hR, hcur]
    have rl := rts_le tp t 401 (blk tp t p1) 0 b2
    generalize hrr : rts tp t 401 (blk tp t p1) 0 = rr at *
    have w2' : ∀ f, mC (pf 61 M rr.1 f) wr = 7 := fun f => w2
    rw [ckk_t (w2' _)]
    cases hi : inr 65 88 (sg tp t (blk tp t p1)) with
    | true =>
      rw [if_pos rfl, if_pos rfl]
      obtain ⟨a0, a1, a2, a3, a4, a5, a6⟩ := hx rr.2
      have h0' := h0
      rw [sdk k3, sfk k4] at h0'
      obtain ⟨F, S⟩ := h0'.fld ⟨0, rfl⟩ (H.pf rr.1 0) rl fd (cur ||| rr.2) hfd a0 a1 a2 a3 a4 a5 a6
      exact ⟨_, rfl, F, J, S⟩
    | false =>
      rw [if_neg Bool.false_ne_true, if_neg Bool.false_ne_true]
      have fb : flt 0 (blk tp t p1) < 2 ^ 30 := by unfold flt blk at *; omega
      have d0 : CDd (pf 61 M rr.1 (orF 0 (flt 0 (blk tp t p1)))) t tp (flt 0 (blk tp t p1)) := ⟨flt_pos 0 _, fb, rr.1, rl, H.pf _ _⟩
      exact ⟨_, rfl, (pf_cc wr _ _ _).trans (Fr.setI (P := Pcc wr) _ _ (Or.inr (Or.inr rfl))), d0.wr (by omega) _⟩
  -- numbers
  have nmb : ∀ (fd most : Nat) (xm : Int32) (g : Int32 → Int32), xm = nI most → most = mostN k → so = 0 → isTk so k = false → ¬ (so = 1 ∨ k = 1 ∨ k = 2) → k ≠ 6 → fd < 5 → (∀ v, (tGv (xNum k v T) = if fd = 0 then g (nI v) else tGv T) ∧ (tEn (xNum k v T) = if fd = 1 then g (nI v) else tEn T) ∧ (tDy (xNum k v T) = if fd = 2 then g (nI v) else tDy T) ∧ (tFe (xNum k v T) = if fd = 3 then g (nI v) else tFe T) ∧ (tLn (xNum k v T) = if fd = 4 then g (nI v) else tLn T) ∧ tTs (xNum k v T) = tTs T ∧ tTu (xNum k v T) = tTu T) → ∃ M', (bkI (cal d jm_Clerk_readNumber [.ref 61, .int xm] M) fun x8 M7 => ckk (mC M7 wr = 7) (some (none, setI M7 wr fd (g x8)))) = some (none, M') ∧ ClC M M' t tp so wr (clk tp t so n c sd sf T k p1) := by
    intro fd most xm g hxm hmost s0 hT hR k6 hfd hx
    have ml : most < 100000 := by rw [hmost]; exact mostN_lt k
    obtain ⟨p', v, e1, c1, c2, c3, c4⟩ := c_readNumber (by omega : 2 ≤ d) H (by decide) B3 hxm ml
    rw [e1, bkI_s]
    have nb := nmF_b (tp := tp) (most := most) (f := 0) (by decide) B3 t4
    unfold clk
    rw [if_neg (show ¬ isTk so k = true by rw [hT]; decide), if_neg hR, ← hmost]
    have w2' : ∀ f, mC (pf 61 M p' f) wr = 7 := fun f => w2
    rw [ckk_t (w2' _)]
    by_cases zg : nmF tp t most p1 0 = 0
    · obtain ⟨u1, u2⟩ := c4 (nmF_0 zg).2
      rw [zg, if_pos rfl, if_neg k6, ← u1, ← u2]
      obtain ⟨a0, a1, a2, a3, a4, a5, a6⟩ := hx v
      have h0' := h0
      simp only [if_pos s0] at h0'
      obtain ⟨F, S⟩ := h0'.fld ⟨0, rfl⟩ (H.pf p' 0) c2 fd (g (nI v)) hfd a0 a1 a2 a3 a4 a5 a6
      exact ⟨_, rfl, F, J, S⟩
    · rw [if_neg zg]
      have d0 : CDd (pf 61 M p' (nmF tp t most p1 0)) t tp (nmF tp t most p1 0) := ⟨zg, nb, p', c2, H.pf _ _⟩
      exact ⟨_, rfl, (pf_cc wr _ _ _).trans (Fr.setI (P := Pcc wr) _ _ (Or.inr (Or.inr rfl))), d0.wr (by omega) _⟩
  have nq : ∀ v y : Nat, v < 16 → y < 16 → v ≠ y → ¬ nI v = nI y := fun v y hv hy q z => q ((nI_eq (by omega) (by omega)).mp z)
  have s01 : so = 0 ∨ so = 1 := by omega
  have w3 : mI M wr 0 = tGv T := w3
  have w4 : mI M wr 1 = tEn T := w4
  have w7 : mI M wr 4 = tLn T := w7
  rcases s01 with rfl | rfl
  · have hk7 : k < 7 := hk
    have kk : k = 0 ∨ k = 1 ∨ k = 2 ∨ k = 3 ∨ k = 4 ∨ k = 5 ∨ k = 6 := by omega
    rcases kk with rfl | rfl | rfl | rfl | rfl | rfl | rfl
    · rw [if_pos (by rfl)]; simp only [c61, cw]
      exact ent _ _ _ _ hE (CEn_f _ _) rfl (fun w s => by show (if w s = true then tTs T s else false) = (tTs T s && w s); cases w s <;> simp) (by decide) (by decide)
    · rw [if_neg (by decide), if_pos (by rfl)]
      simp only [c61, cw]
      exact rgt 0 (tGv T) w3 (by decide) rfl (Or.inr (Or.inl rfl)) (by decide) (by decide) (fun x => ⟨rfl, rfl, rfl, rfl, rfl, rfl, rfl⟩)
    · rw [if_neg (by decide), if_neg (by decide), if_pos (by rfl)]
      simp only [c61, cw]
      exact rgt 1 (tEn T) w4 (by decide) rfl (Or.inr (Or.inr rfl)) (by decide) (by decide) (fun x => ⟨rfl, rfl, rfl, rfl, rfl, rfl, rfl⟩)
    · rw [if_neg (by decide), if_neg (by decide), if_neg (by decide), if_pos (by rfl)]
      simp only [c61, cw]
      exact nmb 2 999 999 (fun x => x) rfl rfl rfl rfl (by decide) (by decide) (by decide) (fun v => ⟨rfl, rfl, by show tDy T ||| nI v = nI v; rw [hd rfl rfl]; exact Int32.zero_or, rfl, rfl, rfl, rfl⟩)
    · rw [if_neg (by decide), if_neg (by decide), if_neg (by decide), if_neg (by decide), if_pos (by rfl)]
      simp only [c61, cw]
      exact nmb 3 9999 9999 (fun x => x) rfl rfl rfl rfl (by decide) (by decide) (by decide) (fun v => ⟨rfl, rfl, rfl, by show tFe T ||| nI v = nI v; rw [hf rfl rfl]; exact Int32.zero_or, rfl, rfl, rfl⟩)
    · rw [if_neg (by decide), if_neg (by decide), if_neg (by decide), if_neg (by decide), if_neg (by decide), if_pos (by rfl)]
      simp only [c61, cw]
      exact nmb 4 15 15 (fun x => mI M wr 4 ||| (1 <<< (x &&& 31))) rfl rfl rfl rfl (by decide) (by decide) (by decide) (fun v => ⟨rfl, rfl, rfl, rfl, by show tLn T ||| b1I v = mI M wr 4 ||| _; rw [w7]; rfl, rfl, rfl⟩)
    · exact absurd ⟨rfl, rfl⟩ n06
  · have hk2 : k < 2 := hk
    have kk : k = 0 ∨ k = 1 := by omega
    rcases kk with rfl | rfl
    · rw [if_neg (by decide), if_neg (by decide), if_neg (by decide), if_neg (by decide), if_neg (by decide), if_neg (by decide), if_neg (by decide), if_pos (by rfl)]
      simp only [c61, cw]
      exact rgt 0 (tGv T) w3 (by decide) rfl (Or.inl rfl) (by decide) (by decide) (fun x => ⟨rfl, rfl, rfl, rfl, rfl, rfl, rfl⟩)
    · rw [if_neg (by decide), if_neg (by decide), if_neg (by decide), if_neg (by decide), if_neg (by decide), if_neg (by decide), if_neg (by decide), if_neg (by decide), if_pos (by rfl)]; simp only [c61, cw]
      exact ent _ _ _ _ (CEn_t _ _) hE rfl (fun w s => by show (if w s = true then true else tTs T s) = (tTs T s || w s); cases w s <;> simp) (by decide) (by decide)
