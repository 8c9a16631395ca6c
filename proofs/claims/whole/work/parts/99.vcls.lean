/-! the class reads a test: its pieces -/
def PSt (F Bg Yh Nh : Nat → Int32) (lo0 : Nat) : Nat → List Prd → Prop
  | hi, [] => hi = lo0
  | hi, P :: ps => ∃ lo ys ns, (lo0 ≤ lo ∧ lo < hi) ∧ Bg ps.length = nI (5 * lo) ∧ chn F (Yh ps.length) ys ∧ chn F (Nh ps.length) ns ∧ Pce F lo hi ys ns P ∧ PSt F Bg Yh Nh lo0 lo ps
theorem PSt_le {F Bg Yh Nh : Nat → Int32} {lo0 : Nat} : ∀ (ps : List Prd) (hi : Nat), PSt F Bg Yh Nh lo0 hi ps → lo0 ≤ hi
  | [], hi, h => by have h : hi = lo0 := h; omega
  | P :: ps, hi, h => by obtain ⟨lo, ys, ns, h1, _⟩ := h; omega
theorem PSt_cg {F Bg Yh Nh F' Bg' Yh' Nh' : Nat → Int32} {lo0 : Nat} : ∀ (ps : List Prd) (hi : Nat), (∀ c, 5 * lo0 ≤ c → c < 5 * hi → F' c = F c) → (∀ i, i < ps.length → Bg' i = Bg i ∧ Yh' i = Yh i ∧ Nh' i = Nh i) → PSt F Bg Yh Nh lo0 hi ps → PSt F' Bg' Yh' Nh' lo0 hi ps
  | [], hi, _, _, h => h
  | P :: ps, hi, e, q, h => by
    obtain ⟨lo, ys, ns, h1, h2, h3, h4, h5, h6⟩ := h
    obtain ⟨q1, q2, q3⟩ := q ps.length (by simp)
    have y1 := chn_cg (G := F') ys _ (fun c hc => by have := h5.1 c hc; exact e c (by omega) this.2.1) h3
    have y2 := chn_cg (G := F') ns _ (fun c hc => by have := h5.2.1 c hc; exact e c (by omega) this.2) h4
    exact ⟨lo, ys, ns, h1, by rw [q1]; exact h2, by rw [q2]; exact y1, by rw [q3]; exact y2, h5.cg (fun x a b => e x (by omega) b), PSt_cg ps lo (fun c a b => e c a (by omega)) (fun i hi => q i (by simp; omega)) h6⟩
def Pk (lo0 o k : Nat) : Prop := (o = 61 ∧ (k = 2 ∨ k = 3 ∨ k = 6 ∨ (10 ≤ k ∧ k ≤ 12) ∨ k = 16)) ∨ (64 ≤ o ∧ o ≤ 67) ∨ (o = 62 ∧ 5 * lo0 ≤ k)
theorem pf_Pk (lo0 : Nat) (M : ej_Mem) (p f : Nat) : Fr (Pk lo0) M (pf 61 M p f) := (pf_fr 61 M p f).mono (fun o k q => by unfold Ppf at q; unfold Pk; omega)
/-- all that it holds while it reads, without a fault -/
def CXk (M : ej_Mem) (t : Nat) (tp : Nat → Nat) (p dp br c : Nat) (xs : List Nat) (ps : List Prd) (lo0 : Nat) : Prop := CLk M t tp p 0 ∧ (mI M 61 6 = nI (5 * c) ∧ mI M 61 10 = nI xs.length ∧ mI M 61 11 = nI dp ∧ mI M 61 12 = nI br ∧ mI M 61 16 = nI ps.length) ∧ stA (aI M 64) nI xs ∧ PSt (aI M 62) (aI M 65) (aI M 66) (aI M 67) lo0 c ps
theorem CXk.pf {M : ej_Mem} {t : Nat} {tp : Nat → Nat} {p dp br c lo0 : Nat} {xs : List Nat} {ps : List Prd} (h : CXk M t tp p dp br c xs ps lo0) (q : Nat) : CXk (pf 61 M q 0) t tp q dp br c xs ps lo0 := by
  obtain ⟨h1, ⟨a4, a5, a6, a7, a8⟩, h3, h4⟩ := h
  have F := pf_fr 61 M q 0
  exact ⟨h1.pf q 0, ⟨by rw [F.i (by unfold Ppf; omega)]; exact a4, by rw [F.i (by unfold Ppf; omega)]; exact a5, by rw [F.i (by unfold Ppf; omega)]; exact a6, by rw [F.i (by unfold Ppf; omega)]; exact a7, by rw [F.i (by unfold Ppf; omega)]; exact a8⟩, h3, h4⟩
/-- open ends are filled -/
def flF (F : Nat → Int32) (l : List Nat) (v : Int32) : Nat → Int32 := fun c => if c ∈ l then v else F c
theorem flF_nil (F : Nat → Int32) (v : Int32) : flF F [] v = F := by funext c; unfold flF; rw [if_neg (by simp)]
theorem flF_cons (F : Nat → Int32) (c : Nat) (l : List Nat) (v : Int32) : flF (va_up F c v) l v = flF F (c :: l) v := by
  funext x
  unfold flF
  by_cases q : x ∈ l
  · rw [if_pos q, if_pos (List.mem_cons_of_mem _ q)]
  · rw [if_neg q]
    by_cases r : x = c
    · subst r; rw [up_s, if_pos (List.mem_cons_self)]
    · rw [up_n r, if_neg (fun z => by rcases List.mem_cons.mp z with z | z; exact r z; exact q z)]
theorem setF_setA (M : ej_Mem) (o k : Nat) (v : Int32) (g : Nat → Int32) : setF (setA M o k v) o g = setF M o g := by
  unfold setA setF up2
  simp only [bx_uu]
theorem c_fill_loop (cl : Nat → List Value → ej_Mem → Option ej_R) {cc : Nat} (hcc : cc ≤ 300) {l1 v : Int32} : ∀ (l : List Nat) (h : Int32) (k : Nat) (M : ej_Mem) (o5 : Option Value), SW M → mI M 61 6 = nI cc → chn (aI M 62) h l → l.Nodup → (∀ c, c ∈ l → c < cc) → l.length ≤ k → k ≤ 300 → rn jm_Clerk_fillHoles cl 8 [some (.ref 61), some (.int l1), some (.int v), some (.int h), some (.int (nI k)), o5] [] M = some (none, setF M 62 (flF (aI M 62) l v))
  | [], h, k, M, o5, hW, h6, hc, nd, hl, hk, hk3 => by
    have hc : h = -1 := hc
    subst hc
    rw [flF_nil, setF_self, eq_Clerk_fillHoles_8]
    by_cases z : nI k ≤ 0
    · rw [if_pos z]
    · rw [if_neg z, if_pos (by decide)]
  | c :: cs, h, k, M, o5, hW, h6, hc, nd, hl, hk, hk3 => by
    obtain ⟨rfl, hc2⟩ := hc
    obtain ⟨nd1, nd2⟩ := List.nodup_cons.mp nd
    have cl' := hl c (List.mem_cons_self)
    rw [List.length_cons] at hk
    rw [eq_Clerk_fillHoles_8, if_neg (nI_nle (by omega) (by omega)), if_neg (nI_pos (by omega))]
    simp only [SW.all hW, h6, MR, ckk_T, deR_s, deQ_s, deQ_n, bkV_s, bkI_s, bkJ_s, bkQ_s, bkQ_n, ckb0, ckb1, ckb2, ckb3, eq_self, Nat.reduceEqDiff, Nat.reduceLeDiff, Nat.reduceLT, reduceIte, true_or, or_true, not_false_eq_true, not_true_eq_false, and_self, and_true, true_and, LIT, Int32.reduceLT, Int32.reduceLE, Int32.reduceToNatClampNeg]
    rw [if_neg (nI_ge cl' (by omega)), ckb_n (by omega) (by decide), ckb_n (by omega) (by decide), nI_clamp (by omega), nI_p1m (by omega)]
    have e62 : aI (setA M 62 c v) 62 = va_up (aI M 62) c v := rfl
    rw [c_fill_loop cl hcc cs _ (k - 1) (setA M 62 c v) _ hW h6 (by rw [e62]; exact chn_cg cs _ (fun x hx => up_n (fun z => nd1 (by rw [← z]; exact hx))) hc2) nd2 (fun x hx => hl x (List.mem_cons_of_mem _ hx)) (by omega) (by omega), setF_setA, e62, flF_cons]
theorem nodup_len {l : List Nat} {n : Nat} (h : l.Nodup) (hl : ∀ c, c ∈ l → c < n) : l.length ≤ n := by
  have := nodup_sub_len l (List.range n) h (fun x hx => List.mem_range.mpr (hl x hx))
  rwa [List.length_range] at this
theorem c_fill {D : Nat} (hD : 1 ≤ D) {M : ej_Mem} {cc : Nat} (hcc : cc ≤ 300) {v h : Int32} {l : List Nat} (hW : SW M) (h6 : mI M 61 6 = nI cc) (hc : chn (aI M 62) h l) (nd : l.Nodup) (hl : ∀ c, c ∈ l → c < cc) : cal D jm_Clerk_fillHoles [.ref 61, .int h, .int v] M = some (none, setF M 62 (flF (aI M 62) l v)) := by
  obtain ⟨d, rfl⟩ : ∃ d, D = d + 1 := ⟨D - 1, by omega⟩
  rw [ca_Clerk_fillHoles, eq_Clerk_fillHoles_0]
  simp only [SW.all hW, h6, MR, ckk_T, deR_s, deQ_s, deQ_n, bkV_s, bkI_s, bkJ_s, bkQ_s, bkQ_n, ckb0, ckb1, ckb2, ckb3, eq_self, Nat.reduceEqDiff, Nat.reduceLeDiff, Nat.reduceLT, reduceIte, true_or, or_true, not_false_eq_true, not_true_eq_false, and_self, and_true, true_and, LIT, Int32.reduceLT, Int32.reduceLE, Int32.reduceToNatClampNeg]
  exact c_fill_loop (cal d) hcc l h cc M none hW h6 hc nd hl (nodup_len nd hl) hcc
theorem last_mem {l : List Nat} (h : l ≠ []) : l.getLast! ∈ l := by
  cases l with
  | nil => exact absurd rfl h
  | cons c cs =>
    have : (c :: cs).getLast! = (c :: cs).getLast (by simp) := rfl
    rw [this]; exact List.getLast_mem _
theorem c_chain_loop (cl : Nat → List Value → ej_Mem → Option ej_R) {cc : Nat} (hcc : cc ≤ 300) {M : ej_Mem} (hW : SW M) (h6 : mI M 61 6 = nI cc) {l1 v : Int32} : ∀ (l : List Nat) (h : Int32) (k : Nat), l ≠ [] → chn (aI M 62) h l → (∀ c, c ∈ l → c < cc) → l.length ≤ k → k ≤ 300 → rn jm_Clerk_chained cl 8 [some (.ref 61), some (.int l1), some (.int v), some (.int h), some (.int (nI k))] [] M = some (some (.int l1), setA M 62 l.getLast! v)
  | [], h, k, ne, _, _, _, _ => absurd rfl ne
  | c :: cs, h, k, _, hc, hl, hk, hk3 => by
    obtain ⟨rfl, hc2⟩ := hc
    have cl' := hl c (List.mem_cons_self)
    rw [List.length_cons] at hk
    rw [eq_Clerk_chained_8, if_neg (nI_nle (by omega) (by omega)), if_neg (nI_pos (by omega))]
    simp only [SW.all hW, h6, MR, ckk_T, deR_s, deQ_s, deQ_n, bkV_s, bkI_s, bkJ_s, bkQ_s, bkQ_n, ckb0, ckb1, ckb2, ckb3, eq_self, Nat.reduceEqDiff, Nat.reduceLeDiff, Nat.reduceLT, reduceIte, true_or, or_true, not_false_eq_true, not_true_eq_false, and_self, and_true, true_and, LIT, Int32.reduceLT, Int32.reduceLE, Int32.reduceToNatClampNeg]
    rw [if_neg (nI_ge cl' (by omega)), ckb_n (by omega) (by decide), ckb_n (by omega) (by decide), ckb_n (by omega) (by decide), nI_clamp (by omega)]
    cases cs with
    | nil =>
      have hc2 : aI M 62 c = -1 := hc2
      rw [if_pos hc2]; rfl
    | cons d ds =>
      have e := hc2.1
      have dl := hl d (by simp)
      rw [if_neg (by rw [e]; exact nI_nm (by omega)), nI_p1m (by omega)]
      have L : (c :: d :: ds).getLast! = (d :: ds).getLast! := by simp [List.getLast!]
      rw [L]
      exact c_chain_loop cl hcc hW h6 (d :: ds) _ (k - 1) (by simp) hc2 (fun x hx => hl x (List.mem_cons_of_mem _ hx)) (by omega) (by omega)
theorem c_chained {D : Nat} (hD : 1 ≤ D) {M : ej_Mem} {cc : Nat} (hcc : cc ≤ 300) {v h : Int32} {l : List Nat} (hW : SW M) (h6 : mI M 61 6 = nI cc) (ne : l ≠ []) (hc : chn (aI M 62) h l) (nd : l.Nodup) (hl : ∀ c, c ∈ l → c < cc) : cal D jm_Clerk_chained [.ref 61, .int h, .int v] M = some (some (.int h), setA M 62 l.getLast! v) := by
  obtain ⟨d, rfl⟩ : ∃ d, D = d + 1 := ⟨D - 1, by omega⟩
  rw [ca_Clerk_chained, eq_Clerk_chained_0]
  simp only [SW.all hW, h6, MR, ckk_T, deR_s, deQ_s, deQ_n, bkV_s, bkI_s, bkJ_s, bkQ_s, bkQ_n, ckb0, ckb1, ckb2, ckb3, eq_self, Nat.reduceEqDiff, Nat.reduceLeDiff, Nat.reduceLT, reduceIte, true_or, or_true, not_false_eq_true, not_true_eq_false, and_self, and_true, true_and, LIT, Int32.reduceLT, Int32.reduceLE, Int32.reduceToNatClampNeg]
  exact c_chain_loop (cal d) hcc hW h6 l h cc ne hc hl (nodup_len nd hl) hcc
/-- the nots that wait for the last piece -/
def tnM (M : ej_Mem) (n w dp : Nat) (a b : Int32) : ej_Mem := setI (setI (setA (setA M 66 n a) 67 n b) 61 10 (nI w)) 61 11 (nI dp)
theorem c_turn1 (cl : Nat → List Value → ej_Mem → Option ej_R) {M : ej_Mem} {t : Nat} {tp : Nat → Nat} {p dp br c lo0 : Nat} {xs : List Nat} {w : Prd} {ps : List Prd} {o1 : Option Value} (h : CXk M t tp p (dp + 1) br c (3 :: xs) (w :: ps) lo0) (hx : xs.length < 40) (hp : ps.length < 40) : ∃ o1', rn jm_Clerk_turnByNots cl 0 [some (.ref 61), o1] [] M = rn jm_Clerk_turnByNots cl 0 [some (.ref 61), o1'] [] (tnM M ps.length xs.length dp (aI M 67 ps.length) (aI M 66 ps.length)) := by
  obtain ⟨h1, ⟨a6, a10, a11, a12, a16⟩, h3, h4⟩ := h
  have hW := h1.1
  have a10 : mI M 61 10 = nI (xs.length + 1) := a10
  have a16 : mI M 61 16 = nI (ps.length + 1) := a16
  have s0 : aI M 64 xs.length = nI 3 := h3.1
  refine ⟨some (.int (aI M 66 ps.length)), ?_⟩
  rw [eqo_Clerk_turnByNots]
  simp only [SW.all hW, a10, a11, a16, nI_pred, MR, ckk_T, deR_s, deQ_s, deQ_n, bkV_s, bkI_s, bkJ_s, bkQ_s, bkQ_n, ckb0, ckb1, ckb2, ckb3, eq_self, Nat.reduceEqDiff, Nat.reduceLeDiff, Nat.reduceLT, reduceIte, true_or, or_true, not_false_eq_true, not_true_eq_false, and_self, and_true, true_and, LIT, Int32.reduceLT, Int32.reduceLE, Int32.reduceToNatClampNeg]
  rw [if_neg (nI_nle (by omega) (by omega)), if_neg (nI_nle (by omega) (by omega))]
  simp only [ckb_n (show xs.length < 40 by omega) (show 40 < 2 ^ 31 by decide), ckb_n (show ps.length < 40 by omega) (show 40 < 2 ^ 31 by decide), nI_clamp (show xs.length < 2 ^ 31 by omega), nI_clamp (show ps.length < 2 ^ 31 by omega)]
  rw [s0, if_pos (show nI 3 = 3 from rfl)]
  simp only [SW.all hW, a10, a11, a16, nI_pred, va_upe, MR, ckk_T, deR_s, deQ_s, deQ_n, bkV_s, bkI_s, bkJ_s, bkQ_s, bkQ_n, ckb0, ckb1, ckb2, ckb3, eq_self, Nat.reduceEqDiff, Nat.reduceLeDiff, Nat.reduceLT, reduceIte, true_or, or_true, not_false_eq_true, not_true_eq_false, and_self, and_true, true_and, LIT, Int32.reduceLT, Int32.reduceLE, Int32.reduceToNatClampNeg]
  rfl
theorem CXk.tn {M : ej_Mem} {t : Nat} {tp : Nat → Nat} {p dp br c lo0 : Nat} {xs : List Nat} {w : Prd} {ps : List Prd} (h : CXk M t tp p (dp + 1) br c (3 :: xs) (w :: ps) lo0) : Fr (Pk lo0) M (tnM M ps.length xs.length dp (aI M 67 ps.length) (aI M 66 ps.length)) ∧ CXk (tnM M ps.length xs.length dp (aI M 67 ps.length) (aI M 66 ps.length)) t tp p dp br c xs ((fun s => !(w s)) :: ps) lo0 := by
  obtain ⟨h1, ⟨a6, a10, a11, a12, a16⟩, h3, h4⟩ := h
  obtain ⟨lo, ys, ns, q1, q2, q3, q4, q5, q6⟩ := h4
  have K : Fr (fun o k => 62 ≤ o ∨ (o = 61 ∧ 4 ≤ k)) M (tnM M ps.length xs.length dp (aI M 67 ps.length) (aI M 66 ps.length)) := (((Fr.setA (P := fun o k => 62 ≤ o ∨ (o = 61 ∧ 4 ≤ k)) M _ (by omega)).trans (Fr.setA (P := fun o k => 62 ≤ o ∨ (o = 61 ∧ 4 ≤ k)) _ _ (by omega))).trans (Fr.setI (P := fun o k => 62 ≤ o ∨ (o = 61 ∧ 4 ≤ k)) _ _ (by omega))).trans (Fr.setI (P := fun o k => 62 ≤ o ∨ (o = 61 ∧ 4 ≤ k)) _ _ (by omega))
  refine ⟨(((Fr.setA (P := Pk lo0) M _ (by unfold Pk; omega)).trans (Fr.setA (P := Pk lo0) _ _ (by unfold Pk; omega))).trans (Fr.setI (P := Pk lo0) _ _ (by unfold Pk; omega))).trans (Fr.setI (P := Pk lo0) _ _ (by unfold Pk; omega)), h1.keep K (fun o k q => q), ⟨a6, rfl, rfl, a12, a16⟩, h3.2, lo, ns, ys, q1, q2, ?_, ?_, q5.swap, ?_⟩
  · show chn (aI M 62) (va_up (aI M 66) ps.length (aI M 67 ps.length) ps.length) ns
    rw [up_s]; exact q4
  · show chn (aI M 62) (va_up (aI M 67) ps.length (aI M 66 ps.length) ps.length) ys
    rw [up_s]; exact q3
  · exact PSt_cg ps lo (fun _ _ _ => rfl) (fun i hi => ⟨rfl, up_n (by omega), up_n (by omega)⟩) q6
theorem c_turn_loop (cl : Nat → List Value → ej_Mem → Option ej_R) {t : Nat} {tp : Nat → Nat} {p br c lo0 : Nat} {xs : List Nat} {ps : List Prd} (hx : xs.head? ≠ some 3) (hxl : ∀ x, x ∈ xs → x ≤ 3) (hp : ps.length < 40) : ∀ (j dp : Nat) (w : Prd) (M : ej_Mem) (o1 : Option Value), CXk M t tp p (dp + j) br c (List.replicate j 3 ++ xs) (w :: ps) lo0 → j + xs.length ≤ 40 → ∃ M', rn jm_Clerk_turnByNots cl 0 [some (.ref 61), o1] [] M = some (none, M') ∧ Fr (Pk lo0) M M' ∧ CXk M' t tp p dp br c xs (negs j w :: ps) lo0
  | 0, dp, w, M, o1, h, hl => by
    refine ⟨M, ?_, Fr.refl _ M, h⟩
    obtain ⟨h1, ⟨a6, a10, a11, a12, a16⟩, h3, h4⟩ := h
    have a16 : mI M 61 16 = nI (ps.length + 1) := a16
    rw [eqo_Clerk_turnByNots]
    cases xs with
    | nil =>
      have a10 : mI M 61 10 = nI 0 := a10
      simp only [SW.all h1.1, a10, MR, ckk_T, deR_s, deQ_s, deQ_n, bkV_s, bkI_s, bkJ_s, bkQ_s, bkQ_n, ckb0, ckb1, ckb2, ckb3, eq_self, Nat.reduceEqDiff, Nat.reduceLeDiff, Nat.reduceLT, reduceIte, true_or, or_true, not_false_eq_true, not_true_eq_false, and_self, and_true, true_and, LIT, Int32.reduceLT, Int32.reduceLE, Int32.reduceToNatClampNeg]
      rw [if_pos (by decide)]
    | cons x xs =>
      have a10 : mI M 61 10 = nI (xs.length + 1) := a10
      have s0 : aI M 64 xs.length = nI x := h3.1
      rw [List.length_cons] at hl
      have x3 : x ≤ 3 := hxl x (by simp)
      have x3' : x ≠ 3 := fun z => hx (by rw [z]; rfl)
      simp only [SW.all h1.1, a10, a16, nI_pred, MR, ckk_T, deR_s, deQ_s, deQ_n, bkV_s, bkI_s, bkJ_s, bkQ_s, bkQ_n, ckb0, ckb1, ckb2, ckb3, eq_self, Nat.reduceEqDiff, Nat.reduceLeDiff, Nat.reduceLT, reduceIte, true_or, or_true, not_false_eq_true, not_true_eq_false, and_self, and_true, true_and, LIT, Int32.reduceLT, Int32.reduceLE, Int32.reduceToNatClampNeg]
      rw [if_neg (nI_nle (by omega) (by omega)), if_neg (nI_nle (by omega) (by omega)), ckb_n (by omega) (by decide), nI_clamp (by omega), s0, if_neg (show ¬ nI x = 3 from fun z => x3' ((nI_eq (by omega) (by decide : 3 < 2 ^ 31)).mp z))]
  | j + 1, dp, w, M, o1, h, hl => by
    have h' : CXk M t tp p (dp + j + 1) br c (3 :: (List.replicate j 3 ++ xs)) (w :: ps) lo0 := h
    obtain ⟨o1', E⟩ := c_turn1 cl (o1 := o1) h' (by simp; omega) hp
    obtain ⟨F, S⟩ := h'.tn
    obtain ⟨M', e2, f2, S2⟩ := c_turn_loop cl hx hxl hp j dp _ _ o1' S (by omega)
    exact ⟨M', E.trans e2, F.trans f2, S2⟩
theorem c_turnByNots {D : Nat} (hD : 1 ≤ D) {M : ej_Mem} {t : Nat} {tp : Nat → Nat} {p br c lo0 j dp : Nat} {xs : List Nat} {w : Prd} {ps : List Prd} (hx : xs.head? ≠ some 3) (hxl : ∀ x, x ∈ xs → x ≤ 3) (hp : ps.length < 40) (h : CXk M t tp p (dp + j) br c (List.replicate j 3 ++ xs) (w :: ps) lo0) (hl : j + xs.length ≤ 40) : ∃ M', cal D jm_Clerk_turnByNots [.ref 61] M = some (none, M') ∧ Fr (Pk lo0) M M' ∧ CXk M' t tp p dp br c xs (negs j w :: ps) lo0 := by
  obtain ⟨d, rfl⟩ : ∃ d, D = d + 1 := ⟨D - 1, by omega⟩
  rw [ca_Clerk_turnByNots]
  exact c_turn_loop (cal d) hx hxl hp j dp w M none h hl
