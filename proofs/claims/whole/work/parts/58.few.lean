/-! fewest: both sides -/
def lnU (V : View) (al : Nat → Bool) : Nat → Int32
  | 0 => 0
  | n + 1 => if al n = true then lnU V al n ||| tLn (vT V 0 n) else lnU V al n
def lnA (V : View) : Int32 := lnU V (fun _ => true) (vN V 0)
theorem lend_loop (cl : Nat → List Value → ej_Mem → Option ej_R) {M : ej_Mem} {l : Nat} {V : View} (h : CV M l V) (hV : VOK V) (z : Int64) : ∀ (n m : Nat), m + n = vN V 0 →
    rn jm_Land_lendersOf cl 5 [some (.ref l), some (.long z), none, some (.int (lnU V (bJ z) m)), some (.int (nI m))] [] M = some (some (.int (lnU V (bJ z) (vN V 0))), M)
  | 0, m, hm => by
    have l0 := hV.le (show 0 < 4 by decide)
    rw [eq_Land_lendersOf_5]
    simp only [h.1.1, h.1.2.1, h.1.2.2.1, MR, ckk_T, deR_s, deQ_s, deQ_n, bkV_s, bkI_s, bkJ_s, bkQ_s, bkQ_n, ckb0, ckb1, ckb2, ckb3, eq_self, Nat.reduceEqDiff, Nat.reduceLeDiff, Nat.reduceLT, reduceIte, true_or, or_true, not_false_eq_true, not_true_eq_false, and_self, and_true, true_and, LIT, Int32.reduceLT, Int32.reduceLE, Int32.reduceToNatClampNeg]
    rw [(h.2.1 0 (by decide)).1, h.2.2.1 0 (by decide), if_pos (nI_le (by omega) (by omega)), show m = vN V 0 by omega]
  | n + 1, m, hm => by
    have l0 := hV.le (show 0 < 4 by decide)
    have ih := lend_loop cl h hV z n (m + 1) (by omega)
    obtain ⟨g1, g2, g3⟩ := h.2.1 0 (by decide)
    have hn := h.2.2.1 0 (by decide)
    obtain ⟨w1, w2⟩ := g3 m (by omega)
    have hp : pl 0 + m = m := by simp [pl]
    rw [hp] at w1
    rw [eq_Land_lendersOf_5]
    simp only [h.1.1, h.1.2.1, h.1.2.2.1, MR, ckk_T, deR_s, deQ_s, deQ_n, bkV_s, bkI_s, bkJ_s, bkQ_s, bkQ_n, ckb0, ckb1, ckb2, ckb3, eq_self, Nat.reduceEqDiff, Nat.reduceLeDiff, Nat.reduceLT, reduceIte, true_or, or_true, not_false_eq_true, not_true_eq_false, and_self, and_true, true_and, LIT, Int32.reduceLT, Int32.reduceLE, Int32.reduceToNatClampNeg, ckb_n (show m < 72 by omega) (show 72 < 2 ^ 31 by decide), nI_clamp (show m < 2 ^ 31 by omega), w1, w2.1, nI_1]
    rw [g1, hn, if_neg (nI_ge (by omega) (by omega))]
    have hu : lnU V (bJ z) (m + 1) = if bJ z m = true then lnU V (bJ z) m ||| tLn (vT V 0 m) else lnU V (bJ z) m := rfl
    rw [hu] at ih
    by_cases q : lg_cmp (ej_ls 1 z (nI m) &&& 1) 0 = 0
    · rw [if_pos q]
      rw [(lowJ_0 (by omega)).mp q, if_neg (by decide)] at ih
      exact ih
    · have hb : bJ z m = true := by
        cases e : bJ z m
        · exact absurd ((lowJ_0 (by omega)).mpr e) q
        · rfl
      rw [if_neg q]
      rw [hb, if_pos rfl] at ih
      have ht : mI M (wL M l 0 m) 4 = tLn (vT V 0 m) := by rw [← h.txt (by decide) (show m < vN V 0 by omega)]; rfl
      rw [ht]; exact ih
theorem p_lendersOf {D : Nat} (hD : 1 ≤ D) {M : ej_Mem} {l : Nat} {V : View} (h : CV M l V) (hV : VOK V) (z : Int64) : cal D jm_Land_lendersOf [.ref l, .long z] M = some (some (.int (lnU V (bJ z) (vN V 0))), M) := by
  obtain ⟨d, rfl⟩ : ∃ d, D = d + 1 := ⟨D - 1, by omega⟩
  rw [ca_Land_lendersOf, eq_Land_lendersOf_0]
  exact lend_loop (cal d) h hV z (vN V 0) 0 (by omega)
theorem lnU_congr {V : View} {al al' : Nat → Bool} : ∀ n, (∀ m, m < n → al m = al' m) → lnU V al n = lnU V al' n
  | 0, _ => rfl
  | n + 1, h => by
    unfold lnU
    rw [h n (by omega), lnU_congr n (fun m hm => h m (by omega))]
theorem p_lenders {D : Nat} (hD : 2 ≤ D) {M : ej_Mem} {l : Nat} {V : View} (h : CV M l V) (hV : VOK V) : cal D jm_Land_lenders [.ref l] M = some (some (.int (lnA V)), M) := by
  obtain ⟨d, rfl⟩ : ∃ d, D = d + 1 := ⟨D - 1, by omega⟩
  have l0 := hV.le (show 0 < 4 by decide)
  rw [ca_Land_lenders, eq_Land_lenders_0]
  simp only [h.1.1, MR, ckk_T, deR_s, deQ_s, deQ_n, bkV_s, bkI_s, bkJ_s, bkQ_s, bkQ_n, ckb0, ckb1, ckb2, ckb3, eq_self, Nat.reduceEqDiff, Nat.reduceLeDiff, Nat.reduceLT, reduceIte, true_or, or_true, not_false_eq_true, not_true_eq_false, and_self, and_true, true_and, LIT, Int32.reduceLT, Int32.reduceLE, Int32.reduceToNatClampNeg]
  rw [p_lendersOf (by omega) h hV]
  have : lnU V (bJ (-1)) (vN V 0) = lnA V := by
    apply lnU_congr
    intro m hm
    have : ∀ k, k < 64 → bJ (-1) k = true := by decide +kernel
    exact this m (by omega)
  rw [this]; rfl
def lendB (V : View) (x : Int32) (m : Nat) : Bool := decide (tLn (vT V 0 m) &&& (x ^^^ -1) = 0)
theorem lentBy_loop (cl : Nat → List Value → ej_Mem → Option ej_R) {M : ej_Mem} {l : Nat} {V : View} (h : CV M l V) (hV : VOK V) (x : Int32) : ∀ (n m : Nat) (acc : Int64), m + n = vN V 0 → (∀ k, k < 64 → bJ acc k = (decide (k < m) && lendB V x k)) →
    ∃ z, rn jm_Land_movesLentBy cl 5 [some (.ref l), some (.int x), some (.long acc), none, some (.int (nI m))] [] M = some (some (.long z), M) ∧ ∀ k, k < 64 → bJ z k = (decide (k < vN V 0) && lendB V x k)
  | 0, m, acc, hm, ha => by
    have l0 := hV.le (show 0 < 4 by decide)
    refine ⟨acc, ?_, ?_⟩
    · rw [eq_Land_movesLentBy_5]
      simp only [h.1.1, h.1.2.1, h.1.2.2.1, MR, ckk_T, deR_s, deQ_s, deQ_n, bkV_s, bkI_s, bkJ_s, bkQ_s, bkQ_n, ckb0, ckb1, ckb2, ckb3, eq_self, Nat.reduceEqDiff, Nat.reduceLeDiff, Nat.reduceLT, reduceIte, true_or, or_true, not_false_eq_true, not_true_eq_false, and_self, and_true, true_and, LIT, Int32.reduceLT, Int32.reduceLE, Int32.reduceToNatClampNeg]
      rw [(h.2.1 0 (by decide)).1, h.2.2.1 0 (by decide), if_pos (nI_le (by omega) (by omega))]
    · rw [← hm, Nat.add_zero]; exact ha
  | n + 1, m, acc, hm, ha => by
    have l0 := hV.le (show 0 < 4 by decide)
    have ih := lentBy_loop cl h hV x n (m + 1)
    obtain ⟨g1, g2, g3⟩ := h.2.1 0 (by decide)
    have hn := h.2.2.1 0 (by decide)
    obtain ⟨w1, w2⟩ := g3 m (by omega)
    have hp : pl 0 + m = m := by simp [pl]
    rw [hp] at w1
    have ht : mI M (wL M l 0 m) 4 = tLn (vT V 0 m) := by rw [← h.txt (by decide) (show m < vN V 0 by omega)]; rfl
    rw [eq_Land_movesLentBy_5]
    simp only [h.1.1, h.1.2.1, h.1.2.2.1, MR, ckk_T, deR_s, deQ_s, deQ_n, bkV_s, bkI_s, bkJ_s, bkQ_s, bkQ_n, ckb0, ckb1, ckb2, ckb3, eq_self, Nat.reduceEqDiff, Nat.reduceLeDiff, Nat.reduceLT, reduceIte, true_or, or_true, not_false_eq_true, not_true_eq_false, and_self, and_true, true_and, LIT, Int32.reduceLT, Int32.reduceLE, Int32.reduceToNatClampNeg, ckb_n (show m < 72 by omega) (show 72 < 2 ^ 31 by decide), nI_clamp (show m < 2 ^ 31 by omega), w1, w2.1, nI_1, ht]
    rw [g1, hn, if_neg (nI_ge (by omega) (by omega))]
    have acc2 : ∀ b : Bool, lendB V x m = b → ∀ acc' : Int64, (∀ k, k < 64 → bJ acc' k = (bJ acc k || (decide (k = m) && b))) → ∀ k, k < 64 → bJ acc' k = (decide (k < m + 1) && lendB V x k) := by
      intro b hb acc' hacc k hk
      rw [hacc k hk, ha k hk]
      by_cases q : k = m
      · subst q
        rw [hb]
        simp
      · have : (k < m) = (k < m + 1) := by apply propext; omega
        simp only [q, decide_false, Bool.false_and, Bool.or_false, this]
    by_cases q : tLn (vT V 0 m) &&& (x ^^^ -1) = 0
    · rw [if_pos q]
      exact ih _ (by omega) (acc2 true (decide_eq_true q) _ (fun k hk => by rw [bJ_or, bJ_shl (by omega) hk, Bool.and_true]))
    · rw [if_neg q]
      exact ih _ (by omega) (acc2 false (decide_eq_false q) _ (fun k hk => by simp))
theorem p_movesLentBy {D : Nat} (hD : 1 ≤ D) {M : ej_Mem} {l : Nat} {V : View} (h : CV M l V) (hV : VOK V) (x : Int32) : ∃ z, cal D jm_Land_movesLentBy [.ref l, .int x] M = some (some (.long z), M) ∧ ∀ k, k < 64 → bJ z k = (decide (k < vN V 0) && lendB V x k) := by
  obtain ⟨d, rfl⟩ : ∃ d, D = d + 1 := ⟨D - 1, by omega⟩
  rw [ca_Land_movesLentBy, eq_Land_movesLentBy_0]
  exact lentBy_loop (cal d) h hV x (vN V 0) 0 0 (by omega) (fun k hk => by rw [bJ_0]; simp)
def okL (V : View) (y x : Int32) (m : Nat) (_ : Int32) : Bool := vOp V y m && lendB V x m
def fwOk (V : View) (gi wi : Nat) (y : Int32) (i : Nat) : Bool := decide ((srch V gi wi (vF V) (okL V y (xS (lnA V) i))).2.2.2 = 2)
def fwFr (V : View) (y : Int32) (i : Nat) : Bool := decide (lnU V (fun m => vOp V y m && lendB V (xS (lnA V) i) m) (vN V 0) = xS (lnA V) i)
def fwSz (V : View) (i : Nat) : Nat := pc (xS (lnA V) i)
def amF (ok : Nat → Bool) (sz : Nat → Nat) : Nat → Option Nat
  | 0 => none
  | n + 1 => match amF ok sz n with
    | none => if ok n = true then some n else none
    | some i => if ok n = true ∧ sz n < sz i then some n else some i
theorem amF_ok (ok : Nat → Bool) (sz : Nat → Nat) : ∀ n, AM n ok sz (amF ok sz n)
  | 0 => fun i hi => absurd hi (Nat.not_lt_zero i)
  | n + 1 => by
    have h := AM.step (amF_ok ok sz n)
    unfold amF
    cases e : amF ok sz n with
    | none =>
      rw [e] at h
      show AM (n + 1) ok sz (if ok n = true then some n else none)
      by_cases q : ok n = true
      · rw [if_pos q]
        rw [if_pos ⟨q, Or.inl rfl⟩] at h
        exact h
      · rw [if_neg q]
        rw [if_neg (fun z => q z.1)] at h
        exact h
    | some i =>
      rw [e] at h
      show AM (n + 1) ok sz (if ok n = true ∧ sz n < sz i then some n else some i)
      by_cases q : ok n = true ∧ sz n < sz i
      · rw [if_pos q]
        rw [if_pos ⟨q.1, Or.inr ⟨i, rfl, q.2⟩⟩] at h
        exact h
      · rw [if_neg q]
        rw [if_neg (by
          rintro ⟨z1, z2 | ⟨j, z2, z3⟩⟩
          · cases z2
          · cases z2; exact q ⟨z1, z3⟩)] at h
        exact h
theorem sub_bits {x y : Int32} : x &&& (y ^^^ -1) = 0 ↔ ∀ k, k < 32 → bI x k = true → bI y k = true := by
  constructor
  · intro e k hk hx
    have : bI (x &&& (y ^^^ -1)) k = false := by rw [e, bI_0]
    rw [bI_and, bI_not hk, hx, Bool.true_and] at this
    simpa using this
  · intro h
    apply bI_ext
    intro k hk
    rw [bI_and, bI_not hk, bI_0]
    cases e : bI x k
    · rfl
    · rw [h k hk e]; rfl
theorem lnU_bit {V : View} {al : Nat → Bool} {k : Nat} : ∀ n, bI (lnU V al n) k = true ↔ ∃ m, m < n ∧ al m = true ∧ bI (tLn (vT V 0 m)) k = true
  | 0 => by
    constructor
    · intro e; rw [show lnU V al 0 = 0 from rfl, bI_0] at e; cases e
    · rintro ⟨m, hm, _⟩; exact absurd hm (Nat.not_lt_zero m)
  | n + 1 => by
    have ih := lnU_bit (V := V) (al := al) (k := k) n
    unfold lnU
    by_cases q : al n = true
    · rw [if_pos q, bI_or, Bool.or_eq_true, ih]
      constructor
      · rintro (⟨m, a, b, c⟩ | e)
        · exact ⟨m, by omega, b, c⟩
        · exact ⟨n, by omega, q, e⟩
      · rintro ⟨m, a, b, c⟩
        by_cases e : m = n
        · subst e; exact Or.inr c
        · exact Or.inl ⟨m, by omega, b, c⟩
    · rw [if_neg q, ih]
      constructor
      · rintro ⟨m, a, b, c⟩; exact ⟨m, by omega, b, c⟩
      · rintro ⟨m, a, b, c⟩
        by_cases e : m = n
        · subst e; exact absurd b q
        · exact ⟨m, by omega, b, c⟩
theorem and_self_bits {x y : Int32} : x &&& y = x ↔ ∀ k, k < 32 → bI x k = true → bI y k = true := by
  constructor
  · intro e k hk hx
    rw [← e, bI_and, Bool.and_eq_true] at hx
    exact hx.2
  · intro h
    apply bI_ext
    intro k hk
    rw [bI_and]
    cases e : bI x k
    · rfl
    · rw [h k hk e]; rfl
theorem fw_idle {V : View} {gi wi : Nat} {y : Int32} : ∀ i, i < cS (lnA V) → fwOk V gi wi y i = true → fwFr V y i = false → ∃ j, j < cS (lnA V) ∧ fwOk V gi wi y j = true ∧ fwSz V j < fwSz V i := by
  intro i hi ho hf
  unfold fwFr at hf
  rw [decide_eq_false_iff_not] at hf
  have hL : lnU V (fun m => vOp V y m && lendB V (xS (lnA V) i) m) (vN V 0) &&& xS (lnA V) i = lnU V (fun m => vOp V y m && lendB V (xS (lnA V) i) m) (vN V 0) := by
    rw [and_self_bits]
    intro k hk e
    obtain ⟨m, hm, ha, hb⟩ := (lnU_bit _).mp e
    rw [Bool.and_eq_true] at ha
    have := ha.2
    unfold lendB at this
    rw [decide_eq_true_iff, sub_bits] at this
    exact this k hk hb
  generalize hLd : lnU V (fun m => vOp V y m && lendB V (xS (lnA V) i) m) (vN V 0) = L at *
  have hLA : L &&& lnA V = L := by
    rw [and_self_bits] at hL ⊢
    intro k hk e
    exact (and_self_bits.mp (xS_sub (lnA V) i)) k hk (hL k hk e)
  obtain ⟨j, hj, ej⟩ := xS_all hLA
  refine ⟨j, hj, ?_, ?_⟩
  · unfold fwOk at ho ⊢
    rw [decide_eq_true_iff] at ho ⊢
    have : srch V gi wi (vF V) (okL V y (xS (lnA V) j)) = srch V gi wi (vF V) (okL V y (xS (lnA V) i)) := by
      unfold srch
      rw [nxV_congr (ok := okL V y (xS (lnA V) j)) (ok' := okL V y (xS (lnA V) i))]
      intro m hm s
      rw [ej]
      unfold okL
      cases hv : vOp V y m
      · rfl
      · rw [Bool.true_and, Bool.true_and]
        unfold lendB
        apply decide_eq_decide.mpr
        rw [sub_bits, sub_bits]
        constructor
        · intro h k hk e
          exact (and_self_bits.mp hL) k hk (h k hk e)
        · intro h k hk e
          rw [← hLd, lnU_bit]
          refine ⟨m, hm, ?_, e⟩
          rw [hv, Bool.true_and]
          unfold lendB
          rw [decide_eq_true_iff, sub_bits]
          exact h
    rw [this]; exact ho
  · unfold fwSz
    rw [ej]
    exact (pc_sub hL).2 hf
def fwA (V : View) (x : Int32) (r : Option Nat) : Int32 := match r with
  | none => -2
  | some i => if x = 0 then nI (pc (xS (lnA V) i)) else xS (lnA V) i
def a_fewest (V : View) (g w y x : Int32) : Int32 := if (inB x 0 1 && askB V g w y) = true then (if pc (lnA V) ≤ 10 then fwA V x (amF (fwOk V g.toNatClampNeg w.toNatClampNeg y) (fwSz V) (cS (lnA V))) else -3) else -1
theorem lnA16 {V : View} (hV : VOK V) {k : Nat} (h1 : 16 ≤ k) (h2 : k < 32) : bI (lnA V) k = false := by
  cases e : bI (lnA V) k
  · rfl
  · obtain ⟨m, hm, _, hb⟩ := (lnU_bit _).mp e
    rw [(hV.2.1 m hm).2.2.1 k h1 h2] at hb
    cases hb
theorem xS_bit {V : View} (hV : VOK V) (i : Nat) {k : Nat} (h1 : 16 ≤ k) (h2 : k < 32) : bI (xS (lnA V) i) k = false := by
  cases e : bI (xS (lnA V) i) k
  · rfl
  · have := (and_self_bits.mp (xS_sub (lnA V) i)) k h2 e
    rw [lnA16 hV h1 h2] at this
    cases this
theorem bit_neg {x : Int32} (h : bI x 31 = false) : ¬ x < 0 := by
  intro q
  rw [Int32.lt_iff_toInt_lt] at q
  have e : x.toInt = x.toBitVec.toInt := rfl
  have h' : x.toBitVec.msb = false := by
    rw [BitVec.msb_eq_getLsbD_last]
    exact h
  rw [e, BitVec.toInt_eq_toNat_of_msb h'] at q
  have : (0 : Int32).toInt = 0 := by decide
  rw [this] at q
  omega
theorem xS_ne {V : View} (hV : VOK V) (i : Nat) : ¬ xS (lnA V) i < 0 ∧ xS (lnA V) i ≠ -2 ∧ xS (lnA V) i ≠ -1 := by
  have h := xS_bit hV i (k := 31) (by decide) (by decide)
  refine ⟨bit_neg h, fun e => ?_, fun e => ?_⟩
  · rw [e] at h; exact absurd h (by decide)
  · rw [e] at h; exact absurd h (by decide)
theorem cS_1024 {V : View} (hp : pc (lnA V) ≤ 10) : cS (lnA V) ≤ 1024 := by
  unfold cS
  exact Nat.pow_le_pow_right (by decide) hp
