/-! the reference's reading of its texts: contracts over a memory whose stack of truth values is whatever it is -/
def Rd (M : ej_Mem) (r : ej_Mem → Option ej_R) (v : Int32) : Prop := ∀ g, ∃ g', r (setF M 104 g) = some (some (.int v), setF M 104 g')
abbrev Arr : Type := Nat → Nat → Int32
def rC (A : Arr) (sl : Nat) : Nat := (A 95 sl).toNatClampNeg
def rTs (A : Arr) (q : Nat) (s : Int32) : Bool := rT (A 93) (A 94) (200 * (q / 12) + (A 98 q).toNatClampNeg) (200 * (q / 12) + (A 99 q).toNatClampNeg) s
def clOK (A : Arr) (sl q : Nat) : Prop := ∃ a b, A 98 q = nI a ∧ A 99 q = nI b ∧ a ≤ b ∧ b ≤ 200 ∧ (a < b → pOK (A 93) (b - a) (200 * sl + a) 0)
def slOK (A : Arr) (sl : Nat) : Prop := ∃ c, A 95 sl = nI c ∧ c ≤ 12 ∧ (48 ≤ sl → c = 1) ∧ ∀ i, i < c → clOK A sl (12 * sl + i) ∧ (sl < 40 → A 96 (12 * sl + i) = 0 → A 98 (12 * sl + i) ≠ A 99 (12 * sl + i)) ∧
  (40 ≤ sl → sl < 48 → A 96 (12 * sl + i) = 1 → A 98 (12 * sl + i) ≠ A 99 (12 * sl + i)) ∧ (48 ≤ sl → A 98 (12 * sl + i) ≠ A 99 (12 * sl + i))
def rUn (A : Arr) (sl : Nat) (k : Int32) : Nat → Nat → Int32 → Int32
  | 0, _, acc => acc
  | n + 1, q, acc => rUn A sl k n (q + 1) (acc ||| (if A 96 q = k then (if k = 5 ∧ sl < 40 then 1 <<< (A 97 q &&& 31) else A 97 q) else 0))
def rU (A : Arr) (sl : Nat) (k : Int32) : Int32 := rUn A sl k (rC A sl) (12 * sl) 0
def rNd (A : Arr) (s : Int32) : Nat → Nat → Bool → Bool
  | 0, _, b => b
  | n + 1, q, b => rNd A s n (q + 1) (b && !(decide (A 96 q = 0) && !(rTs A q s)))
def rNeed (A : Arr) (m : Nat) (s : Int32) : Bool := rNd A s (rC A m) (12 * m) true
def rBr (A : Arr) (s : Int32) : Nat → Nat → Bool → Bool
  | 0, _, b => b
  | n + 1, q, b => rBr A s n (q + 1) (b || (decide (A 96 q = 1) && rTs A q s))
def rBar (A : Arr) (sl : Nat) (s : Int32) : Bool := rBr A s (rC A sl) (12 * sl) false
def rTn (A : Arr) (s : Int32) : Nat → Nat → Int32 → Int32
  | 0, _, acc => acc
  | n + 1, q, acc => rTn A s n (q + 1) (acc ||| (if A 96 q = 6 ∧ (A 98 q = A 99 q ∨ rTs A q s = true) then 1 <<< (A 97 q &&& 31) else 0))
def rTurn (A : Arr) (m : Nat) (s : Int32) : Int32 := rTn A s (rC A m) (12 * m) 0
def bitI (x : Int32) (k : Nat) : Bool := decide ((x >>> (nI k &&& 31)) &&& 1 = 1)
def rSt (A : Arr) (fc : Int32) (s : Int32) : Nat → Nat → Bool → Bool
  | 0, _, b => b
  | n + 1, k, b => rSt A fc s n (k + 1) (b || (bitI fc k && rTs A (12 * (64 + k)) s))
def rBeh (A : Arr) (m : Nat) (s : Int32) : Int32 := (s &&& (rU A m 2 ^^^ -1)) ||| rU A m 1
theorem mul12 (n : Nat) : (12 : Int32) * nI n = nI (12 * n) := pk_mul 12 n
theorem mul200 (n : Nat) : (200 : Int32) * nI n = nI (200 * n) := pk_mul 200 n
theorem p_slotOf {D : Nat} (hD : 1 ≤ D) (k n : Int32) (M : ej_Mem) : cal D jm_Ref_slotOf [.int k, .int n] M = some (some (.int (n + (if k = 0 then 0 else if k = 1 then 40 else if k = 2 then 48 else 64))), M) := by
  obtain ⟨d, rfl⟩ : ∃ d, D = d + 1 := ⟨D - 1, by omega⟩
  rw [ca_Ref_slotOf, eq_Ref_slotOf_0]
  by_cases h0 : k = 0
  · rw [if_pos h0, if_pos h0]
  · rw [if_neg h0, if_neg h0]
    by_cases h1 : k = 1
    · rw [if_pos h1, if_pos h1]
    · rw [if_neg h1, if_neg h1]
      by_cases h2 : k = 2
      · rw [if_pos h2, if_pos h2]
      · rw [if_neg h2, if_neg h2]
theorem slot1 (n : Nat) : nI n + (if (1 : Int32) = 0 then 0 else if (1 : Int32) = 1 then 40 else if (1 : Int32) = 2 then 48 else 64) = nI (40 + n) := by
  rw [if_neg (by decide), if_pos rfl, Nat.add_comm]; exact nI_add n 40
theorem slot2 (n : Nat) : nI n + (if (2 : Int32) = 0 then 0 else if (2 : Int32) = 1 then 40 else if (2 : Int32) = 2 then 48 else 64) = nI (48 + n) := by
  rw [if_neg (by decide), if_neg (by decide), if_pos rfl, Nat.add_comm]; exact nI_add n 48
theorem slot3 (n : Nat) : nI n + (if (3 : Int32) = 0 then 0 else if (3 : Int32) = 1 then 40 else if (3 : Int32) = 2 then 48 else 64) = nI (64 + n) := by
  rw [if_neg (by decide), if_neg (by decide), if_neg (by decide), Nat.add_comm]; exact nI_add n 64
theorem p_isTrue {D : Nat} (hD : 3 ≤ D) {M : ej_Mem} (h : RW M) {sl q : Nat} (hq : q < 864) (hsl : q / 12 = sl) (ho : clOK (aI M) sl q) (hne : aI M 98 q ≠ aI M 99 q) (s : Int32) :
    Rd M (cal D jm_Ref_isTrue [.ref 90, .int (nI q), .int s]) (b2i (rTs (aI M) q s)) := by
  intro g
  obtain ⟨d, rfl⟩ : ∃ d, D = d + 1 := ⟨D - 1, by omega⟩
  obtain ⟨a, b, ha, hb, hab, hb2, hp⟩ := ho
  have hlt : a < b := by
    rcases Nat.lt_or_ge a b with x | x
    · exact x
    · exfalso; apply hne; rw [ha, hb, Nat.le_antisymm hab x]
  have hsl2 : sl < 72 := by omega
  rw [ca_Ref_isTrue, eq_Ref_isTrue_0]
  simp only [RW.all h, MR, ckk_T, deR_s, deQ_s, deQ_n, bkV_s, bkI_s, bkJ_s, bkQ_s, bkQ_n, ckb0, ckb1, ckb2, ckb3, eq_self, Nat.reduceEqDiff, Nat.reduceLeDiff, Nat.reduceLT, reduceIte, true_or, or_true, not_false_eq_true, not_true_eq_false, and_self, and_true, true_and, LIT, Int32.reduceLT, Int32.reduceLE, Int32.reduceToNatClampNeg]
  rw [ckb_n hq (by decide), nI_clamp (by omega : q < 2 ^ 31)]
  have e1 : nI q / 12 = nI sl := by rw [← hsl]; exact pk_div (by omega) (by decide) (by decide)
  rw [e1, mul200, ha, nI_add]
  have hcl : ∀ k v s M, cal d jm_Ref_counts [.int k, .int v, .int s] M = some (some (.int (b2i (cntB k v s))), M) := fun k v s M => p_counts (by omega) k v s M
  have hR : rTs (aI M) q s = (rE (aI M 93) (aI M 94) s (b - a) (200 * sl + a) (0, fun _ => false)).2 0 := by
    unfold rTs rT
    rw [hsl, ha, hb, nI_clamp (by omega), nI_clamp (by omega), show 200 * sl + b - (200 * sl + a) = b - a by omega]
  rw [hR]
  exact isTrue_loop hcl h hq rfl hb (by omega) (b - a) (200 * sl + a) (0, fun _ => false) g none (by omega) (by show 0 + (b - a) ≤ 200; omega) (hp hlt) (fun i hi => absurd hi (Nat.not_lt_zero i))
theorem slOK_cl {A : Arr} {sl i : Nat} (h : slOK A sl) (hi : i < rC A sl) : clOK A sl (12 * sl + i) := by
  obtain ⟨c, hc, hc2, _, ho⟩ := h
  unfold rC at hi
  rw [hc, nI_clamp (by omega)] at hi
  exact (ho i hi).1
theorem slOK_c {A : Arr} {sl : Nat} (h : slOK A sl) : A 95 sl = nI (rC A sl) ∧ rC A sl ≤ 12 := by
  obtain ⟨c, hc, hc2, _, ho⟩ := h
  unfold rC
  rw [hc, nI_clamp (by omega)]
  exact ⟨rfl, hc2⟩
theorem union_loop (cl : Nat → List Value → ej_Mem → Option ej_R) {M : ej_Mem} (h : RW M) {sl : Nat} (hsl : sl < 72) (ho : slOK (aI M) sl) (k : Int32) (g : Nat → Int32) : ∀ (n q : Nat) (acc : Int32), q + n = 12 * sl + rC (aI M) sl → 12 * sl ≤ q →
    rn jm_Ref_union cl 8 [some (.ref 90), some (.int (nI sl)), some (.int k), some (.int acc), some (.int (nI q))] [] (setF M 104 g) = some (some (.int (rUn (aI M) sl k n q acc)), setF M 104 g)
  | 0, q, acc, hq, hq0 => by
    obtain ⟨hc, hc2⟩ := slOK_c ho
    rw [eq_Ref_union_8]
    simp only [RW.all h, MR, ckk_T, deR_s, deQ_s, deQ_n, bkV_s, bkI_s, bkJ_s, bkQ_s, bkQ_n, ckb0, ckb1, ckb2, ckb3, eq_self, Nat.reduceEqDiff, Nat.reduceLeDiff, Nat.reduceLT, reduceIte, true_or, or_true, not_false_eq_true, not_true_eq_false, and_self, and_true, true_and, LIT, Int32.reduceLT, Int32.reduceLE, Int32.reduceToNatClampNeg, mul12]
    rw [ckb_n hsl (by decide), nI_clamp (by omega : sl < 2 ^ 31), hc, nI_add, if_pos (nI_le (by omega) (by omega))]
    rfl
  | n + 1, q, acc, hq, hq0 => by
    obtain ⟨hc, hc2⟩ := slOK_c ho
    have ih := union_loop cl h hsl ho k g n (q + 1)
    rw [eq_Ref_union_8]
    simp only [RW.all h, MR, ckk_T, deR_s, deQ_s, deQ_n, bkV_s, bkI_s, bkJ_s, bkQ_s, bkQ_n, ckb0, ckb1, ckb2, ckb3, eq_self, Nat.reduceEqDiff, Nat.reduceLeDiff, Nat.reduceLT, reduceIte, true_or, or_true, not_false_eq_true, not_true_eq_false, and_self, and_true, true_and, LIT, Int32.reduceLT, Int32.reduceLE, Int32.reduceToNatClampNeg, mul12]
    rw [ckb_n hsl (by decide), nI_clamp (by omega : sl < 2 ^ 31), hc, nI_add, if_neg (nI_ge (by omega) (by omega)), ckb_n (by omega : q < 864) (by decide), nI_clamp (by omega : q < 2 ^ 31)]
    simp only [ckb_n (show q < 864 by omega) (by decide), nI_1]
    have hU : rUn (aI M) sl k (n + 1) q acc = rUn (aI M) sl k n (q + 1) (acc ||| (if aI M 96 q = k then (if k = 5 ∧ sl < 40 then 1 <<< (aI M 97 q &&& 31) else aI M 97 q) else 0)) := rfl
    rw [hU]
    by_cases h1 : aI M 96 q = k
    · rw [if_pos h1, if_pos h1]
      by_cases h2 : k = 5
      · rw [if_pos h2]
        by_cases h3 : sl < 40
        · rw [if_neg (show ¬ (40 : Int32) ≤ nI sl from nI_ge h3 (by decide)), if_pos ⟨h2, h3⟩]
          exact ih _ (by omega) (by omega)
        · rw [if_pos (show (40 : Int32) ≤ nI sl from nI_le (a := 40) (by omega) (by omega)), if_neg (fun q => h3 q.2)]
          exact ih _ (by omega) (by omega)
      · rw [if_neg h2, if_neg (fun q => h2 q.1)]
        exact ih _ (by omega) (by omega)
    · rw [if_neg h1, if_neg h1]
      exact ih _ (by omega) (by omega)
theorem p_union {D : Nat} (hD : 1 ≤ D) {M : ej_Mem} (h : RW M) {sl : Nat} (hsl : sl < 72) (ho : slOK (aI M) sl) (k : Int32) (g : Nat → Int32) :
    cal D jm_Ref_union [.ref 90, .int (nI sl), .int k] (setF M 104 g) = some (some (.int (rU (aI M) sl k)), setF M 104 g) := by
  obtain ⟨d, rfl⟩ : ∃ d, D = d + 1 := ⟨D - 1, by omega⟩
  rw [ca_Ref_union, eq_Ref_union_0, mul12]
  exact union_loop (cal d) h hsl ho k g _ _ 0 rfl (Nat.le_refl _)
theorem p_firstOf {D : Nat} (hD : 2 ≤ D) {M : ej_Mem} (h : RW M) {gi : Nat} (hg : gi < 8) (ho : slOK (aI M) (40 + gi)) (g : Nat → Int32) :
    cal D jm_Ref_firstOf [.ref 90, .int (nI gi)] (setF M 104 g) = some (some (.int (rU (aI M) (40 + gi) 0)), setF M 104 g) := by
  obtain ⟨d, rfl⟩ : ∃ d, D = d + 1 := ⟨D - 1, by omega⟩
  rw [ca_Ref_firstOf, eq_Ref_firstOf_0, p_slotOf (by omega), slot1]
  simp only [RW.all h, MR, ckk_T, deR_s, deQ_s, deQ_n, bkV_s, bkI_s, bkJ_s, bkQ_s, bkQ_n, ckb0, ckb1, ckb2, ckb3, eq_self, Nat.reduceEqDiff, Nat.reduceLeDiff, Nat.reduceLT, reduceIte, true_or, or_true, not_false_eq_true, not_true_eq_false, and_self, and_true, true_and, LIT, Int32.reduceLT, Int32.reduceLE, Int32.reduceToNatClampNeg]
  rw [p_union (by omega) h (by omega) ho]
  rfl
theorem p_behind {D : Nat} (hD : 2 ≤ D) {M : ej_Mem} (h : RW M) {m : Nat} (hm : m < 40) (ho : slOK (aI M) m) (s : Int32) (g : Nat → Int32) :
    cal D jm_Ref_behind [.ref 90, .int (nI m), .int s] (setF M 104 g) = some (some (.int (rBeh (aI M) m s)), setF M 104 g) := by
  obtain ⟨d, rfl⟩ : ∃ d, D = d + 1 := ⟨D - 1, by omega⟩
  rw [ca_Ref_behind, eq_Ref_behind_0]
  simp only [RW.all h, MR, ckk_T, deR_s, deQ_s, deQ_n, bkV_s, bkI_s, bkJ_s, bkQ_s, bkQ_n, ckb0, ckb1, ckb2, ckb3, eq_self, Nat.reduceEqDiff, Nat.reduceLeDiff, Nat.reduceLT, reduceIte, true_or, or_true, not_false_eq_true, not_true_eq_false, and_self, and_true, true_and, LIT, Int32.reduceLT, Int32.reduceLE, Int32.reduceToNatClampNeg]
  rw [p_union (by omega) h (by omega) ho]
  simp only [RW.all h, MR, ckk_T, deR_s, deQ_s, deQ_n, bkV_s, bkI_s, bkJ_s, bkQ_s, bkQ_n, ckb0, ckb1, ckb2, ckb3, eq_self, Nat.reduceEqDiff, Nat.reduceLeDiff, Nat.reduceLT, reduceIte, true_or, or_true, not_false_eq_true, not_true_eq_false, and_self, and_true, true_and, LIT, Int32.reduceLT, Int32.reduceLE, Int32.reduceToNatClampNeg]
  rw [p_union (by omega) h (by omega) ho]
  rfl
theorem p_isWished {D : Nat} (hD : 4 ≤ D) {M : ej_Mem} (h : RW M) {w : Nat} (hw : w < 16) (ho : slOK (aI M) (48 + w)) (s : Int32) :
    Rd M (cal D jm_Ref_isWished [.ref 90, .int (nI w), .int s]) (b2i (rTs (aI M) (12 * (48 + w)) s)) := by
  intro g
  obtain ⟨d, rfl⟩ : ∃ d, D = d + 1 := ⟨D - 1, by omega⟩
  rw [ca_Ref_isWished, eq_Ref_isWished_0, p_slotOf (by omega), slot2]
  simp only [RW.all h, MR, ckk_T, deR_s, deQ_s, deQ_n, bkV_s, bkI_s, bkJ_s, bkQ_s, bkQ_n, ckb0, ckb1, ckb2, ckb3, eq_self, Nat.reduceEqDiff, Nat.reduceLeDiff, Nat.reduceLT, reduceIte, true_or, or_true, not_false_eq_true, not_true_eq_false, and_self, and_true, true_and, LIT, Int32.reduceLT, Int32.reduceLE, Int32.reduceToNatClampNeg, mul12]
  obtain ⟨c, hc, hc2, hc1, hq⟩ := ho
  have q := hq 0 (by rw [hc1 (by omega)]; decide)
  rw [Nat.add_zero] at q
  obtain ⟨g', e⟩ := p_isTrue (by omega : 3 ≤ d) h (by omega : 12 * (48 + w) < 864) (by omega) q.1 (q.2.2.2 (by omega)) s g
  refine ⟨g', ?_⟩
  rw [e]
  simp only [MR, ckk_T, deR_s, deQ_s, deQ_n, bkV_s, bkI_s, bkJ_s, bkQ_s, bkQ_n, ckb0, ckb1, ckb2, ckb3, eq_self, Nat.reduceEqDiff, Nat.reduceLeDiff, Nat.reduceLT, reduceIte, true_or, or_true, not_false_eq_true, not_true_eq_false, and_self, and_true, true_and, LIT, Int32.reduceLT, Int32.reduceLE, Int32.reduceToNatClampNeg]
  rw [ck_b2i]
theorem stop_loop1 {cl : Nat → List Value → ej_Mem → Option ej_R} {M : ej_Mem} (h : RW M) {sl : Nat} {l1 s : Int32} (hsl : 40 ≤ sl) (hsl2 : sl < 48) (ho : slOK (aI M) sl)
    (hcl : ∀ q, q < 864 → q / 12 = sl → clOK (aI M) sl q → aI M 98 q ≠ aI M 99 q → Rd M (cl jm_Ref_isTrue [.ref 90, .int (nI q), .int s]) (b2i (rTs (aI M) q s))) {R : Bool → Option ej_R → Prop}
    (hk : ∀ b g, R b (rn jm_Ref_isStopped cl 74 [some (.ref 90), some (.int l1), some (.int s), some (.int (b2i b)), some (.int (nI sl)), some (.int 0)] [] (setF M 104 g))) : ∀ (n q : Nat) (b : Bool) (g : Nat → Int32), q + n = 12 * sl + rC (aI M) sl → 12 * sl ≤ q →
    R (rBr (aI M) s n q b) (rn jm_Ref_isStopped cl 16 [some (.ref 90), some (.int l1), some (.int s), some (.int (b2i b)), some (.int (nI sl)), some (.int (nI q))] [] (setF M 104 g))
  | 0, q, b, g, hq, hq0 => by
    obtain ⟨hc, hc2⟩ := slOK_c ho
    rw [eq_Ref_isStopped_16]
    simp only [RW.all h, MR, ckk_T, deR_s, deQ_s, deQ_n, bkV_s, bkI_s, bkJ_s, bkQ_s, bkQ_n, ckb0, ckb1, ckb2, ckb3, eq_self, Nat.reduceEqDiff, Nat.reduceLeDiff, Nat.reduceLT, reduceIte, true_or, or_true, not_false_eq_true, not_true_eq_false, and_self, and_true, true_and, LIT, Int32.reduceLT, Int32.reduceLE, Int32.reduceToNatClampNeg, mul12]
    rw [ckb_n (by omega : sl < 72) (by decide), nI_clamp (by omega : sl < 2 ^ 31), hc, nI_add, if_pos (nI_le (by omega) (by omega))]
    exact hk b g
  | n + 1, q, b, g, hq, hq0 => by
    obtain ⟨hc, hc2⟩ := slOK_c ho
    have ih := stop_loop1 h hsl hsl2 ho hcl hk n (q + 1)
    rw [eq_Ref_isStopped_16]
    simp only [RW.all h, MR, ckk_T, deR_s, deQ_s, deQ_n, bkV_s, bkI_s, bkJ_s, bkQ_s, bkQ_n, ckb0, ckb1, ckb2, ckb3, eq_self, Nat.reduceEqDiff, Nat.reduceLeDiff, Nat.reduceLT, reduceIte, true_or, or_true, not_false_eq_true, not_true_eq_false, and_self, and_true, true_and, LIT, Int32.reduceLT, Int32.reduceLE, Int32.reduceToNatClampNeg, mul12]
    rw [ckb_n (by omega : sl < 72) (by decide), nI_clamp (by omega : sl < 2 ^ 31), hc, nI_add, if_neg (nI_ge (by omega) (by omega)), ckb_n (by omega : q < 864) (by decide), nI_clamp (by omega : q < 2 ^ 31), nI_1]
    show R (rBr (aI M) s n (q + 1) (b || (decide (aI M 96 q = 1) && rTs (aI M) q s))) _
    cases b
    · rw [if_pos b2i_f]
      by_cases h1 : aI M 96 q = 1
      · rw [if_pos h1]
        obtain ⟨c, hcc, _, _, hoo⟩ := ho
        have hi : q - 12 * sl < c := by
          unfold rC at hq
          rw [hcc, nI_clamp (by omega)] at hq
          omega
        have hx := hoo (q - 12 * sl) hi
        rw [show 12 * sl + (q - 12 * sl) = q by omega] at hx
        obtain ⟨g', e⟩ := hcl q (by omega) (by omega) hx.1 (hx.2.2.1 hsl hsl2 h1) g
        rw [e]
        simp only [MR, ckk_T, deR_s, deQ_s, deQ_n, bkV_s, bkI_s, bkJ_s, bkQ_s, bkQ_n, ckb0, ckb1, ckb2, ckb3, eq_self, Nat.reduceEqDiff, Nat.reduceLeDiff, Nat.reduceLT, reduceIte, true_or, or_true, not_false_eq_true, not_true_eq_false, and_self, and_true, true_and, LIT, Int32.reduceLT, Int32.reduceLE, Int32.reduceToNatClampNeg]
        rw [decide_eq_true h1, Bool.true_and, Bool.false_or]
        have ih2 := ih (rTs (aI M) q s) g' (by omega) (by omega)
        cases hb : rTs (aI M) q s
        · rw [hb] at ih2
          rw [if_pos b2i_f]; exact ih2
        · rw [hb] at ih2
          rw [if_neg (by decide)]; exact ih2
      · rw [if_neg h1, decide_eq_false h1]
        exact ih false g (by omega) (by omega)
    · rw [if_neg (by decide)]
      exact ih true g (by omega) (by omega)
theorem stop_loop2 {cl : Nat → List Value → ej_Mem → Option ej_R} {M : ej_Mem} (h : RW M) {l1 s l4 : Int32} {nS : Nat} (hn : aI M 92 3 = nI nS) (hn8 : nS ≤ 8) (ho : ∀ k, k < nS → slOK (aI M) (64 + k))
    (hsl : ∀ n M, cl jm_Ref_slotOf [.int 3, .int n] M = some (some (.int (n + (if (3 : Int32) = 0 then 0 else if (3 : Int32) = 1 then 40 else if (3 : Int32) = 2 then 48 else 64))), M))
    (hcl : ∀ q, q < 864 → clOK (aI M) (q / 12) q → aI M 98 q ≠ aI M 99 q → Rd M (cl jm_Ref_isTrue [.ref 90, .int (nI q), .int s]) (b2i (rTs (aI M) q s))) : ∀ (n k : Nat) (b : Bool) (g : Nat → Int32), k + n = nS →
    ∃ g', rn jm_Ref_isStopped cl 74 [some (.ref 90), some (.int l1), some (.int s), some (.int (b2i b)), some (.int l4), some (.int (nI k))] [] (setF M 104 g) = some (some (.int (b2i (rSt (aI M) (mI M 90 9) s n k b))), setF M 104 g')
  | 0, k, b, g, hk => by
    refine ⟨g, ?_⟩
    rw [eq_Ref_isStopped_74]
    simp only [RW.all h, MR, ckk_T, deR_s, deQ_s, deQ_n, bkV_s, bkI_s, bkJ_s, bkQ_s, bkQ_n, ckb0, ckb1, ckb2, ckb3, eq_self, Nat.reduceEqDiff, Nat.reduceLeDiff, Nat.reduceLT, reduceIte, true_or, or_true, not_false_eq_true, not_true_eq_false, and_self, and_true, true_and, LIT, Int32.reduceLT, Int32.reduceLE, Int32.reduceToNatClampNeg]
    rw [hn, if_pos (nI_le (by omega) (by omega)), ck_b2i]
    rfl
  | n + 1, k, b, g, hk => by
    have ih := stop_loop2 (l1 := l1) (l4 := l4) h hn hn8 ho hsl hcl n (k + 1)
    rw [eq_Ref_isStopped_74]
    simp only [RW.all h, MR, ckk_T, deR_s, deQ_s, deQ_n, bkV_s, bkI_s, bkJ_s, bkQ_s, bkQ_n, ckb0, ckb1, ckb2, ckb3, eq_self, Nat.reduceEqDiff, Nat.reduceLeDiff, Nat.reduceLT, reduceIte, true_or, or_true, not_false_eq_true, not_true_eq_false, and_self, and_true, true_and, LIT, Int32.reduceLT, Int32.reduceLE, Int32.reduceToNatClampNeg]
    rw [hn, if_neg (nI_ge (by omega) (by omega)), nI_1]
    show ∃ g', (_ : Option ej_R) = some (some (.int (b2i (rSt (aI M) (mI M 90 9) s n (k + 1) (b || (bitI (mI M 90 9) k && rTs (aI M) (12 * (64 + k)) s))))), setF M 104 g')
    cases b
    · rw [if_pos b2i_f]
      by_cases h1 : mI M 90 9 >>> (nI k &&& 31) &&& 1 = 1
      · rw [if_pos h1, hsl, slot3]
        simp only [RW.all h, MR, ckk_T, deR_s, deQ_s, deQ_n, bkV_s, bkI_s, bkJ_s, bkQ_s, bkQ_n, ckb0, ckb1, ckb2, ckb3, eq_self, Nat.reduceEqDiff, Nat.reduceLeDiff, Nat.reduceLT, reduceIte, true_or, or_true, not_false_eq_true, not_true_eq_false, and_self, and_true, true_and, LIT, Int32.reduceLT, Int32.reduceLE, Int32.reduceToNatClampNeg, mul12]
        obtain ⟨c, hc, hc2, hc1, hq⟩ := ho k (by omega)
        have q := hq 0 (by rw [hc1 (by omega)]; decide)
        rw [Nat.add_zero] at q
        obtain ⟨g', e⟩ := hcl (12 * (64 + k)) (by omega) (by rw [show 12 * (64 + k) / 12 = 64 + k by omega]; exact q.1) (q.2.2.2 (by omega)) g
        rw [e]
        simp only [MR, ckk_T, deR_s, deQ_s, deQ_n, bkV_s, bkI_s, bkJ_s, bkQ_s, bkQ_n, ckb0, ckb1, ckb2, ckb3, eq_self, Nat.reduceEqDiff, Nat.reduceLeDiff, Nat.reduceLT, reduceIte, true_or, or_true, not_false_eq_true, not_true_eq_false, and_self, and_true, true_and, LIT, Int32.reduceLT, Int32.reduceLE, Int32.reduceToNatClampNeg]
        have hb : bitI (mI M 90 9) k = true := decide_eq_true h1
        rw [hb, Bool.true_and, Bool.false_or]
        have ih2 := ih (rTs (aI M) (12 * (64 + k)) s) g' (by omega)
        cases hb2 : rTs (aI M) (12 * (64 + k)) s
        · rw [hb2] at ih2
          rw [if_pos b2i_f]; exact ih2
        · rw [hb2] at ih2
          rw [if_neg (by decide)]; exact ih2
      · rw [if_neg h1]
        have hb : bitI (mI M 90 9) k = false := decide_eq_false h1
        rw [hb]
        exact ih false g (by omega)
    · rw [if_neg (by decide)]
      exact ih true g (by omega)
def rStop (A : Arr) (fc : Int32) (nS : Nat) (gi : Nat) (s : Int32) : Bool := rSt A fc s nS 0 (rBar A (40 + gi) s)
theorem p_isStopped {D : Nat} (hD : 4 ≤ D) {M : ej_Mem} (h : RW M) {gi : Nat} (hg : gi < 8) (ho : slOK (aI M) (40 + gi)) {nS : Nat} (hn : aI M 92 3 = nI nS) (hn8 : nS ≤ 8) (hos : ∀ k, k < nS → slOK (aI M) (64 + k)) (s : Int32) :
    Rd M (cal D jm_Ref_isStopped [.ref 90, .int (nI gi), .int s]) (b2i (rStop (aI M) (mI M 90 9) nS gi s)) := by
  intro g
  obtain ⟨d, rfl⟩ : ∃ d, D = d + 1 := ⟨D - 1, by omega⟩
  rw [ca_Ref_isStopped, eq_Ref_isStopped_0, p_slotOf (by omega), slot1]
  simp only [RW.all h, MR, ckk_T, deR_s, deQ_s, deQ_n, bkV_s, bkI_s, bkJ_s, bkQ_s, bkQ_n, ckb0, ckb1, ckb2, ckb3, eq_self, Nat.reduceEqDiff, Nat.reduceLeDiff, Nat.reduceLT, reduceIte, true_or, or_true, not_false_eq_true, not_true_eq_false, and_self, and_true, true_and, LIT, Int32.reduceLT, Int32.reduceLE, Int32.reduceToNatClampNeg, mul12]
  exact stop_loop1 (cl := cal d) (s := s) (l1 := nI gi) h (by omega : 40 ≤ 40 + gi) (by omega) ho (fun q hq hq2 hc hne => p_isTrue (by omega) h hq hq2 hc hne s)
    (R := fun b r => ∃ g', r = some (some (.int (b2i (rSt (aI M) (mI M 90 9) s nS 0 b))), setF M 104 g'))
    (fun b g => stop_loop2 (cl := cal d) h hn hn8 hos (fun n M => p_slotOf (by omega) 3 n M) (fun q hq hc hne => p_isTrue (by omega) h hq rfl hc hne s) nS 0 b g (by omega)) _ _ false g rfl (Nat.le_refl _)
