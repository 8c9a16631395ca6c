/-! words: what both answer -/
theorem shr_nat {j n : Nat} (hj : j < 2 ^ 31) (hn : n < 32) : nI j >>> (nI n &&& 31) = nI (j / 2 ^ n) := by
  have h1 : (nI j).toBitVec.toNat = j := pk_tn (by omega)
  have hm : (nI j).toBitVec.msb = false := by
    rw [BitVec.msb_eq_decide, h1]; exact decide_eq_false (by omega)
  apply Int32.toBitVec_inj.mp
  apply BitVec.eq_of_toNat_eq
  rw [Int32.toBitVec_shiftRight, sh32 n hn]
  show ((nI j).toBitVec.sshiftRight (BitVec.ofNat 32 n).toNat).toNat = _
  rw [BitVec.sshiftRight_eq_of_msb_false hm, BitVec.toNat_ushiftRight, h1, BitVec.toNat_ofNat, Nat.mod_eq_of_lt (by omega : n < 2 ^ 32), Nat.shiftRight_eq_div_pow]
  exact (pk_tn (Nat.lt_of_le_of_lt (Nat.div_le_self _ _) (by omega))).symm
theorem shl_30 {p : Nat} (hp : p ≤ 30) : (1 : Int32) <<< (nI p &&& 31) = nI (2 ^ p) := by
  have : ∀ k, k < 31 → (1 : Int32) <<< (nI k &&& 31) = nI (2 ^ k) := by decide +kernel
  exact this p (by omega)
theorem pow_30 {p : Nat} (hp : p ≤ 30) : 2 ^ p ≤ 2 ^ 30 := Nat.pow_le_pow_right (by decide) hp
theorem shr_iff {j n : Nat} (hj : j < 2 ^ 31) (hn : n ≤ 30) : (nI j >>> (nI n &&& 31) = 0) ↔ j < 2 ^ n := by
  rw [shr_nat hj (by omega), show (0 : Int32) = nI 0 from rfl, nI_eq (Nat.lt_of_le_of_lt (Nat.div_le_self _ _) hj) (by decide)]
  have := Nat.two_pow_pos n
  rw [Nat.div_eq_zero_iff_lt this]
/-- a set of at most n -/
def bitsB (n : Nat) (x : Int32) : Bool := hasB (2 ^ n) x
theorem bits_c {n : Nat} (hn : n ≤ 30) (x : Int32) (h : ¬ x < 0) : (bitsB n x = true ↔ ¬ (1 <<< (nI n &&& 31)) ≤ x) := by
  rw [shl_30 hn, Int32.not_le]
  unfold bitsB hasB
  rw [decide_eq_true_iff]
  exact ⟨fun q => q.2, fun q => ⟨Int32.not_lt.mp h, q⟩⟩
theorem bits_r {n : Nat} (hn : n ≤ 30) (x : Int32) (h : ¬ x < 0) : (bitsB n x = true ↔ x >>> (nI n &&& 31) = 0) := by
  have := pow_30 hn
  obtain ⟨j, hj, rfl⟩ : ∃ j, j < 2 ^ 31 ∧ x = nI j := by
    have h0 : ¬ x.toInt < 0 := fun q => h (Int32.lt_iff_toInt_lt.mpr (by simpa using q))
    refine ⟨x.toInt.toNat, ?_, ?_⟩
    · have := x.toInt_lt; omega
    · apply Int32.toInt_inj.mp
      rw [nI_toInt (by have := x.toInt_lt; omega)]
      omega
  rw [shr_iff hj hn]
  unfold bitsB
  constructor
  · intro q
    obtain ⟨k, hk, e⟩ := (hasB_iff (by omega)).mp q
    rw [(nI_eq hj (by omega)).mp e]; exact hk
  · intro q
    exact (hasB_iff (by omega)).mpr ⟨j, q, rfl⟩
theorem bits_n {n : Nat} {x : Int32} (h : x < 0) : bitsB n x = false := decide_eq_false (fun q => absurd h (Int32.not_lt.mpr q.1))
def cntU (p : Nat → Bool) : Nat → Nat
  | 0 => 0
  | n + 1 => cntU p n + (if p n = true then 1 else 0)
def wdF (ok : Nat → Bool) (sz : Nat → Nat) : Nat → Option (Nat × Nat)
  | 0 => none
  | i + 1 => match wdF ok sz i with
    | none => if ok i = true then some (i, 1) else none
    | some (j, c) => if ok i = true ∧ sz i ≤ sz j then (if sz j ≤ sz i then some (j, c + 1) else some (i, 1)) else some (j, c)
theorem cntU_0 {p : Nat → Bool} : ∀ n, (∀ i, i < n → p i = false) → cntU p n = 0
  | 0, _ => rfl
  | n + 1, h => by unfold cntU; rw [cntU_0 n (fun i hi => h i (by omega)), h n (by omega)]; rfl
theorem cntU_congr {p q : Nat → Bool} : ∀ n, (∀ i, i < n → p i = q i) → cntU p n = cntU q n
  | 0, _ => rfl
  | n + 1, h => by unfold cntU; rw [cntU_congr n (fun i hi => h i (by omega)), h n (by omega)]
def WM (T : Nat) (ok : Nat → Bool) (sz : Nat → Nat) (r : Option (Nat × Nat)) : Prop := AM T ok sz (r.map Prod.fst) ∧ ∀ j c, r = some (j, c) → c = cntU (fun k => ok k && decide (sz k = sz j)) T
theorem WM.uniq {T : Nat} {ok : Nat → Bool} {sz : Nat → Nat} {r r' : Option (Nat × Nat)} (h : WM T ok sz r) (h' : WM T ok sz r') : r = r' := by
  have e := h.1.uniq h'.1
  cases r with
  | none =>
    cases r' with
    | none => rfl
    | some a => cases e
  | some a =>
    cases r' with
    | none => cases e
    | some b =>
      obtain ⟨j, c⟩ := a
      obtain ⟨j', c'⟩ := b
      have e : some j = some j' := e
      cases e
      rw [h.2 j c rfl, h'.2 j c' rfl]
theorem wdF_ok (ok : Nat → Bool) (sz : Nat → Nat) : ∀ n, WM n ok sz (wdF ok sz n)
  | 0 => ⟨fun i hi => absurd hi (Nat.not_lt_zero i), fun j c h => by cases h⟩
  | n + 1 => by
    have ih := wdF_ok ok sz n
    have st := AM.step ih.1
    unfold wdF
    cases e : wdF ok sz n with
    | none =>
      rw [e] at st ih
      show WM (n + 1) ok sz (if ok n = true then some (n, 1) else none)
      by_cases q : ok n = true
      · rw [if_pos ⟨q, Or.inl rfl⟩] at st
        rw [if_pos q]
        refine ⟨st, fun j c h => ?_⟩
        cases h
        have hz : cntU (fun k => ok k && decide (sz k = sz n)) n = 0 := cntU_0 n (fun i hi => by
          have : ok i = false := ih.1 i hi
          show (ok i && _) = false
          rw [this]; rfl)
        unfold cntU
        rw [hz, q]; simp
      · rw [if_neg (fun z => q z.1)] at st
        rw [if_neg q]
        exact ⟨st, fun j c h => by cases h⟩
    | some a =>
      obtain ⟨j, c⟩ := a
      rw [e] at st ih
      have hc := ih.2 j c rfl
      have hA : j < n ∧ ok j = true ∧ ∀ k, k < n → ok k = true → sz j ≤ sz k ∧ (sz k = sz j → j ≤ k) := ih.1
      show WM (n + 1) ok sz (if ok n = true ∧ sz n ≤ sz j then (if sz j ≤ sz n then some (j, c + 1) else some (n, 1)) else some (j, c))
      by_cases q : ok n = true ∧ sz n ≤ sz j
      · rw [if_pos q]
        by_cases q2 : sz j ≤ sz n
        · rw [if_pos q2]
          rw [if_neg (fun z => by
            rcases z.2 with h | ⟨i, h1, h2⟩
            · cases h
            · have h1 : some j = some i := h1
              cases h1; omega)] at st
          refine ⟨st, fun j' c' h => ?_⟩
          cases h
          unfold cntU
          rw [← hc, q.1, decide_eq_true (show sz n = sz j by omega)]; rfl
        · rw [if_neg q2]
          rw [if_pos ⟨q.1, Or.inr ⟨j, rfl, by omega⟩⟩] at st
          refine ⟨st, fun j' c' h => ?_⟩
          cases h
          have hz : cntU (fun k => ok k && decide (sz k = sz n)) n = 0 := cntU_0 n (fun i hi => by
            cases oi : ok i
            · exact rfl
            · have := (hA.2.2 i hi oi).1
              show (true && decide (sz i = sz n)) = false
              rw [decide_eq_false (by omega), Bool.and_false])
          unfold cntU
          rw [hz, q.1]; simp
      · rw [if_neg q]
        rw [if_neg (fun z => by
          rcases z.2 with h | ⟨i, h1, h2⟩
          · cases h
          · have h1 : some j = some i := h1
            cases h1; exact q ⟨z.1, by omega⟩)] at st
        refine ⟨st, fun j' c' h => ?_⟩
        cases h
        unfold cntU
        rw [← hc]
        have : (ok n && decide (sz n = sz j)) = false := by
          cases on : ok n
          · rfl
          · rw [decide_eq_false (fun z => q ⟨on, by omega⟩)]; rfl
        rw [this]; rfl
theorem wd_in {T : Nat} {ok : Nat → Bool} {sz : Nat → Nat} {s : Nat} {r : Nat × Nat} (hlow : ∀ j, j < T → ok j = true → s ≤ sz j) (h : wdF (fun i => decide (sz i = s) && ok i) (fun _ => 0) T = some r) : wdF ok sz T = some r := by
  obtain ⟨f, c⟩ := r
  have W := wdF_ok (fun i => decide (sz i = s) && ok i) (fun _ => 0) T
  rw [h] at W
  have hA : f < T ∧ (decide (sz f = s) && ok f) = true ∧ ∀ k, k < T → (decide (sz k = s) && ok k) = true → 0 ≤ 0 ∧ (0 = 0 → f ≤ k) := W.1
  have hc := W.2 f c rfl
  obtain ⟨a1, a2, a3⟩ := hA
  rw [Bool.and_eq_true, decide_eq_true_iff] at a2
  apply (wdF_ok ok sz T).uniq
  have hAM : AM T ok sz (some f) := ⟨a1, a2.2, fun j hj oj => ⟨by have := hlow j hj oj; omega, fun e => (a3 j hj (by rw [decide_eq_true (show sz j = s by omega), oj]; rfl)).2 rfl⟩⟩
  refine ⟨hAM, fun j' c' e => ?_⟩
  cases e
  rw [hc]
  apply cntU_congr
  intro i hi
  show (decide (sz i = s) && ok i && decide (0 = 0)) = (ok i && decide (sz i = sz f))
  rw [a2.1, decide_eq_true (rfl : 0 = 0), Bool.and_true, Bool.and_comm]
theorem wd_none {T : Nat} {ok : Nat → Bool} {sz : Nat → Nat} {s : Nat} (h : wdF (fun i => decide (sz i = s) && ok i) (fun _ => 0) T = none) : ∀ j, j < T → ok j = true → sz j ≠ s := by
  intro j hj oj e
  have W := wdF_ok (fun i => decide (sz i = s) && ok i) (fun _ => 0) T
  rw [h] at W
  have : (decide (sz j = s) && ok j) = false := W.1 j hj
  rw [oj, decide_eq_true e] at this
  cases this
theorem wd_no {T : Nat} {ok : Nat → Bool} {sz : Nat → Nat} (h : ∀ j, j < T → ok j = false) : wdF ok sz T = none := (wdF_ok ok sz T).uniq ⟨h, fun j c e => by cases e⟩
def cnF (V : View) (fc x : Int32) : Nat → Nat → Bool
  | 0, _ => true
  | n + 1, k => (!bI x k || decide ((jud V fc k 24).1 = (vR V k).2.2.length)) && cnF V fc x n (k + 1)
def wdOk (V : View) (gi wi : Nat) (y x : Int32) (i : Nat) : Bool := cnF V (nI i) x (vRn V) 0 && decide ((srch V gi wi (nI i) (fun m _ => vOp V y m)).2.2.2 = 3)
def wdSz (i : Nat) : Nat := pc (nI i)
def wdA (w : Int32) (r : Option (Nat × Nat)) : Int32 := match r with
  | none => -2
  | some (j, c) => if w = 0 then nI j else nI c
def a_words (V : View) (g w y x k : Int32) : Int32 := if (inB k 0 1 && (bitsB (vRn V) x && askB V g w y)) = true then wdA k (wdF (wdOk V g.toNatClampNeg w.toNatClampNeg y x) wdSz (2 ^ vN V 3)) else -1
theorem vSs_mono {V : View} {a b s : Int32} : ∀ n k, (∀ j, k ≤ j → j < k + n → bI a j = true → bI b j = true) → vSs V b s n k = false → vSs V a s n k = false
  | 0, _, _, _ => rfl
  | n + 1, k, h, e => by
    unfold vSs at e ⊢
    rw [Bool.or_eq_false_iff] at e ⊢
    refine ⟨?_, vSs_mono n (k + 1) (fun j h1 h2 => h j (by omega) (by omega)) e.2⟩
    cases q : bI a k
    · rfl
    · have := e.1
      rw [h k (Nat.le_refl _) (by omega) q] at this
      exact this
theorem nxV_fc {V : View} {gi : Nat} {a b : Int32} {ok : Nat → Int32 → Bool} (h : ∀ j, j < vN V 3 → bI a j = true → bI b j = true) : ∀ m x y, nxV V gi b ok m x = some y → nxV V gi a ok m x = some y := by
  intro m x y e
  unfold nxV at e ⊢
  by_cases q : m < vN V 0 ∧ ok m x = true ∧ vCh V m x ≠ x ∧ tTs (vT V 0 m) x = true ∧ vStop V gi b (vCh V m x) = false
  · rw [if_pos q] at e
    have q5 := q.2.2.2.2
    unfold vStop at q5
    rw [Bool.or_eq_false_iff] at q5
    rw [if_pos ⟨q.1, q.2.1, q.2.2.1, q.2.2.2.1, by unfold vStop; rw [q5.1, vSs_mono _ _ (fun j _ h2 => h j (by omega)) q5.2]; rfl⟩]
    exact e
  · rw [if_neg q] at e; cases e
theorem bI_full : ∀ n, n < 9 → ∀ k, k < n → bI (nI (2 ^ n) - 1) k = true := by decide +kernel
theorem pc_full : ∀ n, n < 9 → ∀ i, i < 2 ^ n → pc (nI i) ≤ n := by decide +kernel
