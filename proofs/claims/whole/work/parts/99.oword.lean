/-! words that stand there from the start; the signs of a text -/
def wds : List (List Nat) := [[110, 101, 101, 100], [103, 105, 118, 101], [101, 110, 100], [100, 97, 121, 115], [102, 101, 101], [108, 101, 110, 100], [116, 117, 114, 110], [104, 97, 118, 101], [115, 116, 111, 112], [110, 111, 116], [111, 102], [97, 110, 100], [111, 114], [105, 102], [104, 97, 118, 101], [115, 116, 111, 112], [110, 101, 101, 100], [103, 105, 118, 101], [101, 110, 100], [100, 97, 121, 115], [102, 101, 101], [108, 101, 110, 100], [116, 117, 114, 110], [110, 111, 116], [111, 102], [97, 110, 100], [111, 114], [105, 102]]
def wd (k : Nat) : List Nat := wds.getD k []
def WD (M : ej_Mem) (r : Nat) (w : List Nat) : Prop := mC M r = 10 ∧ mR M r 0 = some (r + 28) ∧ mI M r 1 = 0 ∧ mC M (r + 28) = 111 ∧ mN M (r + 28) = w.length ∧ ∀ j, j < w.length → aI M (r + 28) j = nI (w.getD j 0)
def STR (M : ej_Mem) : Prop := ∀ k, k < 28 → WD M (3 + k) (wd k)
def lowB (c : Nat) : Bool := decide (97 ≤ c ∧ c ≤ 122)
theorem wd_ok : ∀ k, k < 28 → 1 ≤ (wd k).length ∧ (wd k).length ≤ 4 ∧ ∀ j, j < (wd k).length → lowB ((wd k).getD j 0) = true := by decide +kernel
theorem STR.g {P : Nat → Nat → Prop} {M M' : ej_Mem} (f : FrG P M M') (hz : 59 ≤ mZ M) (hp : ∀ o k, o < 59 → ¬ P o k) (h : STR M) : STR M' := by
  intro k hk
  obtain ⟨h1, h2, h3, h4, h5, h6⟩ := h k hk
  obtain ⟨c1, n1⟩ := f.2.1 (3 + k) (by omega)
  obtain ⟨c2, n2⟩ := f.2.1 (3 + k + 28) (by omega)
  have e1 := fun j => f.2.2 (3 + k) (by omega) j (hp _ _ (by omega))
  have e2 := fun j => f.2.2 (3 + k + 28) (by omega) j (hp _ _ (by omega))
  exact ⟨by rw [c1]; exact h1, by rw [(e1 0).2.2.1]; exact h2, by rw [(e1 1).1]; exact h3, by rw [c2]; exact h4, by rw [n2]; exact h5, fun j hj => by rw [(e2 j).2.2.2.1]; exact h6 j hj⟩
theorem STR.fr {P : Nat → Nat → Prop} {M M' : ej_Mem} (f : Fr P M M') (hp : ∀ o k, o < 59 → ¬ P o k) (h : STR M) : STR M' := by
  intro k hk
  obtain ⟨h1, h2, h3, h4, h5, h6⟩ := h k hk
  exact ⟨by rw [f.c]; exact h1, by rw [f.r]; exact h2, by rw [f.i (hp _ _ (by omega))]; exact h3, by rw [f.c]; exact h4, by rw [f.n]; exact h5, fun j hj => by rw [f.a (hp _ _ (by omega))]; exact h6 j hj⟩
theorem shr0 : ∀ n, n ≤ 4 → nI n >>> ((0 : Int32) &&& 31) = nI n := by decide +kernel
theorem p_coder {D : Nat} (hD : 1 ≤ D) {M : ej_Mem} {r : Nat} {w : List Nat} (h : WD M r w) : cal D jm_Str_coder_7d493 [.ref r] M = some (some (.int 0), M) := by
  obtain ⟨d, rfl⟩ : ∃ d, D = d + 1 := ⟨D - 1, by omega⟩
  rw [ca_Str_coder_7d493, eq_Str_coder_7d493_0, if_neg (by decide)]
  simp only [h.1, h.2.2.1, MR, ckk_T, deR_s, deQ_s, deQ_n, bkV_s, bkI_s, bkJ_s, bkQ_s, bkQ_n, ckb0, ckb1, ckb2, ckb3, eq_self, Nat.reduceEqDiff, Nat.reduceLeDiff, Nat.reduceLT, reduceIte, true_or, or_true, not_false_eq_true, not_true_eq_false, and_self, and_true, true_and, LIT, Int32.reduceLT, Int32.reduceLE, Int32.reduceToNatClampNeg]
  rw [ckk_t (by decide)]
theorem p_strlen {D : Nat} (hD : 2 ≤ D) {M : ej_Mem} {r : Nat} {w : List Nat} (h : WD M r w) (h4 : w.length ≤ 4) : cal D jm_Str_length_8abf5 [.ref r] M = some (some (.int (nI w.length)), M) := by
  obtain ⟨d, rfl⟩ : ∃ d, D = d + 1 := ⟨D - 1, by omega⟩
  rw [ca_Str_length_8abf5, eq_Str_length_8abf5_0]
  simp only [h.1, h.2.1, h.2.2.2.1, MR, ckk_T, deR_s, deQ_s, deQ_n, bkV_s, bkI_s, bkJ_s, bkQ_s, bkQ_n, ckb0, ckb1, ckb2, ckb3, eq_self, Nat.reduceEqDiff, Nat.reduceLeDiff, Nat.reduceLT, reduceIte, true_or, or_true, not_false_eq_true, not_true_eq_false, and_self, and_true, true_and, LIT, Int32.reduceLT, Int32.reduceLE, Int32.reduceToNatClampNeg]
  rw [p_coder (by omega) h, bkI_s, h.2.2.2.2.1]
  show some (some (Value.int (nI w.length >>> ((0 : Int32) &&& 31))), M) = _
  rw [shr0 _ h4]
theorem ch128 : ∀ c, c < 128 → (Int32.toUInt32 ((nI c) &&& 255) % 65536).toInt32 = nI c ∧ (Int32.toUInt32 (nI c) % 65536).toInt32 = nI c := by decide +kernel
theorem p_chkIx {D : Nat} (hD : 2 ≤ D) (M : ej_Mem) {j n : Nat} (hj : j < n) (hn : n ≤ 4) : cal D jm_Str_checkIndex_df160 [.int (nI j), .int (nI n)] M = some (none, M) := by
  obtain ⟨d, rfl⟩ : ∃ d, D = d + 1 + 1 := ⟨D - 2, by omega⟩
  rw [ca_Str_checkIndex_df160, eq_Str_checkIndex_df160_0, ca_Prec_checkIndex_8e157, eq_Prec_checkIndex_8e157_0, if_neg (nI_pos (by omega)), if_pos (nI_lt hj (by omega)), bkI_s]
theorem p_latAt {D : Nat} (hD : 3 ≤ D) {M : ej_Mem} {r : Nat} {w : List Nat} (h : WD M r w) (h4 : w.length ≤ 4) {j : Nat} (hj : j < w.length) (hl : w.getD j 0 < 128) : cal D jm_Lat_charAt_3b067 [.ref (r + 28), .int (nI j)] M = some (some (.int (nI (w.getD j 0))), M) := by
  obtain ⟨d, rfl⟩ : ∃ d, D = d + 1 := ⟨D - 1, by omega⟩
  rw [ca_Lat_charAt_3b067, eq_Lat_charAt_3b067_0]
  simp only [h.2.2.2.1, h.2.2.2.2.1, ofNat_nI, MR, ckk_T, deR_s, deQ_s, deQ_n, bkV_s, bkI_s, bkJ_s, bkQ_s, bkQ_n, ckb0, ckb1, ckb2, ckb3, eq_self, Nat.reduceEqDiff, Nat.reduceLeDiff, Nat.reduceLT, reduceIte, true_or, or_true, not_false_eq_true, not_true_eq_false, and_self, and_true, true_and, LIT, Int32.reduceLT, Int32.reduceLE, Int32.reduceToNatClampNeg]
  rw [p_chkIx (by omega) M hj h4, bkV_s]
  simp only [h.2.2.2.1, h.2.2.2.2.1, MR, ckk_T, deR_s, deQ_s, deQ_n, bkV_s, bkI_s, bkJ_s, bkQ_s, bkQ_n, ckb0, ckb1, ckb2, ckb3, eq_self, Nat.reduceEqDiff, Nat.reduceLeDiff, Nat.reduceLT, reduceIte, true_or, or_true, not_false_eq_true, not_true_eq_false, and_self, and_true, true_and, LIT, Int32.reduceLT, Int32.reduceLE, Int32.reduceToNatClampNeg]
  rw [ckb_n hj (by omega), nI_clamp (by omega), h.2.2.2.2.2 j hj, (ch128 _ hl).1, ckk_t (ch128 _ hl).2]
theorem p_charAt {D : Nat} (hD : 5 ≤ D) {M : ej_Mem} {r : Nat} {w : List Nat} (h : WD M r w) (h4 : w.length ≤ 4) {j : Nat} (hj : j < w.length) (hl : lowB (w.getD j 0) = true) : cal D jm_Str_charAt_5068e [.ref r, .int (nI j)] M = some (some (.int (nI (w.getD j 0))), M) := by
  obtain ⟨d, rfl⟩ : ∃ d, D = d + 1 + 1 := ⟨D - 2, by omega⟩
  have hl' : w.getD j 0 < 128 := by have := of_decide_eq_true hl; omega
  rw [ca_Str_charAt_5068e, eq_Str_charAt_5068e_0]
  rw [ca_Str_isLatin1_aae02, eq_Str_isLatin1_aae02_0, if_neg (by decide)]
  have L := p_latAt (D := d + 1) (by omega) h h4 hj hl'
  generalize d + 1 = D at *
  simp only [h.1, h.2.1, h.2.2.1, MR, ckk_T, deR_s, deQ_s, deQ_n, bkV_s, bkI_s, bkJ_s, bkQ_s, bkQ_n, ckb0, ckb1, ckb2, ckb3, eq_self, Nat.reduceEqDiff, Nat.reduceLeDiff, Nat.reduceLT, reduceIte, true_or, or_true, not_false_eq_true, not_true_eq_false, and_self, and_true, true_and, LIT, Int32.reduceLT, Int32.reduceLE, Int32.reduceToNatClampNeg]
  rw [L, bkI_s, ckk_t (ch128 _ hl').2]
/-! signs -/
def sg (tp : Nat → Nat) (t p : Nat) : Nat := if p < t then tp p else 256
def sI (n : Nat) : Int32 := if n = 256 then -1 else nI n
def inr (lo hi c : Nat) : Bool := decide (lo ≤ c ∧ c ≤ hi)
theorem sI_dec : ∀ n, n ≤ 256 → ((sI n = -1) ↔ n = 256) ∧ ((sI n < 97) ↔ n < 97 ∨ n = 256) ∧ ((122 < sI n) ↔ 122 < n ∧ n ≠ 256) ∧ ((sI n < 65) ↔ n < 65 ∨ n = 256) ∧ ((88 < sI n) ↔ 88 < n ∧ n ≠ 256) ∧ ((sI n < 48) ↔ n < 48 ∨ n = 256) ∧ ((57 < sI n) ↔ 57 < n ∧ n ≠ 256) := by decide +kernel
theorem sI_in : ∀ n, n ≤ 256 → inB (sI n) 48 57 = inr 48 57 n ∧ inB (sI n) 65 88 = inr 65 88 n := by decide +kernel
theorem sI_eq {n c : Nat} (hn : n ≤ 256) (hc : c < 256) : sI n = nI c ↔ n = c := by
  unfold sI
  by_cases q : n = 256
  · rw [if_pos q]
    exact ⟨fun e => absurd e.symm (nI_nm (by omega)), fun e => by omega⟩
  · rw [if_neg q]; exact nI_eq (by omega) (by omega)
theorem sI_lit {n : Nat} (h : n < 256) : sI n = nI n := by unfold sI; rw [if_neg (by omega)]
def TPO (t : Nat) (tp : Nat → Nat) : Prop := t ≤ 400 ∧ ∀ k, k < t → tp k < 256
theorem sg_le {t : Nat} {tp : Nat → Nat} (h : TPO t tp) (p : Nat) : sg tp t p ≤ 256 := by
  unfold sg
  split
  · rename_i q; have := h.2 p q; omega
  · exact Nat.le_refl _
theorem sg_lt {t : Nat} {tp : Nat → Nat} {p c : Nat} (h : sg tp t p = c) (hc : c < 256) : p < t := by
  unfold sg at h
  split at h
  · assumption
  · omega
theorem sg_in {t : Nat} {tp : Nat → Nat} {p c : Nat} (h : p < t) (e : tp p = c) : sg tp t p = c := by unfold sg; rw [if_pos h]; exact e
theorem sgb {t : Nat} {tp : Nat → Nat} (h : TPO t tp) {p : Nat} (hp : p < t) : sI (sg tp t p) = nI (tp p) := by
  unfold sg
  rw [if_pos hp]; exact sI_lit (h.2 p hp)
theorem b255 : ∀ c, c < 256 → (nI c).toInt8.toInt32 &&& 255 = nI c := by decide +kernel
theorem b_cmp : ∀ c, c < 256 → (((nI c).toInt8.toInt32 < 97) ↔ c < 97 ∨ 128 ≤ c) ∧ ((122 < (nI c).toInt8.toInt32) ↔ 122 < c ∧ c < 128) ∧ (c < 128 → (nI c).toInt8.toInt32 = nI c) ∧ (128 ≤ c → (nI c).toInt8.toInt32 < 0) := by decide +kernel
theorem b_eq {c x : Nat} (hc : c < 256) (hx : x < 128) : (nI c).toInt8.toInt32 = nI x ↔ c = x := by
  obtain ⟨_, _, h3, h4⟩ := b_cmp c hc
  by_cases q : c < 128
  · rw [h3 q]; exact nI_eq (by omega) (by omega)
  · exact ⟨fun e => absurd (h4 (by omega)) (by rw [e]; exact nI_pos (by omega)), fun e => by omega⟩
/-- blanks, small letters -/
def bl (tp : Nat → Nat) (t : Nat) : Nat → Nat → Nat
  | 0, p => p
  | n + 1, p => if sg tp t p = 32 then bl tp t n (p + 1) else p
def blk (tp : Nat → Nat) (t p : Nat) : Nat := bl tp t 401 p
def lw (tp : Nat → Nat) (t : Nat) : Nat → Nat → Nat
  | 0, p => p
  | n + 1, p => if lowB (sg tp t p) = true then lw tp t n (p + 1) else p
def lwk (tp : Nat → Nat) (t p : Nat) : Nat := lw tp t 401 p
theorem bl_ge (tp : Nat → Nat) (t : Nat) : ∀ n p, p ≤ bl tp t n p
  | 0, p => Nat.le_refl _
  | n + 1, p => by
    unfold bl
    split
    · have := bl_ge tp t n (p + 1); omega
    · exact Nat.le_refl _
theorem bl_le (tp : Nat → Nat) (t : Nat) : ∀ n p, p ≤ t → bl tp t n p ≤ t
  | 0, p, h => h
  | n + 1, p, h => by
    unfold bl
    split
    · rename_i q; exact bl_le tp t n (p + 1) (sg_lt q (by decide))
    · exact h
theorem bl_gt (tp : Nat → Nat) (t : Nat) : ∀ n p, t ≤ p → bl tp t n p = p
  | 0, p, h => rfl
  | n + 1, p, h => by
    unfold bl
    rw [if_neg (fun q => by have := sg_lt q (by decide); omega)]
theorem bl_no (tp : Nat → Nat) (t : Nat) : ∀ n p, t - p < n → sg tp t (bl tp t n p) ≠ 32
  | 0, p, h => absurd h (Nat.not_lt_zero _)
  | n + 1, p, h => by
    unfold bl
    split
    · rename_i q; have := sg_lt q (by decide); exact bl_no tp t n (p + 1) (by omega)
    · assumption
theorem blk_fix {tp : Nat → Nat} {t p : Nat} (h : sg tp t p ≠ 32) : blk tp t p = p := by
  show (if sg tp t p = 32 then _ else p) = p
  rw [if_neg h]
theorem blk_blk {tp : Nat → Nat} {t p : Nat} (ht : t ≤ 400) : blk tp t (blk tp t p) = blk tp t p := blk_fix (bl_no tp t 401 p (by omega))
theorem lw_ge (tp : Nat → Nat) (t : Nat) : ∀ n p, p ≤ lw tp t n p
  | 0, p => Nat.le_refl _
  | n + 1, p => by
    unfold lw
    split
    · have := lw_ge tp t n (p + 1); omega
    · exact Nat.le_refl _
theorem low_lt {tp : Nat → Nat} {t p : Nat} (h : lowB (sg tp t p) = true) : p < t := by
  have := of_decide_eq_true h
  exact sg_lt (tp := tp) rfl (by omega)
theorem lw_le (tp : Nat → Nat) (t : Nat) : ∀ n p, p ≤ t → lw tp t n p ≤ t
  | 0, p, h => h
  | n + 1, p, h => by
    unfold lw
    split
    · rename_i q; exact lw_le tp t n (p + 1) (low_lt q)
    · exact h
theorem lw_run (tp : Nat → Nat) (t : Nat) : ∀ m n p, (∀ j, j < m → lowB (sg tp t (p + j)) = true) → lw tp t (m + n) p = lw tp t n (p + m)
  | 0, n, p, h => by rw [Nat.zero_add, Nat.add_zero]
  | m + 1, n, p, h => by
    rw [show m + 1 + n = m + n + 1 by omega]
    show (if lowB (sg tp t p) = true then lw tp t (m + n) (p + 1) else p) = _
    have h0 := h 0 (by omega)
    rw [Nat.add_zero] at h0
    rw [if_pos h0, lw_run tp t m n (p + 1) (fun j hj => by rw [show p + 1 + j = p + (j + 1) by omega]; exact h (j + 1) (by omega)), show p + 1 + m = p + (m + 1) by omega]
/-- a word stands there -/
def mtc (tp : Nat → Nat) (t p : Nat) (w : List Nat) : Nat → Nat → Bool
  | 0, _ => true
  | n + 1, k => decide (sg tp t (p + k) = w.getD k 0) && mtc tp t p w n (k + 1)
def stw (tp : Nat → Nat) (t p : Nat) (w : List Nat) : Bool := decide (lwk tp t p - p = w.length) && mtc tp t p w w.length 0
theorem mtc_at {tp : Nat → Nat} {t p : Nat} {w : List Nat} : ∀ n k, mtc tp t p w n k = true → ∀ j, k ≤ j → j < k + n → sg tp t (p + j) = w.getD j 0
  | 0, k, _, j, h1, h2 => by omega
  | n + 1, k, h, j, h1, h2 => by
    unfold mtc at h
    rw [Bool.and_eq_true, decide_eq_true_iff] at h
    by_cases q : j = k
    · rw [q]; exact h.1
    · exact mtc_at n (k + 1) h.2 j (by omega) (by omega)
theorem stw_len {tp : Nat → Nat} {t p : Nat} {w : List Nat} (h : stw tp t p w = true) : lwk tp t p = p + w.length := by
  unfold stw at h
  rw [Bool.and_eq_true, decide_eq_true_iff] at h
  have := lw_ge tp t 401 p
  unfold lwk at *
  omega
theorem stw_le {tp : Nat → Nat} {t p : Nat} {w : List Nat} (hp : p ≤ t) (h : stw tp t p w = true) : p + w.length ≤ t := by
  rw [← stw_len h]; exact lw_le tp t 401 p hp
/-- the same, as the class asks it -/
theorem stw_c {tp : Nat → Nat} {t p : Nat} (ht : t ≤ 400) {w : List Nat} (h1 : 1 ≤ w.length) (h4 : w.length ≤ 4) (hl : ∀ j, j < w.length → lowB (w.getD j 0) = true) : stw tp t p w = (decide (p + w.length ≤ t) && !(decide (p + w.length < t) && lowB (sg tp t (p + w.length))) && mtc tp t p w w.length 0) := by
  unfold stw
  cases hm : mtc tp t p w w.length 0
  · rw [Bool.and_false, Bool.and_false]
  · rw [Bool.and_true, Bool.and_true]
    have at' : ∀ j, j < w.length → sg tp t (p + j) = w.getD j 0 := fun j hj => mtc_at _ 0 hm j (Nat.zero_le j) (by omega)
    have run := lw_run tp t w.length (401 - w.length) p (fun j hj => by rw [at' j hj]; exact hl j hj)
    rw [show w.length + (401 - w.length) = 401 by omega] at run
    have e : lwk tp t p = lw tp t (401 - w.length) (p + w.length) := run
    rw [e]
    have ge := lw_ge tp t (401 - w.length) (p + w.length)
    cases hlo : lowB (sg tp t (p + w.length)) with
    | false =>
      have : lw tp t (401 - w.length) (p + w.length) = p + w.length := by
        rw [show 401 - w.length = 400 - w.length + 1 by omega]
        show (if lowB (sg tp t (p + w.length)) = true then _ else p + w.length) = _
        rw [hlo]; rfl
      rw [this, Bool.and_false, Bool.not_false, Bool.and_true]
      have le : p + w.length ≤ t := by
        have := low_lt (tp := tp) (t := t) (p := p + (w.length - 1)) (by rw [at' _ (by omega)]; exact hl _ (by omega))
        omega
      rw [decide_eq_true le, decide_eq_true (by omega)]
    | true =>
      have lt := low_lt hlo
      have : p + w.length < lw tp t (401 - w.length) (p + w.length) := by
        rw [show 401 - w.length = 400 - w.length + 1 by omega]
        show p + w.length < (if lowB (sg tp t (p + w.length)) = true then lw tp t (400 - w.length) (p + w.length + 1) else p + w.length)
        rw [if_pos hlo]
        have := lw_ge tp t (400 - w.length) (p + w.length + 1)
        omega
      rw [decide_eq_true lt, decide_eq_true (by omega : p + w.length ≤ t), decide_eq_false (by omega)]
      rfl
