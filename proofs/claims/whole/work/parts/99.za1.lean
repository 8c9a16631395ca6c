/-! clauses: what they say, pure -/
def fwd (tp : Nat → Nat) (t q b : Nat) : Nat → Nat → Nat
  | 0, k => k
  | n + 1, k => if stw tp t q (wd (b + k)) = true then k else fwd tp t q b n (k + 1)
/-- sort 0 a move, 1 a gift: how many words, the first of them -/
def wN (so : Nat) : Nat := if so = 1 then 2 else 7
def wB (so : Nat) : Nat := if so = 1 then 7 else 0
def wK (tp : Nat → Nat) (t so q : Nat) : Nat := fwd tp t q (wB so) (wN so) 0
theorem fwd_le (tp : Nat → Nat) (t q b : Nat) : ∀ n k, k ≤ fwd tp t q b n k ∧ fwd tp t q b n k ≤ k + n
  | 0, k => ⟨Nat.le_refl _, Nat.le_refl _⟩
  | n + 1, k => by
    unfold fwd
    split
    · exact ⟨Nat.le_refl _, by omega⟩
    · have := fwd_le tp t q b n (k + 1); omega
theorem fwd_w (tp : Nat → Nat) (t q b : Nat) : ∀ n k, fwd tp t q b n k < k + n → stw tp t q (wd (b + fwd tp t q b n k)) = true
  | 0, k, h => by unfold fwd at h; omega
  | n + 1, k, h => by
    unfold fwd at h ⊢
    split
    · rename_i w; exact w
    · rename_i w
      rw [if_neg w] at h
      exact fwd_w tp t q b n (k + 1) (by omega)
def mostN (k : Nat) : Nat := if k = 3 then 999 else if k = 4 then 9999 else 15
theorem mostN_lt (k : Nat) : mostN k < 100000 := by unfold mostN; split; decide; split; decide; decide
def b1I (v : Nat) : Int32 := 1 <<< (nI v &&& 31)
/-- the text so far, and one clause more -/
def xSet (so k : Nat) (x : Int32) (T : Txt) : Txt := if so = 1 then (tGv T ||| x, tEn T, tDy T, tFe T, tLn T, tTs T, tTu T) else if k = 1 then (tGv T ||| x, tEn T, tDy T, tFe T, tLn T, tTs T, tTu T) else (tGv T, tEn T ||| x, tDy T, tFe T, tLn T, tTs T, tTu T)
def xTst (so : Nat) (w : Prd) (T : Txt) : Txt := (tGv T, tEn T, tDy T, tFe T, tLn T, if so = 1 then (fun s => tTs T s || w s) else (fun s => tTs T s && w s), tTu T)
def xNum (k v : Nat) (T : Txt) : Txt := if k = 3 then (tGv T, tEn T, tDy T ||| nI v, tFe T, tLn T, tTs T, tTu T) else if k = 4 then (tGv T, tEn T, tDy T, tFe T ||| nI v, tLn T, tTs T, tTu T) else (tGv T, tEn T, tDy T, tFe T, tLn T ||| b1I v, tTs T, tTu T)
def xTrn (v : Nat) (w : Prd) (T : Txt) : Txt := (tGv T, tEn T, tDy T, tFe T, tLn T, tTs T, fun s => tTu T s ||| (if w s = true then b1I v else 0))
/-- place, clauses told, facts told, days told, a fee told, the text -/
abbrev ClS : Type := Nat × Nat × Nat × Bool × Bool × Txt
def isTk (so k : Nat) : Bool := if so = 1 then decide (k = 1) else decide (k = 0)
def cls (tp : Nat → Nat) (t so : Nat) (st : ClS) : Nat ⊕ ClS := match st with
  | (p, n, c, sd, sf, T) =>
    if wK tp t so (blk tp t p) = wN so then .inl (flt 0 (blk tp t p))
    else if n = 12 ∨ (so = 0 ∧ ((wK tp t so (blk tp t p) = 3 ∧ sd = true) ∨ (wK tp t so (blk tp t p) = 4 ∧ sf = true))) then .inl (flt 4 (blk tp t p))
    else if isTk so (wK tp t so (blk tp t p)) = true then (match tst tp t (lwk tp t (blk tp t p)) c with
      | .inl g => .inl g
      | .inr (p', w, c') => .inr (p', n + 1, c', sd, sf, xTst so w T))
    else if so = 1 ∨ wK tp t so (blk tp t p) = 1 ∨ wK tp t so (blk tp t p) = 2 then
      (if inr 65 88 (sg tp t (blk tp t (lwk tp t (blk tp t p)))) = true then .inr ((rts tp t 401 (blk tp t (lwk tp t (blk tp t p))) 0).1, n + 1, c, sd, sf, xSet so (wK tp t so (blk tp t p)) (rts tp t 401 (blk tp t (lwk tp t (blk tp t p))) 0).2 T)
        else .inl (flt 0 (blk tp t (lwk tp t (blk tp t p)))))
    else if nmF tp t (mostN (wK tp t so (blk tp t p))) (lwk tp t (blk tp t p)) 0 = 0 then
      (if wK tp t so (blk tp t p) = 6 then
        (if stw tp t (blk tp t (blk tp t (lwk tp t (blk tp t p)) + (num tp t (blk tp t (lwk tp t (blk tp t p)))).1)) (wd 13) = true then
          (match tst tp t (lwk tp t (blk tp t (blk tp t (lwk tp t (blk tp t p)) + (num tp t (blk tp t (lwk tp t (blk tp t p)))).1))) c with
            | .inl g => .inl g
            | .inr (p', w, c') => .inr (p', n + 1, c', sd, sf, xTrn (num tp t (blk tp t (lwk tp t (blk tp t p)))).2 w T))
          else .inr (blk tp t (blk tp t (lwk tp t (blk tp t p)) + (num tp t (blk tp t (lwk tp t (blk tp t p)))).1), n + 1, c, sd, sf, xTrn (num tp t (blk tp t (lwk tp t (blk tp t p)))).2 (fun _ => true) T))
        else .inr (blk tp t (lwk tp t (blk tp t p)) + (num tp t (blk tp t (lwk tp t (blk tp t p)))).1, n + 1, c, sd || decide (wK tp t so (blk tp t p) = 3), sf || decide (wK tp t so (blk tp t p) = 4), xNum (wK tp t so (blk tp t p)) (num tp t (blk tp t (lwk tp t (blk tp t p)))).2 T))
    else .inl (nmF tp t (mostN (wK tp t so (blk tp t p))) (lwk tp t (blk tp t p)) 0)
def clrun (tp : Nat → Nat) (t so : Nat) : Nat → ClS → Nat ⊕ (Nat × Nat × Txt)
  | 0, _ => .inl 0
  | m + 1, st => match cls tp t so st with
    | .inl g => .inl g
    | .inr st' => if blk tp t st'.1 < t then (if sg tp t (blk tp t st'.1) = 59 then clrun tp t so m (blk tp t st'.1 + 1, st'.2) else .inl (flt 0 (blk tp t st'.1))) else .inr (st'.2.1, st'.2.2.1, st'.2.2.2.2.2)
def T0 (so : Nat) : Txt := (0, 0, 0, 0, 0, if so = 1 then (fun _ => false) else (fun _ => true), fun _ => 0)
/-- a text: its fault, or how many clauses, how many facts, what it says -/
def ptx (tp : Nat → Nat) (t so : Nat) : Nat ⊕ (Nat × Nat × Txt) :=
  if so < 2 then clrun tp t so 14 (0, 0, 0, false, false, T0 so)
  else match tst tp t 0 0 with
    | .inl g => .inl g
    | .inr (p', w, c') => if blk tp t p' < t then .inl (flt 0 (blk tp t p')) else .inr (1, c', (0, 0, 0, 0, 0, w, fun _ => 0))
/-! folds of the reference, one clause more -/
theorem rUn_app (A : Arr) (sl : Nat) (k : Int32) : ∀ n q acc, rUn A sl k (n + 1) q acc = rUn A sl k n q acc ||| (if A 96 (q + n) = k then (if k = 5 ∧ sl < 40 then 1 <<< (A 97 (q + n) &&& 31) else A 97 (q + n)) else 0)
  | 0, q, acc => rfl
  | n + 1, q, acc => by
    show rUn A sl k (n + 1) (q + 1) _ = _
    rw [rUn_app A sl k n (q + 1), show q + 1 + n = q + (n + 1) by omega]; rfl
theorem rNd_app (A : Arr) (s : Int32) : ∀ n q b, rNd A s (n + 1) q b = (rNd A s n q b && !(decide (A 96 (q + n) = 0) && !(rTs A (q + n) s)))
  | 0, q, b => rfl
  | n + 1, q, b => by
    show rNd A s (n + 1) (q + 1) _ = _
    rw [rNd_app A s n (q + 1), show q + 1 + n = q + (n + 1) by omega]; rfl
theorem rBr_app (A : Arr) (s : Int32) : ∀ n q b, rBr A s (n + 1) q b = (rBr A s n q b || (decide (A 96 (q + n) = 1) && rTs A (q + n) s))
  | 0, q, b => rfl
  | n + 1, q, b => by
    show rBr A s (n + 1) (q + 1) _ = _
    rw [rBr_app A s n (q + 1), show q + 1 + n = q + (n + 1) by omega]; rfl
theorem rTn_app (A : Arr) (s : Int32) : ∀ n q acc, rTn A s (n + 1) q acc = rTn A s n q acc ||| (if A 96 (q + n) = 6 ∧ (A 98 (q + n) = A 99 (q + n) ∨ rTs A (q + n) s = true) then 1 <<< (A 97 (q + n) &&& 31) else 0)
  | 0, q, acc => rfl
  | n + 1, q, acc => by
    show rTn A s (n + 1) (q + 1) _ = _
    rw [rTn_app A s n (q + 1), show q + 1 + n = q + (n + 1) by omega]; rfl
def rTxn (A : Arr) (so sl n : Nat) : Txt := if so = 1 then (rUn A sl 0 n (12 * sl) 0, 0, 0, 0, 0, fun s => rBr A s n (12 * sl) false, fun _ => 0) else (rUn A sl 1 n (12 * sl) 0, rUn A sl 2 n (12 * sl) 0, rUn A sl 3 n (12 * sl) 0, rUn A sl 4 n (12 * sl) 0, rUn A sl 5 n (12 * sl) 0, fun s => rNd A s n (12 * sl) true, fun s => rTn A s n (12 * sl) 0)
theorem rTxn_0 (A : Arr) (so sl : Nat) : rTxn A so sl 0 = T0 so := by
  unfold rTxn T0
  by_cases z : so = 1
  · rw [if_pos z, if_pos z]; rfl
  · rw [if_neg z, if_neg z]; rfl
/-- the clauses told so far are in order -/
def RCo (A : Arr) (so sl n e : Nat) : Prop := ∀ i, i < n → (∃ a b, A 98 (12 * sl + i) = nI a ∧ A 99 (12 * sl + i) = nI b ∧ a ≤ b ∧ b ≤ e ∧ (a < b → pOK (A 93) (b - a) (200 * sl + a) 0)) ∧ (so = 0 → A 96 (12 * sl + i) = 0 → A 98 (12 * sl + i) ≠ A 99 (12 * sl + i)) ∧ (so = 1 → A 96 (12 * sl + i) = 1 → A 98 (12 * sl + i) ≠ A 99 (12 * sl + i))
def SAg (A B : Arr) (sl n e : Nat) : Prop := (∀ i, i < n → B 96 (12 * sl + i) = A 96 (12 * sl + i) ∧ B 97 (12 * sl + i) = A 97 (12 * sl + i) ∧ B 98 (12 * sl + i) = A 98 (12 * sl + i) ∧ B 99 (12 * sl + i) = A 99 (12 * sl + i)) ∧ ∀ x, 200 * sl ≤ x → x < 200 * sl + e → B 93 x = A 93 x ∧ B 94 x = A 94 x
theorem rTs_sa {A B : Arr} {so sl n e i : Nat} (hi : i < n) (hn : n ≤ 12) (h : RCo A so sl n e) (g : SAg A B sl n e) (s : Int32) (he : e ≤ 200) : rTs B (12 * sl + i) s = rTs A (12 * sl + i) s := by
  obtain ⟨⟨a, b, h1, h2, h3, h4, h5⟩, _⟩ := h i hi
  obtain ⟨g1, g2, g3, g4⟩ := g.1 i hi
  have d : (12 * sl + i) / 12 = sl := by omega
  unfold rTs rT
  rw [g3, g4, h1, h2, d, nI_clamp (by omega), nI_clamp (by omega), show 200 * sl + b - (200 * sl + a) = b - a by omega]
  rw [rE_cg (b - a) (200 * sl + a) _ (fun x l u => g.2 x (by omega) (by omega))]
theorem RCo.sa {A B : Arr} {so sl n e : Nat} (h : RCo A so sl n e) (g : SAg A B sl n e) : RCo B so sl n e := by
  intro i hi
  obtain ⟨⟨a, b, h1, h2, h3, h4, h5⟩, h6, h7⟩ := h i hi
  obtain ⟨g1, g2, g3, g4⟩ := g.1 i hi
  rw [g1, g3, g4]
  exact ⟨⟨a, b, h1, h2, h3, h4, fun z => pOK_cg _ _ _ (fun x l u => (g.2 x (by omega) (by omega)).1) (h5 z)⟩, h6, h7⟩
theorem RCo.mono {A : Arr} {so sl n e e' : Nat} (h : RCo A so sl n e) (he : e ≤ e') : RCo A so sl n e' := by
  intro i hi
  obtain ⟨⟨a, b, h1, h2, h3, h4, h5⟩, h6⟩ := h i hi
  exact ⟨⟨a, b, h1, h2, h3, by omega, h5⟩, h6⟩
theorem rUn_sa {A B : Arr} {sl n e : Nat} (g : SAg A B sl n e) (k : Int32) : ∀ m, m ≤ n → rUn B sl k m (12 * sl) 0 = rUn A sl k m (12 * sl) 0
  | 0, _ => rfl
  | m + 1, h => by rw [rUn_app, rUn_app, rUn_sa g k m (by omega), (g.1 m (by omega)).1, (g.1 m (by omega)).2.1]
theorem rTxn_sa {A B : Arr} {so sl n e : Nat} (h : RCo A so sl n e) (g : SAg A B sl n e) (hn : n ≤ 12) (he : e ≤ 200) : rTxn B so sl n = rTxn A so sl n := by
  have nd : ∀ s m, m ≤ n → rNd B s m (12 * sl) true = rNd A s m (12 * sl) true := by
    intro s m
    induction m with
    | zero => intro _; rfl
    | succ m ih => intro hm; rw [rNd_app, rNd_app, ih (by omega), (g.1 m (by omega)).1, rTs_sa (show m < n by omega) hn h g s he]
  have br : ∀ s m, m ≤ n → rBr B s m (12 * sl) false = rBr A s m (12 * sl) false := by
    intro s m
    induction m with
    | zero => intro _; rfl
    | succ m ih => intro hm; rw [rBr_app, rBr_app, ih (by omega), (g.1 m (by omega)).1, rTs_sa (show m < n by omega) hn h g s he]
  have tn : ∀ s m, m ≤ n → rTn B s m (12 * sl) 0 = rTn A s m (12 * sl) 0 := by
    intro s m
    induction m with
    | zero => intro _; rfl
    | succ m ih => intro hm; rw [rTn_app, rTn_app, ih (by omega), (g.1 m (by omega)).1, (g.1 m (by omega)).2.1, (g.1 m (by omega)).2.2.1, (g.1 m (by omega)).2.2.2, rTs_sa (show m < n by omega) hn h g s he]
  unfold rTxn
  by_cases z : so = 1
  · rw [if_pos z, if_pos z, rUn_sa g 0 n (Nat.le_refl _)]
    simp only [fun s => br s n (Nat.le_refl _)]
  · rw [if_neg z, if_neg z, rUn_sa g 1 n (Nat.le_refl _), rUn_sa g 2 n (Nat.le_refl _), rUn_sa g 3 n (Nat.le_refl _), rUn_sa g 4 n (Nat.le_refl _), rUn_sa g 5 n (Nat.le_refl _)]
    simp only [fun s => nd s n (Nat.le_refl _), fun s => tn s n (Nat.le_refl _)]
/-- one clause more, by what stands in its place -/
theorem rTxn_app1 (A : Arr) (sl n : Nat) : rTxn A 1 sl (n + 1) = ((tGv (rTxn A 1 sl n) ||| (if A 96 (12 * sl + n) = 0 then A 97 (12 * sl + n) else 0), 0, 0, 0, 0, (fun s => tTs (rTxn A 1 sl n) s || (decide (A 96 (12 * sl + n) = 1) && rTs A (12 * sl + n) s)), fun _ => 0) : Txt) := by
  unfold rTxn
  rw [if_pos rfl, if_pos rfl, rUn_app]
  simp only [rBr_app]
  rw [if_neg (show ¬ ((0 : Int32) = 5 ∧ sl < 40) from fun z => absurd z.1 (by decide))]
theorem rTxn_app0 (A : Arr) {so sl : Nat} (hs : so = 0) (hl : sl < 40) (n : Nat) : rTxn A so sl (n + 1) = ((tGv (rTxn A so sl n) ||| (if A 96 (12 * sl + n) = 1 then A 97 (12 * sl + n) else 0), tEn (rTxn A so sl n) ||| (if A 96 (12 * sl + n) = 2 then A 97 (12 * sl + n) else 0), tDy (rTxn A so sl n) ||| (if A 96 (12 * sl + n) = 3 then A 97 (12 * sl + n) else 0), tFe (rTxn A so sl n) ||| (if A 96 (12 * sl + n) = 4 then A 97 (12 * sl + n) else 0), tLn (rTxn A so sl n) ||| (if A 96 (12 * sl + n) = 5 then 1 <<< (A 97 (12 * sl + n) &&& 31) else 0),
      (fun s => tTs (rTxn A so sl n) s && !(decide (A 96 (12 * sl + n) = 0) && !(rTs A (12 * sl + n) s))), fun s => tTu (rTxn A so sl n) s ||| (if A 96 (12 * sl + n) = 6 ∧ (A 98 (12 * sl + n) = A 99 (12 * sl + n) ∨ rTs A (12 * sl + n) s = true) then 1 <<< (A 97 (12 * sl + n) &&& 31) else 0)) : Txt) := by
  subst hs
  unfold rTxn
  rw [if_neg (by decide), if_neg (by decide), rUn_app, rUn_app, rUn_app, rUn_app, rUn_app]
  simp only [rNd_app, rTn_app]
  rw [if_neg (show ¬ ((1 : Int32) = 5 ∧ sl < 40) from fun z => absurd z.1 (by decide)), if_neg (show ¬ ((2 : Int32) = 5 ∧ sl < 40) from fun z => absurd z.1 (by decide)), if_neg (show ¬ ((3 : Int32) = 5 ∧ sl < 40) from fun z => absurd z.1 (by decide)), if_neg (show ¬ ((4 : Int32) = 5 ∧ sl < 40) from fun z => absurd z.1 (by decide)), if_pos (show True ∧ sl < 40 from ⟨trivial, hl⟩)]
