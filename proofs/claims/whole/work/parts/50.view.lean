/-! what both sides hold, told in one way -/
abbrev View : Type := (Nat → Nat) × (Nat → Nat → Txt) × (Nat → Int32 × Int32) × Int32 × (Nat → Int32) × (Nat × (Nat → Nat × Int32 × List Nat)) × (BS × Nat × Nat × Int32)
def vN (V : View) : Nat → Nat := V.1
def vT (V : View) : Nat → Nat → Txt := V.2.1
def vO (V : View) : Nat → Int32 × Int32 := V.2.2.1
def vF (V : View) : Int32 := V.2.2.2.1
def vH (V : View) : Nat → Int32 := V.2.2.2.2.1
def vRn (V : View) : Nat := V.2.2.2.2.2.1.1
def vR (V : View) : Nat → Nat × Int32 × List Nat := V.2.2.2.2.2.1.2
def vB (V : View) : BS := V.2.2.2.2.2.2.1
def vG (V : View) : Nat := V.2.2.2.2.2.2.2.1
def vW (V : View) : Nat := V.2.2.2.2.2.2.2.2.1
def vY (V : View) : Int32 := V.2.2.2.2.2.2.2.2.2
abbrev tGv (t : Txt) : Int32 := t.1
abbrev tEn (t : Txt) : Int32 := t.2.1
abbrev tDy (t : Txt) : Int32 := t.2.2.1
abbrev tFe (t : Txt) : Int32 := t.2.2.2.1
abbrev tLn (t : Txt) : Int32 := t.2.2.2.2.1
abbrev tTs (t : Txt) : Int32 → Bool := t.2.2.2.2.2.1
abbrev tTu (t : Txt) : Int32 → Int32 := t.2.2.2.2.2.2
def b_none : BS := ([], [], 0, 0)
/-- a view in order -/
def VOK (V : View) : Prop := (∀ k, k < 4 → vN V k ≤ mst k) ∧ (∀ m, m < vN V 0 → bI (tGv (vT V 0 m)) 31 = false ∧ (∀ s, ∀ k, 16 ≤ k → k < 32 → bI (tTu (vT V 0 m) s) k = false) ∧ (∀ k, 16 ≤ k → k < 32 → bI (tLn (vT V 0 m)) k = false) ∧ (0 ≤ tFe (vT V 0 m) ∧ tFe (vT V 0 m) ≤ 9999) ∧ 0 ≤ tDy (vT V 0 m) ∧ tDy (vT V 0 m) ≤ 999) ∧ (∀ g, g < vN V 1 → bI (tGv (vT V 1 g)) 31 = false) ∧
  (vRn V ≤ 30 ∧ ∀ r, r < vRn V → (vR V r).1 < vN V 1 ∧ (vR V r).2.2.length ≤ 24 ∧ ∀ m, m ∈ (vR V r).2.2 → m < vN V 0) ∧
  (vB V = b_none ∨ (BOK 4000 (vB V) ∧ (∀ x, x ∈ (vB V).1 → bI x 31 = false) ∧ vG V < vN V 1 ∧ vW V < vN V 2)) ∧
  (∀ r, r < 24 → -1 ≤ vH V r ∧ vH V r ≤ 15)
/-- rolls of the class, of the reference -/
def RlC (M : ej_Mem) (l : Nat) (V : View) : Prop := mI M (l + 6) 0 = nI (vRn V) ∧ ∀ r, r < vRn V → aI M (l + 7) r = nI (vR V r).1 ∧ aI M (l + 8) r = (vR V r).2.1 ∧ aI M (l + 9) r = nI (vR V r).2.2.length ∧ ∀ j, j < (vR V r).2.2.length → aI M (l + 10) (24 * r + j) = nI ((vR V r).2.2.getD j 0)
def RlR (A : Arr) (f : Nat → Int32) (V : View) : Prop := f 47 = nI (vRn V) ∧ ∀ r, r < vRn V → A 115 r = nI (vR V r).1 ∧ A 116 r = (vR V r).2.1 ∧ A 117 r = nI (vR V r).2.2.length ∧ ∀ j, j < (vR V r).2.2.length → A 118 (24 * r + j) = nI ((vR V r).2.2.getD j 0)
/-- the search of a land of the class -/
def SrC (M : ej_Mem) (l : Nat) (V : View) : Prop := ((mR M l 7 = none ∧ vB V = b_none) ∨ ∃ h, mR M l 7 = some h ∧ HR M h 4000 8192 19 (vB V)) ∧ (vB V ≠ b_none → mI M l 8 = nI (vG V) ∧ mI M l 9 = nI (vW V) ∧ mI M l 10 = vY V)
def CV (M : ej_Mem) (l : Nat) (V : View) : Prop := LA M l ∧ LT M l ∧ (∀ k, k < 4 → nL M l k = vN V k) ∧ (∀ k, k < 4 → ∀ i, i < vN V k → cTxt M (wL M l k i) = vT V k i) ∧
  (∀ m, m < vN V 0 → aI M (l + 3) m = (vO V m).1 ∧ aI M (l + 4) m = (vO V m).2) ∧ mI M l 4 = vF V ∧ (∀ r, r < 24 → aI M (l + 5) r = vH V r) ∧ RlC M l V ∧ SrC M l V
def rTx (A : Arr) (k i : Nat) : Txt :=
  if k = 0 then (rU A i 1, rU A i 2, rU A i 3, rU A i 4, rU A i 5, rNeed A i, rTurn A i)
  else if k = 1 then (rU A (40 + i) 0, 0, 0, 0, 0, rBar A (40 + i), fun _ => 0)
  else if k = 2 then (0, 0, 0, 0, 0, rTs A (12 * (48 + i)), fun _ => 0)
  else (0, 0, 0, 0, 0, rTs A (12 * (64 + i)), fun _ => 0)
def RGc (A : Arr) (f : Nat → Int32) (b : BS) : Prop := (f 31 = nI b.2.2.2 ∧ f 32 = nI b.1.length ∧ f 33 = nI b.2.2.1 ∧ f 37 = nI (b.1.length - 1)) ∧ (∀ k, k < b.1.length → A 108 k = b.1.getD k 0) ∧
  (b.1.length ≠ 0 → A 109 0 = -1) ∧ ∀ k, 0 < k → k < b.1.length → A 109 k = nI (b.2.1.getD k (0, 0)).1 ∧ A 110 k = nI (b.2.1.getD k (0, 0)).2
theorem RG_c {M : ej_Mem} {b : BS} : RG M b ↔ RGc (aI M) (mI M 90) b := Iff.rfl
def RV (A : Arr) (f : Nat → Int32) (V : View) : Prop := TXA A ∧ (∀ k, k < 4 → rN A k = vN V k) ∧ (∀ k, k < 4 → ∀ i, i < vN V k → rTx A k i = vT V k i) ∧
  (∀ m, m < vN V 0 → A 101 m = (vO V m).1 ∧ A 102 m = (vO V m).2) ∧ f 9 = vF V ∧ (∀ r, r < 24 → A 103 r = vH V r) ∧ RlR A f V ∧ RGc A f (vB V) ∧ (vB V ≠ b_none → f 34 = nI (vG V) ∧ f 35 = nI (vW V) ∧ f 36 = vY V)
/-! what leads where, by a view -/
def vCh (V : View) (m : Nat) (s : Int32) : Int32 := (s &&& (tEn (vT V 0 m) ^^^ -1)) ||| tGv (vT V 0 m)
def vSs (V : View) (fc s : Int32) : Nat → Nat → Bool
  | 0, _ => false
  | n + 1, k => (bI fc k && tTs (vT V 3 k) s) || vSs V fc s n (k + 1)
def vStop (V : View) (gi : Nat) (fc s : Int32) : Bool := tTs (vT V 1 gi) s || vSs V fc s (vN V 3) 0
def nxV (V : View) (gi : Nat) (fc : Int32) (ok : Nat → Int32 → Bool) (m : Nat) (s : Int32) : Option Int32 :=
  if m < vN V 0 ∧ ok m s = true ∧ vCh V m s ≠ s ∧ tTs (vT V 0 m) s = true ∧ vStop V gi fc (vCh V m s) = false then some (vCh V m s) else none
def vOp (V : View) (y : Int32) (m : Nat) : Bool := decide ((vO V m).1 ≤ y) && decide (y ≤ (vO V m).2)
theorem CV.txt {M : ej_Mem} {l : Nat} {V : View} (h : CV M l V) {k i : Nat} (hk : k < 4) (hi : i < vN V k) : cTxt M (wL M l k i) = vT V k i := h.2.2.2.1 k hk i hi
theorem CV.tst {M : ej_Mem} {l : Nat} {V : View} (h : CV M l V) {k i : Nat} (hk : k < 4) (hi : i < vN V k) (s : Int32) : cTst M (wL M l k i) (mI M (wL M l k i) 5) s = tTs (vT V k i) s := by
  rw [← h.txt hk hi]; rfl
theorem stC_v {M : ej_Mem} {l : Nat} {V : View} (h : CV M l V) (fc s : Int32) : ∀ n k, k + n ≤ vN V 3 → stC M l fc s n k = vSs V fc s n k
  | 0, _, _ => rfl
  | n + 1, k, hk => by
    unfold stC vSs
    rw [stC_v h fc s n (k + 1) (by omega), h.tst (by decide) (by omega)]
theorem stopC_v {M : ej_Mem} {l : Nat} {V : View} (h : CV M l V) {gi : Nat} (hg : gi < vN V 1) (fc s : Int32) : stopC M l (wL M l 1 gi) fc s = vStop V gi fc s := by
  unfold stopC vStop
  rw [h.2.2.1 3 (by decide), stC_v h fc s _ _ (by omega), h.tst (by decide) hg]
theorem chC_v {M : ej_Mem} {l : Nat} {V : View} (h : CV M l V) {m : Nat} (hm : m < vN V 0) (s : Int32) : chC M (wL M l 0 m) s = vCh V m s := by
  unfold chC vCh
  rw [← h.txt (by decide) hm]; rfl
theorem ledC_v {M : ej_Mem} {l : Nat} {V : View} (h : CV M l V) {gi : Nat} (hg : gi < vN V 1) (fc : Int32) (al : Nat → Bool) {m : Nat} (hm : m < vN V 0) (s : Int32) : ledC M l (wL M l 1 gi) fc al m s = nxV V gi fc (fun m _ => al m) m s := by
  unfold ledC nxV
  rw [chC_v h hm, h.tst (by decide) hm, stopC_v h hg]
  by_cases q : al m = true ∧ vCh V m s ≠ s ∧ tTs (vT V 0 m) s = true ∧ vStop V gi fc (vCh V m s) = false
  · rw [if_pos q, if_pos ⟨hm, q⟩]
  · rw [if_neg q, if_neg (fun z => q z.2)]
/-- who is trusted, as the class asks it -/
def trC (V : View) (tr : Int32) (m : Nat) (s : Int32) : Bool := decide (tr = 65535) || decide (tTu (vT V 0 m) s &&& (tr ^^^ -1) = 0)
theorem nxC_v {M : ej_Mem} {l t : Nat} {V : View} (h : CV M l V) {gi : Nat} (hg : gi < vN V 1) : nxC M l t (wL M l 1 gi) = nxV V gi (mI M t 3) (fun m s => bJ (mL M t 2) m && trC V (mI M t 4) m s) := by
  funext m s
  unfold nxC
  rw [h.2.2.1 0 (by decide)]
  by_cases hm : m < vN V 0
  · rw [h.txt (by decide) hm, ledC_v h hg _ _ hm]
    unfold nxV trC
    by_cases q : mI M t 4 = 65535 ∨ (tTu (vT V 0 m)) s &&& (mI M t 4 ^^^ -1) = 0
    · have e : (decide (mI M t 4 = 65535) || decide (tTu (vT V 0 m) s &&& (mI M t 4 ^^^ -1) = 0)) = true := by
        rw [Bool.or_eq_true, decide_eq_true_iff, decide_eq_true_iff]; exact q
      rw [if_pos ⟨hm, q⟩]
      simp only [e, Bool.and_true]
    · have e : (decide (mI M t 4 = 65535) || decide (tTu (vT V 0 m) s &&& (mI M t 4 ^^^ -1) = 0)) = false := by
        cases e : (decide (mI M t 4 = 65535) || decide (tTu (vT V 0 m) s &&& (mI M t 4 ^^^ -1) = 0))
        · rfl
        · rw [Bool.or_eq_true, decide_eq_true_iff, decide_eq_true_iff] at e; exact absurd e q
      rw [if_neg (fun z => q z.2)]
      simp only [e, Bool.and_false]
      rw [if_neg (fun z => by cases z.2.1)]
  · rw [if_neg (fun z => hm z.1)]
    unfold nxV
    rw [if_neg (fun z => hm z.1)]
theorem rTs_2 {A : Arr} {f : Nat → Int32} {V : View} (h : RV A f V) {i : Nat} (hi : i < vN V 2) : rTs A (12 * (48 + i)) = tTs (vT V 2 i) := by
  rw [← h.2.2.1 2 (by decide) i hi]; rfl
theorem rTs_3 {A : Arr} {f : Nat → Int32} {V : View} (h : RV A f V) {i : Nat} (hi : i < vN V 3) : rTs A (12 * (64 + i)) = tTs (vT V 3 i) := by
  rw [← h.2.2.1 3 (by decide) i hi]; rfl
theorem rSt_v {A : Arr} {f : Nat → Int32} {V : View} (h : RV A f V) (h8 : vN V 3 ≤ 8) (fc s : Int32) : ∀ n k b, k + n ≤ vN V 3 → rSt A fc s n k b = (b || vSs V fc s n k)
  | 0, _, b, _ => by show b = _; unfold vSs; simp
  | n + 1, k, b, hk => by
    unfold rSt vSs
    rw [rSt_v h h8 fc s n (k + 1) _ (by omega), rTs_3 h (by omega), bitI_eq (by omega), Bool.or_assoc]
theorem rStop_v {A : Arr} {f : Nat → Int32} {V : View} (h : RV A f V) (h8 : vN V 3 ≤ 8) {gi : Nat} (hg : gi < vN V 1) (fc s : Int32) : rStop A fc (rN A 3) gi s = vStop V gi fc s := by
  unfold rStop vStop
  rw [h.2.1 3 (by decide), rSt_v h h8 fc s _ _ _ (by omega)]
  rw [show rBar A (40 + gi) s = tTs (vT V 1 gi) s by rw [← h.2.2.1 1 (by decide) gi hg]; rfl]
theorem rBeh_v {A : Arr} {f : Nat → Int32} {V : View} (h : RV A f V) {m : Nat} (hm : m < vN V 0) (s : Int32) : rBeh A m s = vCh V m s := by
  unfold rBeh vCh
  rw [← h.2.2.1 0 (by decide) m hm]; rfl
theorem rNeed_v {A : Arr} {f : Nat → Int32} {V : View} (h : RV A f V) {m : Nat} (hm : m < vN V 0) (s : Int32) : rNeed A m s = tTs (vT V 0 m) s := by
  rw [← h.2.2.1 0 (by decide) m hm]; rfl
theorem rMay_v {A : Arr} {f : Nat → Int32} {V : View} (h : RV A f V) (h8 : vN V 3 ≤ 8) {gi m : Nat} (hg : gi < vN V 1) (hm : m < vN V 0) (y s : Int32) : (rMay A (f 9) (rN A 3) gi y m s = true) ↔ (vOp V y m = true ∧ vCh V m s ≠ s ∧ tTs (vT V 0 m) s = true ∧ vStop V gi (vF V) (vCh V m s) = false) := by
  unfold rMay vOp
  rw [rNeed_v h hm, rBeh_v h hm, rStop_v h h8 hg, (h.2.2.2.1 m hm).1, (h.2.2.2.1 m hm).2, h.2.2.2.2.1]
  simp only [Bool.and_eq_true, decide_eq_true_iff, Bool.not_eq_true']
  constructor
  · rintro ⟨⟨⟨a, b⟩, c⟩, d, e⟩; exact ⟨⟨a, b⟩, d, c, e⟩
  · rintro ⟨⟨a, b⟩, d, c, e⟩; exact ⟨⟨⟨a, b⟩, c⟩, d, e⟩
theorem nxG_v {M : ej_Mem} {V : View} (h : RV (aI M) (mI M 90) V) (h8 : vN V 3 ≤ 8) {gi : Nat} (hg : gi < vN V 1) (y : Int32) : nxG M gi y = nxV V gi (vF V) (fun m _ => vOp V y m) := by
  funext m s
  unfold nxG nxV
  rw [h.2.1 0 (by decide)]
  by_cases hm : m < vN V 0
  · rw [rBeh_v h hm]
    have := rMay_v h h8 hg hm y s
    by_cases q : rMay (aI M) (mI M 90 9) (rN (aI M) 3) gi y m s = true
    · rw [if_pos ⟨hm, q⟩, if_pos ⟨hm, this.mp q⟩]
    · rw [if_neg (fun z => q z.2), if_neg (fun z => q (this.mpr z.2))]
  · rw [if_neg (fun z => hm z.1), if_neg (fun z => hm z.1)]
/-- who is told, by a view -/
def tolV (V : View) (wi le tr : Int32) (m : Nat) (s : Int32) : Bool := decide (nI m ≠ wi) && ((decide (le = -1) || decide (tLn (vT V 0 m) &&& (le ^^^ -1) = 0)) && (decide (tr = -1) || decide (tTu (vT V 0 m) s &&& (tr ^^^ -1) = 0)))
theorem nxR_v {M : ej_Mem} {V : View} (h : RV (aI M) (mI M 90) V) (h8 : vN V 3 ≤ 8) {gi : Nat} (hg : gi < vN V 1) (y : Int32) : nxR M gi y = nxV V gi (vF V) (fun m s => tolV V (mI M 90 41) (mI M 90 40) (mI M 90 42) m s && vOp V y m) := by
  funext m s
  unfold nxR nxV
  rw [h.2.1 0 (by decide)]
  by_cases hm : m < vN V 0
  · rw [rBeh_v h hm]
    have ht : tol M m s = tolV V (mI M 90 41) (mI M 90 40) (mI M 90 42) m s := by
      unfold tol tolV
      rw [← h.2.2.1 0 (by decide) m hm]; rfl
    rw [ht]
    have := rMay_v h h8 hg hm y s
    by_cases q : tolV V (mI M 90 41) (mI M 90 40) (mI M 90 42) m s = true ∧ rMay (aI M) (mI M 90 9) (rN (aI M) 3) gi y m s = true
    · have q2 := this.mp q.2
      rw [if_pos ⟨hm, q⟩, if_pos ⟨hm, by show (tolV V (mI M 90 41) (mI M 90 40) (mI M 90 42) m s && vOp V y m) = true; rw [q.1, q2.1]; rfl, q2.2⟩]
    · rw [if_neg (fun z => q z.2), if_neg]
      rintro ⟨_, a, b⟩
      have a : (tolV V (mI M 90 41) (mI M 90 40) (mI M 90 42) m s && vOp V y m) = true := a
      rw [Bool.and_eq_true] at a
      exact q ⟨a.1, this.mpr ⟨a.2, b⟩⟩
  · rw [if_neg (fun z => hm z.1), if_neg (fun z => hm z.1)]
theorem wsR_v {M : ej_Mem} {V : View} (h : RV (aI M) (mI M 90) V) {wi : Nat} (hw : wi < vN V 2) : wsR M (some wi) = tTs (vT V 2 wi) := by
  funext s
  show rTs (aI M) _ s = _
  rw [rTs_2 h hw]
theorem wsC_v {M : ej_Mem} {l : Nat} {V : View} (h : CV M l V) {wi : Nat} (hw : wi < vN V 2) : wsC M (wL M l 2 wi) = tTs (vT V 2 wi) := by
  funext s
  unfold wsC
  rw [h.tst (by decide) hw]
theorem first_v {A : Arr} {f : Nat → Int32} {V : View} (h : RV A f V) {gi : Nat} (hg : gi < vN V 1) : rU A (40 + gi) 0 = tGv (vT V 1 gi) := by
  rw [← h.2.2.1 1 (by decide) gi hg]; rfl
theorem firstC_v {M : ej_Mem} {l : Nat} {V : View} (h : CV M l V) {gi : Nat} (hg : gi < vN V 1) : mI M (wL M l 1 gi) 0 = tGv (vT V 1 gi) := by
  rw [← h.txt (by decide) hg]; rfl
theorem nxV_congr {V : View} {gi : Nat} {fc : Int32} {ok ok' : Nat → Int32 → Bool} (h : ∀ m, m < vN V 0 → ∀ s, ok m s = ok' m s) : nxV V gi fc ok = nxV V gi fc ok' := by
  funext m s
  unfold nxV
  by_cases hm : m < vN V 0
  · rw [h m hm]
  · rw [if_neg (fun z => hm z.1), if_neg (fun z => hm z.1)]
