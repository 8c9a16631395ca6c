/-! the class's readings stay as they are where nothing is changed that they rest on -/
def WQ (P : Nat → Nat → Prop) (M : ej_Mem) (w : Nat) : Prop := (∀ k, ¬ P w k) ∧ (∀ k, ¬ P (wFc M w) k) ∧ ∀ k, ¬ P (wTn M w) k
def LQ (P : Nat → Nat → Prop) (M : ej_Mem) (l : Nat) : Prop := (∀ o, l ≤ o → o ≤ l + 10 → ∀ k, ¬ P o k) ∧ ∀ k, k < 4 → ∀ i, i < nL M l k → WQ P M (wL M l k i)
theorem wFc_fr {P : Nat → Nat → Prop} {M M' : ej_Mem} (f : Fr P M M') : wFc M' = wFc M := by funext w; unfold wFc; rw [f.r]
theorem wTn_fr {P : Nat → Nat → Prop} {M M' : ej_Mem} (f : Fr P M M') : wTn M' = wTn M := by funext w; unfold wTn; rw [f.r]
theorem WQ.fr {P : Nat → Nat → Prop} {M M' : ej_Mem} (f : Fr P M M') {w : Nat} (q : WQ P M w) : WQ P M' w := by
  unfold WQ; rw [wFc_fr f, wTn_fr f]; exact q
theorem cTst_fr {P : Nat → Nat → Prop} {M M' : ej_Mem} (f : Fr P M M') {w : Nat} (q : WQ P M w) (e s : Int32) : cTst M' w e s = cTst M w e s := by
  unfold cTst; rw [wFc_fr f, f.n, f.af q.2.1]
theorem tnC_fr {P : Nat → Nat → Prop} {M M' : ej_Mem} (f : Fr P M M') {w : Nat} (q : WQ P M w) (s : Int32) : ∀ (n j : Nat) (acc : Int32), tnC M' w s n j acc = tnC M w s n j acc
  | 0, _, _ => rfl
  | n + 1, j, acc => by
    unfold tnC
    rw [tnC_fr f q s n (j + 1), wTn_fr f, f.af q.2.2, cTst_fr f q]
theorem cTxt_fr {P : Nat → Nat → Prop} {M M' : ej_Mem} (f : Fr P M M') {w : Nat} (q : WQ P M w) : cTxt M' w = cTxt M w := by
  unfold cTxt
  have h1 : (fun s => cTst M' w (mI M' w 5) s) = fun s => cTst M w (mI M w 5) s := by funext s; rw [f.if q.1, cTst_fr f q]
  have h2 : (fun s => tnC M' w s (mN M' (wTn M' w) / 2) 0 0) = fun s => tnC M w s (mN M (wTn M w) / 2) 0 0 := by funext s; rw [wTn_fr f, f.n, tnC_fr f q]
  rw [f.if q.1] at *
  rw [h1, h2]
theorem WA.fr {P : Nat → Nat → Prop} {M M' : ej_Mem} (f : Fr P M M') {w : Nat} (q : WQ P M w) (h : WA M w) : WA M' w := by
  unfold WA
  rw [wFc_fr f, wTn_fr f, f.c, f.r, f.n, f.if q.1, f.af q.2.1, f.af q.2.2]
  exact h
theorem nL_fr {P : Nat → Nat → Prop} {M M' : ej_Mem} (f : Fr P M M') {l : Nat} (q : LQ P M l) (k : Nat) : nL M' l k = nL M l k := by
  unfold nL; rw [f.a (q.1 (l + 2) (by omega) (by omega) k)]
theorem wL_fr {P : Nat → Nat → Prop} {M M' : ej_Mem} (f : Fr P M M') (l k i : Nat) : wL M' l k i = wL M l k i := by
  unfold wL; rw [f.ar]
theorem LQ.fr {P : Nat → Nat → Prop} {M M' : ej_Mem} (f : Fr P M M') {l : Nat} (q : LQ P M l) : LQ P M' l := by
  refine ⟨q.1, fun k hk i hi => ?_⟩
  rw [nL_fr f q] at hi
  rw [wL_fr f]
  exact (q.2 k hk i hi).fr f
theorem LA.fr {P : Nat → Nat → Prop} {M M' : ej_Mem} (f : Fr P M M') {l : Nat} (h : LA M l) : LA M' l := by
  unfold LA; rw [f.c, f.r, f.n]; exact h
theorem LT.fr {P : Nat → Nat → Prop} {M M' : ej_Mem} (f : Fr P M M') {l : Nat} (q : LQ P M l) (h : LT M l) : LT M' l := by
  intro k hk
  obtain ⟨h1, h2, h3⟩ := h k hk
  rw [nL_fr f q, f.a (q.1 (l + 2) (by omega) (by omega) k), f.ar]
  refine ⟨h1, h2, fun i hi => ?_⟩
  rw [wL_fr f]
  exact ⟨(h3 i hi).1, (h3 i hi).2.fr f (q.2 k hk i hi)⟩
theorem ST.fr {P : Nat → Nat → Prop} {M M' : ej_Mem} (f : Fr P M M') (q : ∀ k, ¬ P 1 k ∧ ¬ P 2 k) (h : ST M) : ST M' := by
  unfold ST; rw [f.c, f.n, f.af (fun k => (q k).1), f.af (fun k => (q k).2)]; exact h
theorem stC_fr {P : Nat → Nat → Prop} {M M' : ej_Mem} (f : Fr P M M') {l : Nat} (q : LQ P M l) (fc s : Int32) : ∀ (n k : Nat), k + n ≤ nL M l 3 → stC M' l fc s n k = stC M l fc s n k
  | 0, _, _ => rfl
  | n + 1, k, hk => by
    unfold stC
    have q2 := q.2 3 (by decide) k (by omega)
    rw [stC_fr f q fc s n (k + 1) (by omega), wL_fr f, cTst_fr f q2, f.if q2.1]
theorem stopC_fr {P : Nat → Nat → Prop} {M M' : ej_Mem} (f : Fr P M M') {l g : Nat} (q : LQ P M l) (qg : WQ P M g) (fc s : Int32) : stopC M' l g fc s = stopC M l g fc s := by
  unfold stopC
  rw [nL_fr f q, stC_fr f q fc s _ _ (by omega), cTst_fr f qg, f.if qg.1]
theorem ledC_fr {P : Nat → Nat → Prop} {M M' : ej_Mem} (f : Fr P M M') {l g : Nat} (q : LQ P M l) (qg : WQ P M g) (fc : Int32) (al : Nat → Bool) {m : Nat} (hm : m < nL M l 0) (s : Int32) : ledC M' l g fc al m s = ledC M l g fc al m s := by
  have q2 := q.2 0 (by decide) m hm
  unfold ledC chC
  rw [wL_fr f, f.if q2.1, cTst_fr f q2, stopC_fr f q qg]
/-- what leads where in a search by these terms -/
def nxC (M : ej_Mem) (l t g m : Nat) (s : Int32) : Option Int32 :=
  if m < nL M l 0 ∧ (mI M t 4 = 65535 ∨ (cTxt M (wL M l 0 m)).2.2.2.2.2.2 s &&& (mI M t 4 ^^^ -1) = 0) then ledC M l g (mI M t 3) (bJ (mL M t 2)) m s else none
def wsC (M : ej_Mem) (w : Nat) (s : Int32) : Bool := cTst M w (mI M w 5) s
def CX (M : ej_Mem) (l t g : Nat) : Prop := ST M ∧ LA M l ∧ LT M l ∧ TA M t ∧ mR M t 0 = some g ∧ WA M g
def CQ (P : Nat → Nat → Prop) (M : ej_Mem) (l t g : Nat) : Prop := LQ P M l ∧ WQ P M g ∧ (∀ k, ¬ P t k) ∧ ∀ k, ¬ P 1 k ∧ ¬ P 2 k
theorem nxC_fr {P : Nat → Nat → Prop} {M M' : ej_Mem} (f : Fr P M M') {l t g : Nat} (q : CQ P M l t g) : nxC M' l t g = nxC M l t g := by
  funext m s
  unfold nxC
  rw [nL_fr f q.1, f.if q.2.2.1, f.l, wL_fr f]
  by_cases hm : m < nL M l 0
  · rw [cTxt_fr f (q.1.2 0 (by decide) m hm), ledC_fr f q.1 q.2.1 _ _ hm]
  · rw [if_neg (fun x => hm x.1), if_neg (fun x => hm x.1)]
theorem wsC_fr {P : Nat → Nat → Prop} {M M' : ej_Mem} (f : Fr P M M') {w : Nat} (q : WQ P M w) : wsC M' w = wsC M w := by
  funext s; unfold wsC; rw [cTst_fr f q, f.if q.1]
theorem CX.fr {P : Nat → Nat → Prop} {M M' : ej_Mem} (f : Fr P M M') {l t g : Nat} (q : CQ P M l t g) (h : CX M l t g) : CX M' l t g := by
  obtain ⟨h1, h2, h3, h4, h5, h6⟩ := h
  exact ⟨h1.fr f q.2.2.2, h2.fr f, h3.fr f q.1, by unfold TA; rw [f.c]; exact h4, by rw [f.r]; exact h5, h6.fr f q.2.1⟩
theorem CQ.fr {P : Nat → Nat → Prop} {M M' : ej_Mem} (f : Fr P M M') {l t g : Nat} (q : CQ P M l t g) : CQ P M' l t g := ⟨q.1.fr f, q.2.1.fr f, q.2.2.1, q.2.2.2⟩
