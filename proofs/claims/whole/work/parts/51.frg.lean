/-! frames with new cells; what rests on cells that stay -/
def FrG (P : Nat → Nat → Prop) (M M' : ej_Mem) : Prop := mZ M ≤ mZ M' ∧ (∀ o, o < mZ M → mC M' o = mC M o ∧ mN M' o = mN M o) ∧ ∀ o, o < mZ M → ∀ k, ¬ P o k → mI M' o k = mI M o k ∧ mL M' o k = mL M o k ∧ mR M' o k = mR M o k ∧ aI M' o k = aI M o k ∧ aR M' o k = aR M o k
theorem FrG.refl (P : Nat → Nat → Prop) (M : ej_Mem) : FrG P M M := ⟨Nat.le_refl _, fun _ _ => ⟨rfl, rfl⟩, fun _ _ _ _ => ⟨rfl, rfl, rfl, rfl, rfl⟩⟩
theorem FrG.trans {P : Nat → Nat → Prop} {M M' M'' : ej_Mem} (h : FrG P M M') (h' : FrG P M' M'') : FrG P M M'' := by
  obtain ⟨a1, a2, a3⟩ := h
  obtain ⟨b1, b2, b3⟩ := h'
  refine ⟨Nat.le_trans a1 b1, fun o ho => ?_, fun o ho k hp => ?_⟩
  · obtain ⟨c1, c2⟩ := a2 o ho
    obtain ⟨d1, d2⟩ := b2 o (by omega)
    exact ⟨d1.trans c1, d2.trans c2⟩
  · obtain ⟨c1, c2, c3, c4, c5⟩ := a3 o ho k hp
    obtain ⟨d1, d2, d3, d4, d5⟩ := b3 o (by omega) k hp
    exact ⟨d1.trans c1, d2.trans c2, d3.trans c3, d4.trans c4, d5.trans c5⟩
theorem FrG.mono {P Q : Nat → Nat → Prop} {M M' : ej_Mem} (h : FrG P M M') (hq : ∀ o k, o < mZ M → P o k → Q o k) : FrG Q M M' :=
  ⟨h.1, h.2.1, fun o ho k hp => h.2.2 o ho k (fun x => hp (hq o k ho x))⟩
theorem Fr.g {P : Nat → Nat → Prop} {M M' : ej_Mem} (h : Fr P M M') : FrG P M M' :=
  ⟨Nat.le_of_eq h.z.symm, fun o _ => ⟨by rw [h.c], by rw [h.n]⟩, fun o _ k hp => ⟨h.i hp, by rw [h.l], by rw [h.r], h.a hp, by rw [h.ar]⟩⟩
/-- the cells that a writ, a land, a search rest on -/
def Sup (P : Nat → Nat → Prop) (M : ej_Mem) (o : Nat) : Prop := o < mZ M ∧ ∀ k, ¬ P o k
theorem FrG.all {P : Nat → Nat → Prop} {M M' : ej_Mem} (h : FrG P M M') {o : Nat} (s : Sup P M o) : mI M' o = mI M o ∧ mL M' o = mL M o ∧ mR M' o = mR M o ∧ aI M' o = aI M o ∧ aR M' o = aR M o := by
  refine ⟨?_, ?_, ?_, ?_, ?_⟩ <;> funext k <;> have q := h.2.2 o s.1 k (s.2 k)
  · exact q.1
  · exact q.2.1
  · exact q.2.2.1
  · exact q.2.2.2.1
  · exact q.2.2.2.2
theorem FrG.setI {P : Nat → Nat → Prop} (M : ej_Mem) {o k : Nat} (v : Int32) (hp : P o k) : FrG P M (setI M o k v) := (Fr.setI M v hp).g
theorem FrG.setA {P : Nat → Nat → Prop} (M : ej_Mem) {o k : Nat} (v : Int32) (hp : P o k) : FrG P M (setA M o k v) := (Fr.setA M v hp).g
theorem FrG.setR {P : Nat → Nat → Prop} (M : ej_Mem) {o k : Nat} (v : Option Nat) (hp : P o k) : FrG P M (setR M o k v) := by
  refine ⟨Nat.le_refl _, fun _ _ => ⟨rfl, rfl⟩, fun o' _ k' h => ⟨rfl, rfl, ?_, rfl, rfl⟩⟩
  show (if o' = o then va_up (mR M o) k v else mR M o') k' = mR M o' k'
  by_cases e : o' = o
  · subst e
    rw [if_pos rfl]
    by_cases e2 : k' = k
    · subst e2; exact absurd hp h
    · exact up_n e2
  · rw [if_neg e]
theorem FrG.setL {P : Nat → Nat → Prop} (M : ej_Mem) {o k : Nat} (v : Int64) (hp : P o k) : FrG P M (setL M o k v) := by
  refine ⟨Nat.le_refl _, fun _ _ => ⟨rfl, rfl⟩, fun o' _ k' h => ⟨rfl, ?_, rfl, rfl, rfl⟩⟩
  show (if o' = o then va_up (mL M o) k v else mL M o') k' = mL M o' k'
  by_cases e : o' = o
  · subst e
    rw [if_pos rfl]
    by_cases e2 : k' = k
    · subst e2; exact absurd hp h
    · exact up_n e2
  · rw [if_neg e]
theorem FrG.setP {P : Nat → Nat → Prop} (M : ej_Mem) {o k : Nat} (v : Option Nat) (hp : P o k) : FrG P M (setP M o k v) := by
  refine ⟨Nat.le_refl _, fun _ _ => ⟨rfl, rfl⟩, fun o' _ k' h => ⟨rfl, rfl, rfl, rfl, ?_⟩⟩
  show (if o' = o then va_up (aR M o) k v else aR M o') k' = aR M o' k'
  by_cases e : o' = o
  · subst e
    rw [if_pos rfl]
    by_cases e2 : k' = k
    · subst e2; exact absurd hp h
    · exact up_n e2
  · rw [if_neg e]
theorem FrG.new (P : Nat → Nat → Prop) (M : ej_Mem) (kd n sl : Nat) : FrG P M (newM M kd n sl) := by
  refine ⟨Nat.le_succ _, fun o ho => ⟨?_, ?_⟩, fun o ho k _ => ⟨?_, ?_, ?_, ?_, ?_⟩⟩
  · show (if o = mZ M then kd else mC M o) = mC M o
    rw [if_neg (by omega)]
  · show (if o = mZ M then n else mN M o) = mN M o
    rw [if_neg (by omega)]
  · show (if o = mZ M then (fun _ => 0) else mI M o) k = mI M o k
    rw [if_neg (by omega)]
  · show (if o = mZ M then (fun _ => 0) else mL M o) k = mL M o k
    rw [if_neg (by omega)]
  · show (if o = mZ M then (fun _ => none) else mR M o) k = mR M o k
    rw [if_neg (by omega)]
  · show (if o = mZ M then (fun _ => 0) else aI M o) k = aI M o k
    rw [if_neg (by omega)]
  · show (if o = mZ M then (fun _ => none) else aR M o) k = aR M o k
    rw [if_neg (by omega)]
theorem WA.g {P : Nat → Nat → Prop} {M M' : ej_Mem} (f : FrG P M M') {w : Nat} (h : WA M w) (s1 : Sup P M w) (s2 : Sup P M (wFc M w)) (s3 : Sup P M (wTn M w)) : WA M' w ∧ cTxt M' w = cTxt M w ∧ wFc M' w = wFc M w ∧ wTn M' w = wTn M w := by
  obtain ⟨a1, a2, a3, a4, a5⟩ := f.all s1
  obtain ⟨b1, b2, b3, b4, b5⟩ := f.all s2
  obtain ⟨c1, c2, c3, c4, c5⟩ := f.all s3
  obtain ⟨d1, d2⟩ := f.2.1 w s1.1
  obtain ⟨e1, e2⟩ := f.2.1 _ s2.1
  obtain ⟨g1, g2⟩ := f.2.1 _ s3.1
  have q1 : wFc M' w = wFc M w := by unfold wFc; rw [a3]
  have q2 : wTn M' w = wTn M w := by unfold wTn; rw [a3]
  have qt : ∀ e s, cTst M' w e s = cTst M w e s := by
    intro e s; unfold cTst; rw [q1, b4, e2]
  refine ⟨?_, ?_, q1, q2⟩
  · unfold WA
    rw [q1, q2, d1, a3, e1, g1, a1, e2, g2, b4, c4]
    exact h
  · have qn : ∀ s n j acc, tnC M' w s n j acc = tnC M w s n j acc := by
      intro s n
      induction n with
      | zero => intro j acc; rfl
      | succ n ih =>
        intro j acc
        unfold tnC
        rw [ih, q2, c4, qt]
    have h1 : (fun s => cTst M' w (mI M' w 5) s) = fun s => cTst M w (mI M w 5) s := by funext s; rw [a1, qt]
    have h2 : (fun s => tnC M' w s (mN M' (wTn M' w) / 2) 0 0) = fun s => tnC M w s (mN M (wTn M w) / 2) 0 0 := by funext s; rw [q2, g2, qn]
    unfold cTxt
    rw [h1, h2, a1]
def LSup (P : Nat → Nat → Prop) (M : ej_Mem) (l : Nat) : Prop := (∀ o, l ≤ o → o ≤ l + 10 → Sup P M o) ∧ (∀ k, k < 4 → ∀ i, i < nL M l k → Sup P M (wL M l k i) ∧ Sup P M (wFc M (wL M l k i)) ∧ Sup P M (wTn M (wL M l k i))) ∧
  ∀ h, mR M l 7 = some h → ∀ o, h ≤ o → o ≤ h + 3 → Sup P M o
theorem LA.g {P : Nat → Nat → Prop} {M M' : ej_Mem} (f : FrG P M M') {l : Nat} (s : ∀ o, l ≤ o → o ≤ l + 10 → Sup P M o) (h : LA M l) : LA M' l := by
  have q : ∀ i, i ≤ 10 → mC M' (l + i) = mC M (l + i) ∧ mN M' (l + i) = mN M (l + i) ∧ mR M' (l + i) = mR M (l + i) := by
    intro i hi
    have z := s (l + i) (by omega) (by omega)
    exact ⟨(f.2.1 _ z.1).1, (f.2.1 _ z.1).2, (f.all z).2.2.1⟩
  have q0 := q 0 (by omega)
  rw [Nat.add_zero] at q0
  unfold LA
  rw [q0.1, q0.2.2, (q 1 (by omega)).1, (q 2 (by omega)).1, (q 3 (by omega)).1, (q 4 (by omega)).1, (q 5 (by omega)).1, (q 6 (by omega)).1, (q 7 (by omega)).1, (q 8 (by omega)).1, (q 9 (by omega)).1, (q 10 (by omega)).1,
    (q 1 (by omega)).2.1, (q 2 (by omega)).2.1, (q 3 (by omega)).2.1, (q 4 (by omega)).2.1, (q 5 (by omega)).2.1, (q 7 (by omega)).2.1, (q 8 (by omega)).2.1, (q 9 (by omega)).2.1, (q 10 (by omega)).2.1, (q 6 (by omega)).2.2]
  exact h
theorem HR.g {P : Nat → Nat → Prop} {M M' : ej_Mem} (f : FrG P M M') {h cap N sh : Nat} {b : BS} (s : ∀ o, h ≤ o → o ≤ h + 3 → Sup P M o) (H : HR M h cap N sh b) : HR M' h cap N sh b := by
  have q : ∀ i, i ≤ 3 → mC M' (h + i) = mC M (h + i) ∧ mN M' (h + i) = mN M (h + i) ∧ mR M' (h + i) = mR M (h + i) ∧ mI M' (h + i) = mI M (h + i) ∧ aI M' (h + i) = aI M (h + i) := by
    intro i hi
    have z := s (h + i) (by omega) (by omega)
    exact ⟨(f.2.1 _ z.1).1, (f.2.1 _ z.1).2, (f.all z).2.2.1, (f.all z).1, (f.all z).2.2.2.1⟩
  have q0 := q 0 (by omega)
  rw [Nat.add_zero] at q0
  have hs : hsl M' h = hsl M h := by funext x; unfold hsl; rw [(q 3 (by omega)).2.2.2.2]
  unfold HR HA
  rw [hs, q0.1, q0.2.2.1, q0.2.2.2.1, (q 1 (by omega)).1, (q 2 (by omega)).1, (q 3 (by omega)).1, (q 1 (by omega)).2.1, (q 2 (by omega)).2.1, (q 3 (by omega)).2.1, (q 1 (by omega)).2.2.2.2, (q 2 (by omega)).2.2.2.2, (q 3 (by omega)).2.2.2.2]
  exact H
theorem nL_g {P : Nat → Nat → Prop} {M M' : ej_Mem} (f : FrG P M M') {l : Nat} (s : ∀ o, l ≤ o → o ≤ l + 10 → Sup P M o) (k : Nat) : nL M' l k = nL M l k := by
  have z := s (l + 2) (by omega) (by omega)
  unfold nL; rw [(f.all z).2.2.2.1]
theorem wL_g {P : Nat → Nat → Prop} {M M' : ej_Mem} (f : FrG P M M') {l : Nat} (s : ∀ o, l ≤ o → o ≤ l + 10 → Sup P M o) (k i : Nat) : wL M' l k i = wL M l k i := by
  have z := s (l + 1) (by omega) (by omega)
  unfold wL; rw [(f.all z).2.2.2.2]
theorem CV.g {P : Nat → Nat → Prop} {M M' : ej_Mem} (f : FrG P M M') {l : Nat} {V : View} (s : LSup P M l) (h : CV M l V) : CV M' l V := by
  obtain ⟨h1, h2, h3, h4, h5, h6, h7, h8, h9⟩ := h
  have z : ∀ i, i ≤ 10 → mI M' (l + i) = mI M (l + i) ∧ aI M' (l + i) = aI M (l + i) := by
    intro i hi
    have z := s.1 (l + i) (by omega) (by omega)
    exact ⟨(f.all z).1, (f.all z).2.2.2.1⟩
  have z0 := z 0 (by omega)
  rw [Nat.add_zero] at z0
  have zr : mR M' l = mR M l := by
    have y := s.1 l (by omega) (by omega)
    exact (f.all y).2.2.1
  have za : aR M' (l + 1) = aR M (l + 1) := by
    have y := s.1 (l + 1) (by omega) (by omega)
    exact (f.all y).2.2.2.2
  have wa : ∀ k, k < 4 → ∀ i, i < nL M l k → WA M' (wL M l k i) ∧ cTxt M' (wL M l k i) = cTxt M (wL M l k i) := by
    intro k hk i hi
    obtain ⟨y1, y2, y3⟩ := s.2.1 k hk i hi
    have := ((h2 k hk).2.2 i hi).2.g f y1 y2 y3
    exact ⟨this.1, this.2.1⟩
  refine ⟨h1.g f s.1, ?_, ?_, ?_, ?_, ?_, ?_, ?_, ?_⟩
  · intro k hk
    obtain ⟨g1, g2, g3⟩ := h2 k hk
    rw [nL_g f s.1, (z 2 (by omega)).2, za]
    refine ⟨g1, g2, fun i hi => ?_⟩
    rw [wL_g f s.1]
    exact ⟨(g3 i hi).1, (wa k hk i hi).1⟩
  · intro k hk; rw [nL_g f s.1]; exact h3 k hk
  · intro k hk i hi
    rw [wL_g f s.1, (wa k hk i (by rw [h3 k hk]; exact hi)).2]
    exact h4 k hk i hi
  · rw [(z 3 (by omega)).2, (z 4 (by omega)).2]; exact h5
  · rw [z0.1]; exact h6
  · rw [(z 5 (by omega)).2]; exact h7
  · unfold RlC
    rw [(z 6 (by omega)).1, (z 7 (by omega)).2, (z 8 (by omega)).2, (z 9 (by omega)).2, (z 10 (by omega)).2]
    exact h8
  · unfold SrC
    rw [zr, z0.1]
    refine ⟨?_, h9.2⟩
    rcases h9.1 with q | ⟨hh, q1, q2⟩
    · exact Or.inl q
    · exact Or.inr ⟨hh, q1, q2.g f (s.2.2 hh q1)⟩
/-! a slot of the reference rests on its own stretch of the rows -/
def SlAg (A B : Arr) (sl : Nat) : Prop := B 95 sl = A 95 sl ∧ (∀ q, 12 * sl ≤ q → q < 12 * sl + 12 → B 96 q = A 96 q ∧ B 97 q = A 97 q ∧ B 98 q = A 98 q ∧ B 99 q = A 99 q) ∧ ∀ e, 200 * sl ≤ e → e < 200 * sl + 200 → B 93 e = A 93 e ∧ B 94 e = A 94 e
theorem rE_cg {so nu so' nu' : Nat → Int32} {s : Int32} : ∀ (n e : Nat) (st : rS), (∀ x, e ≤ x → x < e + n → so' x = so x ∧ nu' x = nu x) → rE so' nu' s n e st = rE so nu s n e st
  | 0, _, _, _ => rfl
  | n + 1, e, st, h => by
    unfold rE
    rw [(h e (Nat.le_refl e) (by omega)).1, (h e (Nat.le_refl e) (by omega)).2]
    exact rE_cg n (e + 1) _ (fun x h1 h2 => h x (by omega) (by omega))
theorem pOK_cg {so so' : Nat → Int32} : ∀ (n e d : Nat), (∀ x, e ≤ x → x < e + n → so' x = so x) → pOK so n e d → pOK so' n e d
  | 0, _, _, _, h => h
  | n + 1, e, d, h, hp => by
    unfold pOK at hp ⊢
    rw [h e (Nat.le_refl e) (by omega)]
    have ih := fun d' => pOK_cg (so := so) (so' := so') n (e + 1) d' (fun x h1 h2 => h x (by omega) (by omega))
    split
    · rename_i g
      rw [if_pos g] at hp
      exact ⟨hp.1, ih _ hp.2⟩
    · rename_i g
      rw [if_neg g] at hp
      split
      · rename_i g2
        rw [if_pos g2] at hp
        exact ⟨hp.1, ih _ hp.2⟩
      · rename_i g2
        rw [if_neg g2] at hp
        exact ih _ hp
theorem clOK_cg {A B : Arr} {sl q : Nat} (h : SlAg A B sl) (h1 : 12 * sl ≤ q) (h2 : q < 12 * sl + 12) (hc : clOK A sl q) : clOK B sl q := by
  obtain ⟨a, b, e1, e2, e3, e4, e5⟩ := hc
  obtain ⟨_, _, g1, g2⟩ := h.2.1 q h1 h2
  exact ⟨a, b, g1.trans e1, g2.trans e2, e3, e4, fun x => pOK_cg _ _ _ (fun z z1 z2 => (h.2.2 z (by omega) (by omega)).1) (e5 x)⟩
theorem slOK_cg {A B : Arr} {sl : Nat} (h : SlAg A B sl) (hs : slOK A sl) : slOK B sl := by
  obtain ⟨c, h1, h2, h3, h4⟩ := hs
  refine ⟨c, h.1.trans h1, h2, h3, fun i hi => ?_⟩
  obtain ⟨g0, g1, g2, g3⟩ := h.2.1 (12 * sl + i) (by omega) (by omega)
  rw [g0, g2, g3]
  obtain ⟨k1, k2⟩ := h4 i hi
  exact ⟨clOK_cg h (by omega) (by omega) k1, k2⟩
theorem rTs_cg {A B : Arr} {sl q : Nat} (h : SlAg A B sl) (h1 : 12 * sl ≤ q) (h2 : q < 12 * sl + 12) (hc : clOK A sl q) (s : Int32) : rTs B q s = rTs A q s := by
  obtain ⟨a, b, e1, e2, e3, e4, e5⟩ := hc
  obtain ⟨_, _, g1, g2⟩ := h.2.1 q h1 h2
  have hq : q / 12 = sl := by omega
  unfold rTs rT
  rw [g1, g2, e1, e2, nI_clamp (by omega), nI_clamp (by omega), hq, rE_cg _ _ _ (fun x x1 x2 => h.2.2 x (by omega) (by omega))]
theorem rC_cg {A B : Arr} {sl : Nat} (h : SlAg A B sl) : rC B sl = rC A sl := by unfold rC; rw [h.1]
theorem rUn_cg {A B : Arr} {sl : Nat} (h : SlAg A B sl) (k : Int32) : ∀ n q acc, 12 * sl ≤ q → q + n ≤ 12 * sl + 12 → rUn B sl k n q acc = rUn A sl k n q acc
  | 0, _, _, _, _ => rfl
  | n + 1, q, acc, h1, h2 => by
    obtain ⟨g0, g1, _, _⟩ := h.2.1 q h1 (by omega)
    unfold rUn
    rw [g0, g1, rUn_cg h k n (q + 1) _ (by omega) (by omega)]
theorem rU_cg {A B : Arr} {sl : Nat} (h : SlAg A B sl) (hs : slOK A sl) (k : Int32) : rU B sl k = rU A sl k := by
  have := (slOK_c hs).2
  unfold rU
  rw [rC_cg h, rUn_cg h k _ _ _ (Nat.le_refl _) (by omega)]
theorem rNd_cg {A B : Arr} {sl : Nat} (h : SlAg A B sl) (hs : ∀ q, 12 * sl ≤ q → q < 12 * sl + rC A sl → clOK A sl q) (hc : rC A sl ≤ 12) (s : Int32) : ∀ n q b, 12 * sl ≤ q → q + n ≤ 12 * sl + rC A sl → rNd B s n q b = rNd A s n q b
  | 0, _, _, _, _ => rfl
  | n + 1, q, b, h1, h2 => by
    unfold rNd
    rw [(h.2.1 q h1 (by omega)).1, rTs_cg h h1 (by omega) (hs q h1 (by omega)), rNd_cg h hs hc s n (q + 1) _ (by omega) (by omega)]
theorem rBr_cg {A B : Arr} {sl : Nat} (h : SlAg A B sl) (hs : ∀ q, 12 * sl ≤ q → q < 12 * sl + rC A sl → clOK A sl q) (hc : rC A sl ≤ 12) (s : Int32) : ∀ n q b, 12 * sl ≤ q → q + n ≤ 12 * sl + rC A sl → rBr B s n q b = rBr A s n q b
  | 0, _, _, _, _ => rfl
  | n + 1, q, b, h1, h2 => by
    unfold rBr
    rw [(h.2.1 q h1 (by omega)).1, rTs_cg h h1 (by omega) (hs q h1 (by omega)), rBr_cg h hs hc s n (q + 1) _ (by omega) (by omega)]
theorem rTn_cg {A B : Arr} {sl : Nat} (h : SlAg A B sl) (hs : ∀ q, 12 * sl ≤ q → q < 12 * sl + rC A sl → clOK A sl q) (hc : rC A sl ≤ 12) (s : Int32) : ∀ n q b, 12 * sl ≤ q → q + n ≤ 12 * sl + rC A sl → rTn B s n q b = rTn A s n q b
  | 0, _, _, _, _ => rfl
  | n + 1, q, b, h1, h2 => by
    obtain ⟨g0, g1, g2, g3⟩ := h.2.1 q h1 (by omega)
    unfold rTn
    rw [g0, g1, g2, g3, rTs_cg h h1 (by omega) (hs q h1 (by omega)), rTn_cg h hs hc s n (q + 1) _ (by omega) (by omega)]
theorem slOK_all {A : Arr} {sl : Nat} (hs : slOK A sl) : ∀ q, 12 * sl ≤ q → q < 12 * sl + rC A sl → clOK A sl q := by
  intro q h1 h2
  have := slOK_cl hs (i := q - 12 * sl) (by omega)
  rw [show 12 * sl + (q - 12 * sl) = q by omega] at this
  exact this
theorem slOK_0 {A : Arr} {sl : Nat} (h48 : 48 ≤ sl) (hs : slOK A sl) : clOK A sl (12 * sl) := by
  obtain ⟨c, h1, h2, h3, h4⟩ := hs
  have := (h4 0 (by have := h3 h48; omega)).1
  rw [Nat.add_zero] at this
  exact this
theorem rTx_cg {A B : Arr} {k i : Nat} (hk : k < 4) (h : SlAg A B (pl k + i)) (hs : slOK A (pl k + i)) : rTx B k i = rTx A k i := by
  have hc := (slOK_c hs).2
  have : k = 0 ∨ k = 1 ∨ k = 2 ∨ k = 3 := by omega
  rcases this with rfl | rfl | rfl | rfl
  · rw [show pl 0 + i = i by simp [pl]] at *
    have e1 : rNeed B i = rNeed A i := by
      funext s; unfold rNeed; rw [rC_cg h, rNd_cg h (slOK_all hs) hc s _ _ _ (Nat.le_refl _) (by omega)]
    have e2 : rTurn B i = rTurn A i := by
      funext s; unfold rTurn; rw [rC_cg h, rTn_cg h (slOK_all hs) hc s _ _ _ (Nat.le_refl _) (by omega)]
    show (rU B i 1, rU B i 2, rU B i 3, rU B i 4, rU B i 5, rNeed B i, rTurn B i) = (rU A i 1, rU A i 2, rU A i 3, rU A i 4, rU A i 5, rNeed A i, rTurn A i)
    rw [rU_cg h hs, rU_cg h hs, rU_cg h hs, rU_cg h hs, rU_cg h hs, e1, e2]
  · rw [show pl 1 + i = 40 + i from rfl] at *
    have e1 : rBar B (40 + i) = rBar A (40 + i) := by
      funext s; unfold rBar; rw [rC_cg h, rBr_cg h (slOK_all hs) hc s _ _ _ (Nat.le_refl _) (by omega)]
    show (rU B (40 + i) 0, (0 : Int32), (0 : Int32), (0 : Int32), (0 : Int32), rBar B (40 + i), (fun _ => 0 : Int32 → Int32)) = (rU A (40 + i) 0, 0, 0, 0, 0, rBar A (40 + i), fun _ => 0)
    rw [rU_cg h hs, e1]
  · rw [show pl 2 + i = 48 + i from rfl] at *
    have e1 : rTs B (12 * (48 + i)) = rTs A (12 * (48 + i)) := by
      funext s; exact rTs_cg h (Nat.le_refl _) (by omega) (slOK_0 (by omega) hs) s
    show ((0 : Int32), (0 : Int32), (0 : Int32), (0 : Int32), (0 : Int32), rTs B (12 * (48 + i)), (fun _ => 0 : Int32 → Int32)) = (0, 0, 0, 0, 0, rTs A (12 * (48 + i)), fun _ => 0)
    rw [e1]
  · rw [show pl 3 + i = 64 + i from rfl] at *
    have e1 : rTs B (12 * (64 + i)) = rTs A (12 * (64 + i)) := by
      funext s; exact rTs_cg h (Nat.le_refl _) (by omega) (slOK_0 (by omega) hs) s
    show ((0 : Int32), (0 : Int32), (0 : Int32), (0 : Int32), (0 : Int32), rTs B (12 * (64 + i)), (fun _ => 0 : Int32 → Int32)) = (0, 0, 0, 0, 0, rTs A (12 * (64 + i)), fun _ => 0)
    rw [e1]
/-- what is needed of the rows for a view -/
def VAg (V : View) (A B : Arr) (f g : Nat → Int32) : Prop := (∀ k, k < 4 → B 92 k = A 92 k) ∧ (∀ k, k < 4 → ∀ i, i < vN V k → SlAg A B (pl k + i)) ∧ (∀ m, m < vN V 0 → B 101 m = A 101 m ∧ B 102 m = A 102 m) ∧ (∀ r, r < 24 → B 103 r = A 103 r) ∧
  (∀ r, r < vRn V → B 115 r = A 115 r ∧ B 116 r = A 116 r ∧ B 117 r = A 117 r ∧ ∀ j, j < 24 → B 118 (24 * r + j) = A 118 (24 * r + j)) ∧ (∀ k, k < (vB V).1.length → B 108 k = A 108 k ∧ B 109 k = A 109 k ∧ B 110 k = A 110 k) ∧
  (g 9 = f 9 ∧ g 31 = f 31 ∧ g 32 = f 32 ∧ g 33 = f 33 ∧ g 34 = f 34 ∧ g 35 = f 35 ∧ g 36 = f 36 ∧ g 37 = f 37 ∧ g 47 = f 47)
theorem RV.cg {V : View} {A B : Arr} {f g : Nat → Int32} (hV : VOK V) (h : VAg V A B f g) (r : RV A f V) : RV B g V := by
  obtain ⟨a1, a2, a3, a4, a5, a6, b9, b31, b32, b33, b34, b35, b36, b37, b47⟩ := h
  obtain ⟨r1, r2, r3, r4, r5, r6, ⟨r7, r7'⟩, ⟨⟨c1, c2, c3, c4⟩, c5, c6, c7⟩, r9⟩ := r
  have eN : ∀ k, k < 4 → rN B k = rN A k := by intro k hk; unfold rN; rw [a1 k hk]
  refine ⟨?_, ?_, ?_, ?_, ?_, ?_, ⟨?_, ?_⟩, ⟨⟨?_, ?_, ?_, ?_⟩, ?_, ?_, ?_⟩, ?_⟩
  · intro k hk
    obtain ⟨x, y, z⟩ := r1 k hk
    rw [eN k hk, a1 k hk]
    exact ⟨x, y, fun i hi => slOK_cg (a2 k hk i (by rw [← r2 k hk]; exact hi)) (z i hi)⟩
  · intro k hk; rw [eN k hk]; exact r2 k hk
  · intro k hk i hi
    rw [rTx_cg hk (a2 k hk i hi) ((r1 k hk).2.2 i (by rw [r2 k hk]; exact hi))]
    exact r3 k hk i hi
  · intro m hm; rw [(a3 m hm).1, (a3 m hm).2]; exact r4 m hm
  · rw [b9]; exact r5
  · intro r hr; rw [a4 r hr]; exact r6 r hr
  · rw [b47]; exact r7
  · intro r hr
    obtain ⟨x1, x2, x3, x4⟩ := a5 r hr
    obtain ⟨y1, y2, y3, y4⟩ := r7' r hr
    rw [x1, x2, x3]
    exact ⟨y1, y2, y3, fun j hj => by rw [x4 j (by have := (hV.2.2.2.1.2 r hr).2.1; omega)]; exact y4 j hj⟩
  · rw [b31]; exact c1
  · rw [b32]; exact c2
  · rw [b33]; exact c3
  · rw [b37]; exact c4
  · intro k hk; rw [(a6 k hk).1]; exact c5 k hk
  · intro hk; rw [(a6 0 (by omega)).2.1]; exact c6 hk
  · intro k h0 hk; rw [(a6 k hk).2.1, (a6 k hk).2.2]; exact c7 k h0 hk
  · intro hb; rw [b34, b35, b36]; exact r9 hb
