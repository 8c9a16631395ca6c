/-! a land with its view; one is copied to another -/
def LV (M : ej_Mem) (own : Nat → Nat) (l tag : Nat) (V : View) : Prop := LOwn own M l tag ∧ CV M l V ∧ VOK V ∧ WS M l
def LD (M : ej_Mem) (own : Nat → Nat) (d tag : Nat) : Prop := LA M d ∧ (∀ o, d ≤ o → o ≤ d + 10 → own o = tag) ∧ (∀ h, mR M d 7 = some h → ∀ o, h ≤ o → o ≤ h + 3 → own o = tag) ∧ ∃ b0, SrB M d b0
theorem LV.ld {M : ej_Mem} {own : Nat → Nat} {l tag : Nat} {V : View} (h : LV M own l tag V) : LD M own l tag := ⟨h.2.1.1, h.1.1, h.1.2.2, vB V, h.2.1.2.2.2.2.2.2.2.2.1⟩
theorem WS.g {M M' : ej_Mem} {P : Nat → Nat → Prop} (f : FrG P M M') {l : Nat} (hl : Sup P M (l + 1)) (h : WS M l) : WS M' l := by
  intro j hj w q
  rw [f.pi hl.1 (hl.2 j)] at q
  obtain ⟨a, b⟩ := h j hj w q
  exact ⟨Nat.lt_of_lt_of_le a f.1, by rw [(f.2.1 w a).1]; exact b⟩
theorem LOwn.own {own own' : Nat → Nat} {M : ej_Mem} {l tag : Nat} (h : LOwn own M l tag) (ht : tag ≠ 0) (e : ∀ o, own o ≠ 0 → own' o = own o) : LOwn own' M l tag := by
  refine ⟨fun o a b => ?_, fun k hk i hi => ?_, fun x q o a b => ?_⟩
  · have := h.1 o a b; rw [e o (by omega)]; exact this
  · obtain ⟨a, b, c⟩ := h.2.1 k hk i hi
    rw [e _ (by omega), e _ (by omega), e _ (by omega)]
    exact ⟨a, b, c⟩
  · have := h.2.2 x q o a b; rw [e o (by omega)]; exact this
theorem LV.own {M : ej_Mem} {own own' : Nat → Nat} {l tag : Nat} {V : View} (h : LV M own l tag V) (ht : tag ≠ 0) (e : ∀ o, own o ≠ 0 → own' o = own o) : LV M own' l tag V := ⟨h.1.own ht e, h.2⟩
theorem LOwn.sup' {own : Nat → Nat} {M : ej_Mem} {l tag : Nat} {P : Nat → Nat → Prop} (hB : ∀ o, own o ≠ 0 → o < mZ M) (h : LOwn own M l tag) (ht : tag ≠ 0) (hp : ∀ o k, P o k → own o ≠ 1 ∧ own o ≠ tag) : LSup P M l := by
  have key1 : ∀ o, own o = 1 → Sup P M o := fun o e => ⟨hB o (by omega), fun k q => (hp o k q).1 e⟩
  have key2 : ∀ o, own o = tag → Sup P M o := fun o e => ⟨hB o (by omega), fun k q => (hp o k q).2 e⟩
  refine ⟨fun o h1 h2 => key2 o (h.1 o h1 h2), fun k hk i hi => ?_, fun hh e o h1 h2 => key2 o (h.2.2 hh e o h1 h2)⟩
  obtain ⟨a, b, c⟩ := h.2.1 k hk i hi
  exact ⟨key1 _ a, key1 _ b, key1 _ c⟩
theorem LV.g {M M' : ej_Mem} {own : Nat → Nat} {l tag : Nat} {V : View} {P : Nat → Nat → Prop} (hB : ∀ o, own o ≠ 0 → o < mZ M) (f : FrG P M M') (h : LV M own l tag V) (ht : tag ≠ 0) (hp : ∀ o k, P o k → own o ≠ 1 ∧ own o ≠ tag) : LV M' own l tag V := by
  have s := h.1.sup' hB ht hp
  exact ⟨h.1.g f s h.2.1.2.1, h.2.1.g f s, h.2.2.1, h.2.2.2.g f (s.1 (l + 1) (by omega) (by omega))⟩
def ownT (own : Nat → Nat) (h tag : Nat) (o : Nat) : Nat := if h ≤ o ∧ o ≤ h + 3 then tag else own o
theorem apart {own : Nat → Nat} {a b n t u : Nat} (h1 : ∀ o, a ≤ o → o ≤ a + n → own o = t) (h2 : ∀ o, b ≤ o → o ≤ b + n → own o = u) (h : t ≠ u) : a + n < b ∨ b + n < a := by
  rcases Nat.lt_or_ge (a + n) b with q | q
  · exact Or.inl q
  · rcases Nat.lt_or_ge (b + n) a with r | r
    · exact Or.inr r
    · exfalso
      rcases Nat.le_total a b with z | z
      · have := h1 b z q; have := h2 b (Nat.le_refl _) (by omega); omega
      · have := h1 a (Nat.le_refl _) (by omega); have := h2 a z r; omega
theorem VOK.bz {V : View} (h : VOK V) : ((vB V).2.2.2 = 0 → vB V = b_none) ∧ (vB V).2.2.2 < 5 := by
  rcases h.2.2.2.2.1 with q | q
  · exact ⟨fun _ => q, by rw [q]; decide⟩
  · have := q.1.2.2.2.2.2.2.2; exact ⟨fun z => by omega, by omega⟩
theorem hunt_land {M : ej_Mem} {d h cap N sh : Nat} (hd : LA M d) (H : HA M h cap N sh) : h + 3 < d ∨ d + 10 < h := by
  obtain ⟨⟨d0, _⟩, ⟨c1, c2, c3, c4, c5, c6⟩, _, _, ⟨c7, c8, c9, c10⟩, _⟩ := hd
  obtain ⟨⟨h0, _⟩, ⟨e1, e2, e3⟩, _⟩ := H
  rcases Nat.lt_or_ge (h + 3) d with q | q
  · exact Or.inl q
  · rcases Nat.lt_or_ge (d + 10) h with r | r
    · exact Or.inr r
    · exfalso
      rcases Nat.lt_or_ge h d with z | z
      · have : d = h + 1 ∨ d = h + 2 ∨ d = h + 3 := by omega
        rcases this with e | e | e <;> rw [e] at d0 <;> omega
      · have : h = d ∨ h = d + 1 ∨ h = d + 2 ∨ h = d + 3 ∨ h = d + 4 ∨ h = d + 5 ∨ h = d + 6 ∨ h = d + 7 ∨ h = d + 8 ∨ h = d + 9 ∨ h = d + 10 := by omega
        rcases this with e | e | e | e | e | e | e | e | e | e | e <;> rw [e] at h0 <;> omega
theorem p_landCopy {D : Nat} (hD : 4 ≤ D) {M : ej_Mem} {own : Nat → Nat} {d s td ts : Nat} {V : View} (hO : ∀ o, own o ≠ 0 → o < mZ M) (hd : LD M own d td) (hs : LV M own s ts V) (ht : td ≠ ts ∧ td ≠ 1 ∧ td ≠ 0 ∧ ts ≠ 0 ∧ ts ≠ 1) : ∃ M' own', cal D jm_Land_copyFrom [.ref d, .ref s] M = some (none, M') ∧ FrG (fun o k => own o = td ∧ (o = d → k = 4 ∨ 7 ≤ k) ∧ (o = d + 6 → k = 0)) M M' ∧ (∀ o, o < mZ M → own' o = own o) ∧ (∀ o, own' o ≠ 0 → o < mZ M') ∧ LV M' own' d td V ∧ RoomD d M M' := by
  obtain ⟨D', rfl⟩ : ∃ d, D = d + 1 := ⟨D - 1, by omega⟩
  obtain ⟨hdA, hdo, hdh, b0, hdb⟩ := hd
  obtain ⟨hso, hsv, hsV, hsw⟩ := hs
  have ne := apart (n := 10) hdo hso.1 ht.1
  have od : ∀ i, i ≤ 10 → d + i < mZ M := fun i hi => hO _ (by rw [hdo (d + i) (by omega) (by omega)]; exact ht.2.2.1)
  have os : ∀ i, i ≤ 10 → s + i < mZ M := fun i hi => hO _ (by rw [hso.1 (s + i) (by omega) (by omega)]; exact ht.2.2.2.1)
  obtain ⟨M1, e1, f1, cf, z1, s1, r1, c1, n1⟩ := copy_rows (by omega : 1 ≤ D') hdA hsv.1 hsw ne (od 10 (by omega)) (os 10 (by omega))
  rw [ca_Land_copyFrom, e1, eq_Land_copyFrom_141]
  have A1 : ∀ {l}, LA M l → LA M1 l := fun h => by unfold LA; rw [c1, n1, r1]; exact h
  -- frames
  have PAo : ∀ o k, PA d o k → own o = td := fun o k q => by
    unfold PA at q
    exact hdo o (by omega) (by omega)
  have G1 : FrG (fun o _ => own o = td) M M1 := f1.mono (fun o k _ q => PAo o k q)
  have hb1 : SrB M1 d b0 := by
    rcases hdb with q | ⟨h, q1, q2⟩
    · exact Or.inl ⟨by rw [r1]; exact q.1, q.2⟩
    · refine Or.inr ⟨h, by rw [r1]; exact q1, q2.g f1 (fun o a b => ⟨hO o (by rw [hdh h q1 o a b]; exact ht.2.2.1), fun k z => ?_⟩)⟩
      have := hunt_land hdA q2.1
      unfold PA at z
      omega
  have hK : ∃ M', rn jm_Land_copyFrom (cal D') 141 [some (.ref d), some (.ref s), some (.int (nI 72))] [] M1 = some (none, M') ∧ FrG (PcS M1 d) M1 M' ∧ SrB M' d (vB V) ∧ RoomD d M1 M' := by
    rw [eq_Land_copyFrom_141, ckk_t (A1 hsv.1).1.1]
    rcases hsv.2.2.2.2.2.2.2.2.1 with ⟨q, qb⟩ | ⟨x, q, H⟩
    · rw [r1, q, qb]
      simp only [(A1 hdA).1, MR, ckk_T, deR_s, deQ_s, deQ_n, bkV_s, bkI_s, bkJ_s, bkQ_s, bkQ_n, ckb0, ckb1, ckb2, ckb3, eq_self, Nat.reduceEqDiff, Nat.reduceLeDiff, Nat.reduceLT, reduceIte, true_or, or_true, not_false_eq_true, not_true_eq_false, and_self, and_true, true_and, LIT, Int32.reduceLT, Int32.reduceLE, Int32.reduceToNatClampNeg]
      obtain ⟨M', e, f, b, r⟩ := p_copySearchN (by omega : 3 ≤ D') (A1 hdA).1.1 hb1
      rw [e]
      exact ⟨M', rfl, f, b, r⟩
    · rw [r1, q]
      simp only [(A1 hdA).1, MR, ckk_T, deR_s, deQ_s, deQ_n, bkV_s, bkI_s, bkJ_s, bkQ_s, bkQ_n, ckb0, ckb1, ckb2, ckb3, eq_self, Nat.reduceEqDiff, Nat.reduceLeDiff, Nat.reduceLT, reduceIte, true_or, or_true, not_false_eq_true, not_true_eq_false, and_self, and_true, true_and, LIT, Int32.reduceLT, Int32.reduceLE, Int32.reduceToNatClampNeg]
      have hx := hso.2.2 x q
      have H1 : HR M1 x 4000 8192 19 (vB V) := H.g G1 (fun o a b => ⟨hO o (by rw [hx o a b]; exact ht.2.2.2.1), fun k z => by have := hx o a b; omega⟩)
      obtain ⟨M', e, f, b, r⟩ := p_copySearchR (by omega : 3 ≤ D') (A1 hdA).1.1 (by rw [z1]; exact od 0 (by omega)) hb1 H1 (by rw [z1]; exact hO (x + 3) (by rw [hx (x + 3) (by omega) (by omega)]; exact ht.2.2.2.1)) (by have := hunt_land (A1 hdA) H1.1; omega) hsV.bz.1 hsV.bz.2 (fun h qh => by
        rw [r1] at qh
        exact apart (n := 3) (hdh h qh) hx ht.1)
      rw [e]
      exact ⟨M', rfl, f, b, r⟩
  rw [← eq_Land_copyFrom_141]
  obtain ⟨M', e, f, b, r⟩ := hK
  rw [e]
  have PcO : ∀ o k, PcS M1 d o k → own o = td := fun o k q => by
    rcases q with q | ⟨h, q1, q2, q3⟩
    · exact hdo o (by omega) (by omega)
    · rw [r1] at q1; exact hdh h q1 o q2 q3
  have G : FrG (fun o _ => own o = td) M M' := G1.trans (f.mono (fun o k _ q => PcO o k q))
  have np : ∀ i, i ≤ 10 → ∀ k, (i = 0 → k ≠ 7) → ¬ PcS M1 d (d + i) k := fun i hi k hk z => by
    rcases z with z | ⟨h, q1, q2, q3⟩
    · omega
    · rcases hb1 with w | ⟨h', w1, w2⟩
      · rw [w.1] at q1; cases q1
      · rw [w1] at q1
        cases q1
        have := hunt_land (A1 hdA) w2.1
        omega
  have o1 : ∀ i, i ≤ 10 → d + i < mZ M1 := fun i hi => by rw [z1]; exact od i hi
  have RD : RoomD d M M' := by
    unfold RoomD at r ⊢
    rw [z1, s1, r1] at r
    exact r
  have own' : ∃ own' : Nat → Nat, (∀ o, o < mZ M → own' o = own o) ∧ (∀ o, own' o ≠ 0 → o < mZ M') ∧ ∀ h, mR M' d 7 = some h → ∀ o, h ≤ o → o ≤ h + 3 → own' o = td := by
    rcases RD with ⟨a1, a2, a3⟩ | ⟨a1, a2, a3, a4⟩
    · exact ⟨own, fun _ _ => rfl, fun o ho => by rw [a1]; exact hO o ho, fun h q => hdh h (by rw [← a3]; exact q)⟩
    · refine ⟨ownT own (mZ M) td, fun o ho => by unfold ownT; rw [if_neg (by omega)], fun o ho => ?_, fun h q o u v => ?_⟩
      · unfold ownT at ho
        split at ho
        · omega
        · have := hO o ho; omega
      · rw [a4] at q
        cases q
        unfold ownT
        rw [if_pos ⟨u, v⟩]
  obtain ⟨own', ow1, ow2, ow3⟩ := own'
  obtain ⟨x2, x34, x5, xw, ⟨i4, i8, i9, i10⟩, i60, x789, x10⟩ := cf
  have rd : ∀ i, i ≤ 10 → ∀ k, (i = 0 → k ≠ 7) → mI M' (d + i) k = mI M1 (d + i) k ∧ aI M' (d + i) k = aI M1 (d + i) k ∧ aR M' (d + i) k = aR M1 (d + i) k ∧ mR M' (d + i) k = mR M (d + i) k := fun i hi k hk => by
    have := f.2.2 (d + i) (o1 i hi) k (np i hi k hk)
    exact ⟨this.1, this.2.2.2.1, this.2.2.2.2, by rw [this.2.2.1, r1]⟩
  have rd0 : ∀ k, k ≠ 7 → mI M' d k = mI M1 d k ∧ mR M' d k = mR M d k := fun k hk => ⟨(rd 0 (by omega) k (fun _ => hk)).1, (rd 0 (by omega) k (fun _ => hk)).2.2.2⟩
  have cN : ∀ i, i ≤ 10 → mC M' (d + i) = mC M (d + i) ∧ mN M' (d + i) = mN M (d + i) := fun i hi => G.2.1 (d + i) (od i hi)
  have nl : ∀ k, k < 4 → aI M' (d + 2) k = aI M (s + 2) k := fun k hk => by rw [(rd 2 (by omega) k (by omega)).2.1]; exact x2 k hk
  have nL' : ∀ k, k < 4 → nL M' d k = nL M s k := fun k hk => by unfold nL; rw [nl k hk]
  have ar : ∀ j, j < 72 → aR M' (d + 1) j = aR M (s + 1) j := fun j hj => by rw [(rd 1 (by omega) j (by omega)).2.2.1]; exact xw j hj
  have lt := hsv.2.1
  have wl : ∀ k, k < 4 → ∀ i, i < nL M s k → wL M' d k i = wL M s k i := fun k hk i hi => by
    unfold wL; rw [ar _ (pl_mst hk (by have := (lt k hk).2.1; omega))]
  have key1 : ∀ o, own o = 1 → Sup (fun o _ => own o = td) M o := fun o e => ⟨hO o (by omega), fun k q => ht.2.1 (by rw [← q]; exact e)⟩
  have wa : ∀ k, k < 4 → ∀ i, i < nL M s k → WA M' (wL M s k i) ∧ cTxt M' (wL M s k i) = cTxt M (wL M s k i) ∧ wFc M' (wL M s k i) = wFc M (wL M s k i) ∧ wTn M' (wL M s k i) = wTn M (wL M s k i) := fun k hk i hi => by
    obtain ⟨a, b, c⟩ := hso.2.1 k hk i hi
    exact ((lt k hk).2.2 i hi).2.g G (key1 _ a) (key1 _ b) (key1 _ c)
  have l0 := hsV.1 0 (by decide)
  have m0 : mst 0 = 40 := rfl
  have GT : FrG (fun o k => own o = td ∧ (o = d → k = 4 ∨ 7 ≤ k) ∧ (o = d + 6 → k = 0)) M M' := (f1.mono (fun o k _ q => ⟨PAo o k q, fun e => by unfold PA at q; omega, fun e => by unfold PA at q; omega⟩)).trans (f.mono (fun o k _ q => ⟨PcO o k q, fun e => by
    subst e
    rcases Nat.lt_trichotomy k 7 with y | y | y
    · exact absurd q (np 0 (by omega) k (fun _ => by omega))
    · omega
    · omega, fun e => by
    subst e
    exact absurd q (np 6 (by omega) k (by omega))⟩))
  refine ⟨M', own', rfl, GT, ow1, ow2, ⟨⟨fun o u v => ?_, fun k hk i hi => ?_, ow3⟩, ⟨?_, fun k hk => ⟨?_, ?_, fun i hi => ?_⟩, fun k hk => ?_, fun k hk i hi => ?_, fun m hm => ⟨?_, ?_⟩, ?_, fun r hr => ?_, ⟨?_, fun r hr => ⟨?_, ?_, ?_, fun j hj => ?_⟩⟩, ⟨b, fun hb => ?_⟩⟩, hsV, fun j hj w q => ?_⟩, RD⟩
  · have : o < mZ M := by have := od (o - d) (by omega); omega
    rw [ow1 o this]; exact hdo o u v
  · rw [nL' k hk] at hi
    obtain ⟨a, b, c⟩ := hso.2.1 k hk i hi
    obtain ⟨_, _, y1, y2⟩ := wa k hk i hi
    rw [wl k hk i hi, y1, y2, ow1 _ (hO _ (by omega)), ow1 _ (hO _ (by omega)), ow1 _ (hO _ (by omega))]
    exact ⟨a, b, c⟩
  · unfold LA
    have g0 := (cN 0 (by omega)).1
    rw [Nat.add_zero] at g0
    rw [g0, (rd0 0 (by omega)).2, (rd0 1 (by omega)).2, (rd0 2 (by omega)).2, (rd0 3 (by omega)).2, (rd0 5 (by omega)).2, (rd0 6 (by omega)).2, (cN 1 (by omega)).1, (cN 2 (by omega)).1, (cN 3 (by omega)).1, (cN 4 (by omega)).1, (cN 5 (by omega)).1, (cN 6 (by omega)).1, (cN 7 (by omega)).1, (cN 8 (by omega)).1, (cN 9 (by omega)).1, (cN 10 (by omega)).1,
      (cN 1 (by omega)).2, (cN 2 (by omega)).2, (cN 3 (by omega)).2, (cN 4 (by omega)).2, (cN 5 (by omega)).2, (cN 7 (by omega)).2, (cN 8 (by omega)).2, (cN 9 (by omega)).2, (cN 10 (by omega)).2,
      (rd 6 (by omega) 1 (by omega)).2.2.2, (rd 6 (by omega) 2 (by omega)).2.2.2, (rd 6 (by omega) 3 (by omega)).2.2.2, (rd 6 (by omega) 4 (by omega)).2.2.2]
    exact hdA
  · rw [nl k hk, nL' k hk]; exact (lt k hk).1
  · rw [nL' k hk]; exact (lt k hk).2.1
  · rw [nL' k hk] at hi
    rw [wl k hk i hi, ar _ (pl_mst hk (by have := (lt k hk).2.1; omega))]
    exact ⟨((lt k hk).2.2 i hi).1, (wa k hk i hi).1⟩
  · rw [nL' k hk]; exact hsv.2.2.1 k hk
  · have hi' : i < nL M s k := by rw [hsv.2.2.1 k hk]; exact hi
    rw [wl k hk i hi', (wa k hk i hi').2.1]
    exact hsv.2.2.2.1 k hk i hi
  · rw [(rd 3 (by omega) m (by omega)).2.1, (x34 m (by omega)).1]; exact (hsv.2.2.2.2.1 m hm).1
  · rw [(rd 4 (by omega) m (by omega)).2.1, (x34 m (by omega)).2]; exact (hsv.2.2.2.2.1 m hm).2
  · rw [(rd0 4 (by omega)).1, i4]; exact hsv.2.2.2.2.2.1
  · rw [(rd 5 (by omega) r (by omega)).2.1, x5 r hr]; exact hsv.2.2.2.2.2.2.1 r hr
  · rw [(rd 6 (by omega) 0 (by omega)).1, i60]; exact hsv.2.2.2.2.2.2.2.1.1
  · have hr30 := hsV.2.2.2.1.1
    rw [(rd 7 (by omega) r (by omega)).2.1, (x789 r (by omega)).1]; exact (hsv.2.2.2.2.2.2.2.1.2 r hr).1
  · have hr30 := hsV.2.2.2.1.1
    rw [(rd 8 (by omega) r (by omega)).2.1, (x789 r (by omega)).2.1]; exact (hsv.2.2.2.2.2.2.2.1.2 r hr).2.1
  · have hr30 := hsV.2.2.2.1.1
    rw [(rd 9 (by omega) r (by omega)).2.1, (x789 r (by omega)).2.2]; exact (hsv.2.2.2.2.2.2.2.1.2 r hr).2.2.1
  · have hr30 := hsV.2.2.2.1.1
    have := (hsV.2.2.2.1.2 r hr).2.1
    rw [(rd 10 (by omega) _ (by omega)).2.1, x10 _ (by omega)]; exact (hsv.2.2.2.2.2.2.2.1.2 r hr).2.2.2 j hj
  · rw [(rd0 8 (by omega)).1, (rd0 9 (by omega)).1, (rd0 10 (by omega)).1, i8, i9, i10]
    exact hsv.2.2.2.2.2.2.2.2.2 hb
  · rw [ar j hj] at q
    obtain ⟨u, v⟩ := hsw j hj w q
    exact ⟨Nat.lt_of_lt_of_le u G.1, by rw [(G.2.1 w u).1]; exact v⟩
