/-! go: both -/
theorem b_meet_P {cap : Nat} {w : Int32 → Bool} {t : Int32} {l : Nat × Nat} {b : BS} {P : Int32 → Prop} (h : ∀ x, x ∈ b.1 → P x) (ht : P t) : ∀ x, x ∈ (b_meet cap w t l b).1 → P x := by
  unfold b_meet
  split
  · exact h
  · intro x hx
    rcases List.mem_append.mp hx with q | q
    · exact h x q
    · rw [List.mem_singleton.mp q]; exact ht
theorem b_try_P {nx : Nat → Int32 → Option Int32} {cap : Nat} {w : Int32 → Bool} {i : Nat} {s : Int32} {m : Nat} {b : BS} {P : Int32 → Prop} (h : ∀ x, x ∈ b.1 → P x) (hn : ∀ y, nx m s = some y → P y) : ∀ x, x ∈ (b_try nx cap w i s m b).1 → P x := by
  unfold b_try
  split
  · split
    · exact h
    · rename_i t e
      split
      · exact h
      · exact b_meet_P h (hn t e)
  · exact h
theorem b_mvs_P {nx : Nat → Int32 → Option Int32} {cap : Nat} {w : Int32 → Bool} {i : Nat} {s : Int32} {P : Int32 → Prop} (hn : ∀ m y, nx m s = some y → P y) : ∀ (c m : Nat) (b : BS), (∀ x, x ∈ b.1 → P x) → ∀ x, x ∈ (b_mvs nx cap w i s c m b).1 → P x
  | 0, _, _, h => h
  | c + 1, m, b, h => b_mvs_P hn c (m + 1) _ (b_try_P h (hn m))
theorem b_run_P {nM : Nat} {nx : Nat → Int32 → Option Int32} {cap : Nat} {w : Int32 → Bool} {P : Int32 → Prop} (hM : nM ≤ 40) (hn : ∀ m x y, P x → nx m x = some y → P y) : ∀ (n : Nat) (b : BS), BOK cap b → (∀ x, x ∈ b.1 → P x) → ∀ x, x ∈ (b_run nM nx cap w n b).1 → P x
  | 0, _, _, h => h
  | n + 1, b, hk, h => by
    unfold b_run
    split
    · rename_i h1
      refine b_run_P hM hn n _ (b_pass_ok hM hk h1).1 ?_
      unfold b_pass b_fin
      have key := b_mvs_P (nx := nx) (cap := cap) (w := w) (i := b.2.2.1) (s := b.1.getD b.2.2.1 0) (P := P) (fun m y e => hn m _ y (h _ (getD_mem (hk.2.2.2.2.2.2.1 h1))) e) nM 0 (b.1, b.2.1, b.2.2.1 + 1, b.2.2.2) h
      split
      · exact key
      · exact key
    · exact h
def setVB (V : View) (b : BS) (g w : Nat) (y : Int32) : View := (V.1, V.2.1, V.2.2.1, V.2.2.2.1, V.2.2.2.2.1, V.2.2.2.2.2.1, (b, g, w, y))
def goB (V : View) (n : Nat) : BS := b_run (vN V 0) (nxV V (vG V) (vF V) (fun m _ => vOp V (vY V) m)) 4000 (tTs (vT V 2 (vW V))) n (vB V)
def goOk (V : View) (n : Int32) : Bool := inB n 1 4000 && decide ((vB V).2.2.2 ≠ 0)
def a_go (V : View) (n : Int32) : Int32 := if goOk V n = true then nI ((goB V n.toNatClampNeg).2.2.1 - (vB V).2.2.1) else -1
def u_go (V : View) (n : Int32) : View := if goOk V n = true then setVB V (goB V n.toNatClampNeg) (vG V) (vW V) (vY V) else V
theorem VOK.b1 {V : View} (h : VOK V) (hs : (vB V).2.2.2 ≠ 0) : BOK 4000 (vB V) ∧ (∀ x, x ∈ (vB V).1 → bI x 31 = false) ∧ vG V < vN V 1 ∧ vW V < vN V 2 := by
  rcases h.2.2.2.2.1 with q | q
  · rw [q] at hs; exact absurd rfl hs
  · exact q
theorem nxV_pos {V : View} (hV : VOK V) {gi : Nat} {fc : Int32} {ok : Nat → Int32 → Bool} : ∀ m x y, bI x 31 = false → nxV V gi fc ok m x = some y → bI y 31 = false := by
  intro m x y hx e
  unfold nxV at e
  split at e
  · rename_i q
    rw [← Option.some.inj e]
    exact vCh_pos hV q.1 hx
  · cases e
theorem VOK.go {V : View} (h : VOK V) (hs : (vB V).2.2.2 ≠ 0) (n : Nat) : VOK (setVB V (goB V n) (vG V) (vW V) (vY V)) := by
  obtain ⟨b1, b2, b3, b4⟩ := h.b1 hs
  have l0 := h.le (show 0 < 4 by decide)
  refine ⟨h.1, h.2.1, h.2.2.1, h.2.2.2.1, Or.inr ⟨(b_run_ok l0 n _ b1).1, b_run_P l0 (nxV_pos h) n _ b1 b2, b3, b4⟩, h.2.2.2.2.2⟩
theorem in4000 (n : Int32) : inB n 1 4000 = true ↔ ¬ n < 1 ∧ ¬ 4000 < n := by
  unfold inB
  rw [decide_eq_true_iff, Int32.not_lt, Int32.not_lt]
theorem in4000_get {n : Int32} (h : inB n 1 4000 = true) : ∃ j, 1 ≤ j ∧ j ≤ 4000 ∧ n = nI j := by
  obtain ⟨a, b⟩ := (in4000 n).mp h
  have a0 : ¬ n < 0 := fun z => a (Int32.lt_trans z (by decide))
  obtain ⟨j, hj, rfl⟩ := nI_of2 (n := 4000) (by decide : (4000 : Int32).toInt = 4000) a0 (Int32.not_lt.mp b)
  refine ⟨j, ?_, hj, rfl⟩
  rcases Nat.eq_zero_or_pos j with q | q
  · subst q; exact absurd (by decide) a
  · exact q
theorem KC.hcS {M : ej_Mem} {own : Nat → Nat} {V : View} (h : KC M own V) {hh : Nat} (e7 : mR M 68 7 = some hh) {gi wi : Nat} (hg : gi < vN V 1) (hw : wi < vN V 2) (e0 : mR M 80 0 = some (wL M 68 1 gi)) (e1 : mR M 80 1 = some (wL M 68 2 wi)) : HC M hh 68 80 (wL M 68 1 gi) (wL M 68 2 wi) := by
  have b122 := (h.sr e7).1
  obtain ⟨h1, h2, h3, h4, h5, h6, h7, _⟩ := h
  have own2 : ∀ o k, Ph hh o k → own o = 2 := fun o k q => h5.2.2 hh e7 o (by unfold Ph at q; omega) (by unfold Ph at q; omega)
  have wq : ∀ k, k < 4 → ∀ i, i < vN V k → WQ (Ph hh) M (wL M 68 k i) := by
    intro k hk i hi
    obtain ⟨a, b, c⟩ := h5.2.1 k hk i (by rw [h6.2.2.1 k hk]; exact hi)
    exact ⟨fun k q => by have := own2 _ _ q; omega, fun k q => by have := own2 _ _ q; omega, fun k q => by have := own2 _ _ q; omega⟩
  have wa : ∀ k, k < 4 → ∀ i, i < vN V k → WA M (wL M 68 k i) := fun k hk i hi => ((h6.2.1 k hk).2.2 i (by rw [h6.2.2.1 k hk]; exact hi)).2
  refine ⟨⟨h2, h6.1, h6.2.1, ?_, e0, wa 1 (by decide) gi hg⟩, ⟨⟨fun o a b k q => ?_, fun k hk i hi => wq k hk i (by rw [← h6.2.2.1 k hk]; exact hi)⟩, wq 1 (by decide) gi hg, fun k q => ?_, fun k => ⟨fun q => ?_, fun q => ?_⟩⟩, e1, wa 2 (by decide) wi hw, wq 2 (by decide) wi hw⟩
  · exact (SW.all h1).2.2.2.2.2.2.2.2.2.2.2.2.2.2.2.2.2.2.2.2.2.1
  · unfold Ph at q; omega
  · unfold Ph at q; omega
  · unfold Ph at q; omega
  · unfold Ph at q; omega
/-- the land's search has gone on -/
theorem KC.sought {M M' : ej_Mem} {own : Nat → Nat} {V : View} (h : KC M own V) {hh : Nat} (e7 : mR M 68 7 = some hh) (f : Fr (Ph hh) M M') {b : BS} (H : HR M' hh 4000 8192 19 b) {g w : Nat} {y : Int32} (hi : mI M 68 8 = nI g ∧ mI M 68 9 = nI w ∧ mI M 68 10 = y) (hV : VOK (setVB V b g w y)) : KC M' own (setVB V b g w y) ∧ FrG (P2 own) M M' := by
  have b122 := (h.sr e7).1
  have hv := h.2.2.2.2.2.1
  have fL : FrG (PL own) M M' := f.g.mono (fun o k _ q => by
    unfold Ph at q
    exact Or.inr (Or.inr (Or.inr (Or.inr (Or.inr ⟨by omega, h.2.2.2.2.1.2.2 hh e7 o (by omega) (by omega)⟩)))))
  have ai : ∀ o, o < 122 → aI M' o = aI M o := fun o ho => f.af (fun k q => by unfold Ph at q; omega)
  have mi : ∀ o k, o < 122 → mI M' o k = mI M o k := fun o k ho => f.i (fun q => by unfold Ph at q; omega)
  obtain ⟨b0, hb0⟩ := h.2.2.2.2.2.2.2
  refine ⟨h.land fL ⟨⟨rfl, rfl⟩, ?_, ?_, ?_, ?_, ?_⟩ hV (fun x e => h.2.2.2.2.1.2.2 x (by rw [← f.r]; exact e)) ⟨b0, hb0.g f.g (fun o a c => ⟨by have := h.2.2.1; omega, fun k q => by unfold Ph at q; omega⟩)⟩, gPL h.2.2.2.1 fL⟩
  · rw [ai 71 (by omega), ai 72 (by omega)]; exact hv.2.2.2.2.1
  · rw [mi 68 4 (by omega)]; exact hv.2.2.2.2.2.1
  · rw [ai 73 (by omega)]; exact hv.2.2.2.2.2.2.1
  · have r := hv.2.2.2.2.2.2.2.1
    unfold RlC at r ⊢
    rw [mi (68 + 6) 0 (by omega), ai (68 + 7) (by omega), ai (68 + 8) (by omega), ai (68 + 9) (by omega), ai (68 + 10) (by omega)]
    exact r
  · refine ⟨Or.inr ⟨hh, by rw [f.r]; exact e7, H⟩, fun _ => ?_⟩
    rw [mi 68 8 (by omega), mi 68 9 (by omega), mi 68 10 (by omega)]
    exact hi
