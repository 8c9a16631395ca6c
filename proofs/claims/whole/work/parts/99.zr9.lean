/-! the class: a writ more in the land -/
def PLa (so n o k : Nat) : Prop := (o = 69 ∧ k = pl so + n) ∨ (o = 70 ∧ k = so) ∨ (so = 0 ∧ (o = 71 ∨ o = 72) ∧ k = n)
theorem laM_k (M : ej_Mem) (so n w : Nat) : mC (laM M so n w) = mC M ∧ mN (laM M so n w) = mN M ∧ mI (laM M so n w) = mI M ∧ mR (laM M so n w) = mR M ∧ mZ (laM M so n w) = mZ M ∧ mS (laM M so n w) = mS M := by
  unfold laM
  split <;> exact ⟨rfl, rfl, rfl, rfl, rfl, rfl⟩
theorem laM_f (M : ej_Mem) (so n w : Nat) : FrG (PLa so n) M (laM M so n w) := by
  have f2 := (FrG.setP (P := PLa so n) M (some w) (Or.inl ⟨rfl, rfl⟩)).trans (FrG.setA (P := PLa so n) _ (nI (n + 1)) (Or.inr (Or.inl ⟨rfl, rfl⟩)))
  unfold laM
  split
  · rename_i z
    exact (f2.trans (FrG.setA (P := PLa so n) _ _ (Or.inr (Or.inr ⟨z, Or.inl rfl, rfl⟩)))).trans (FrG.setA (P := PLa so n) _ _ (Or.inr (Or.inr ⟨z, Or.inr rfl, rfl⟩)))
  · exact f2
theorem laM_70 (M : ej_Mem) (so n w k : Nat) : aI (laM M so n w) 70 k = if k = so then nI (n + 1) else aI M 70 k := by
  have e : aI (setA (setP M 69 (pl so + n) (some w)) 70 so (nI (n + 1))) 70 k = if k = so then nI (n + 1) else aI M 70 k := by
    rw [gA_u]; exact va_upe _ _ _ _
  unfold laM
  split
  · rw [gA_n (by omega), gA_n (by omega)]; exact e
  · exact e
theorem gP_u2 (M : ej_Mem) (o k : Nat) (v : Option Nat) : aR (setP M o k v) o = va_up (aR M o) k v := by
  show (if o = o then va_up (aR M o) k v else aR M o) = _
  rw [if_pos rfl]
theorem laM_69 (M : ej_Mem) (so n w j : Nat) : aR (laM M so n w) 69 j = if j = pl so + n then some w else aR M 69 j := by
  have e : aR (setP M 69 (pl so + n) (some w)) 69 j = if j = pl so + n then some w else aR M 69 j := by
    rw [gP_u2]; exact va_upe _ _ _ _
  unfold laM
  split <;> exact e
theorem laM_71 (M : ej_Mem) (so n w m : Nat) : aI (laM M so n w) 71 m = if so = 0 ∧ m = n then 0 else aI M 71 m := by
  unfold laM
  split
  · rename_i z
    rw [gA_n (by omega), gA_u]
    show (if m = n then (0 : Int32) else aI (setA (setP M 69 (pl so + n) (some w)) 70 so (nI (n + 1))) 71 m) = _
    rw [gA_o (by decide)]
    by_cases y : m = n
    · rw [if_pos y, if_pos ⟨z, y⟩]
    · rw [if_neg y, if_neg (fun q => y q.2)]; rfl
  · rename_i z
    rw [gA_o (by decide), if_neg (fun q => z q.1)]; rfl
theorem laM_72 (M : ej_Mem) (so n w m : Nat) : aI (laM M so n w) 72 m = if so = 0 ∧ m = n then 2999 else aI M 72 m := by
  unfold laM
  split
  · rename_i z
    rw [gA_u]
    show (if m = n then (2999 : Int32) else aI (setA (setA (setP M 69 (pl so + n) (some w)) 70 so (nI (n + 1))) 71 n 0) 72 m) = _
    rw [gA_o (by decide), gA_o (by decide)]
    by_cases y : m = n
    · rw [if_pos y, if_pos ⟨z, y⟩]
    · rw [if_neg y, if_neg (fun q => y q.2)]; rfl
  · rename_i z
    rw [gA_o (by decide), if_neg (fun q => z q.1)]; rfl
theorem pl_inj2 {k so i n : Nat} (hk : k < 4) (hs : so < 4) (hi : i < mst k) (hn : n < mst so) (e : pl k + i = pl so + n) : k = so ∧ i = n := by
  have a : k = 0 ∨ k = 1 ∨ k = 2 ∨ k = 3 := by omega
  have b : so = 0 ∨ so = 1 ∨ so = 2 ∨ so = 3 := by omega
  have p0 : pl 0 = 0 := rfl
  have p1 : pl 1 = 40 := rfl
  have p2 : pl 2 = 48 := rfl
  have p3 : pl 3 = 64 := rfl
  have m0 : mst 0 = 40 := rfl
  have m1 : mst 1 = 8 := rfl
  have m2 : mst 2 = 16 := rfl
  have m3 : mst 3 = 8 := rfl
  rcases a with rfl | rfl | rfl | rfl <;> rcases b with rfl | rfl | rfl | rfl <;> omega
theorem KC.ladd {M : ej_Mem} {own : Nat → Nat} {V : View} (h : KC M own V) {so w : Nat} {T : Txt} (hs : so < 4) (hm : vN V so < mst so) (A : WA M w) (eT : cTxt M w = T) (o1 : own w = 1 ∧ own (wFc M w) = 1 ∧ own (wTn M w) = 1) (hT : TOK T) : KC (laM M so (vN V so) w) own (addT V so T) := by
  obtain ⟨h1, h2, h3, h4, h5, h6, h7, b, hb⟩ := h
  have f := laM_f M so (vN V so) w
  obtain ⟨kC, kN, kI, kR, kZ, kS⟩ := laM_k M so (vN V so) w
  have e70 := laM_70 M so (vN V so) w
  have e69 := laM_69 M so (vN V so) w
  have e71 := laM_71 M so (vN V so) w
  have e72 := laM_72 M so (vN V so) w
  generalize laM M so (vN V so) w = M4 at *
  have P2 : ∀ o k, PLa so (vN V so) o k → 69 ≤ o ∧ o ≤ 72 := fun o k q => by unfold PLa at q; omega
  have n2 : ∀ o k, PLa so (vN V so) o k → own o = 2 := fun o k q => h4.2.2.2.1 o (by have := P2 o k q; omega) (by have := P2 o k q; omega)
  have no1 : ∀ o, own o = 1 → Sup (PLa so (vN V so)) M o := fun o e => ⟨h4.1 o (by omega), fun k q => by have := n2 o k q; omega⟩
  have nk : ∀ k, k < 4 → nL M 68 k = vN V k := h6.2.2.1
  have nl : ∀ k, k < 4 → nL M4 68 k = if k = so then vN V so + 1 else vN V k := by
    intro k hk
    show (aI M4 70 k).toNatClampNeg = _
    rw [e70]
    by_cases z : k = so
    · rw [if_pos z, if_pos z, nI_clamp (by have := mst_le (k := so); omega)]
    · rw [if_neg z, if_neg z]; exact nk k hk
  have w1 : wL M4 68 so (vN V so) = w := by
    show (aR M4 69 (pl so + vN V so)).getD 0 = w
    rw [e69, if_pos rfl]; rfl
  have vk : ∀ k, k < 4 → vN V k ≤ mst k := h7.1
  have w0 : ∀ k i, k < 4 → i < vN V k → aR M4 69 (pl k + i) = aR M 69 (pl k + i) ∧ wL M4 68 k i = wL M 68 k i := by
    intro k i hk hi
    have e : aR M4 69 (pl k + i) = aR M 69 (pl k + i) := by
      rw [e69, if_neg (fun q => ?_)]
      obtain ⟨rfl, rfl⟩ := pl_inj2 hk hs (by have := vk k hk; omega) hm q
      omega
    refine ⟨e, ?_⟩
    show (aR M4 69 (pl k + i)).getD 0 = (aR M 69 (pl k + i)).getD 0
    rw [e]
  have wa0 := A.g f (no1 _ o1.1) (no1 _ o1.2.1) (no1 _ o1.2.2)
  have wa : ∀ k, k < 4 → ∀ i, i < vN V k → WA M4 (wL M 68 k i) ∧ cTxt M4 (wL M 68 k i) = cTxt M (wL M 68 k i) ∧ wFc M4 (wL M 68 k i) = wFc M (wL M 68 k i) ∧ wTn M4 (wL M 68 k i) = wTn M (wL M 68 k i) := by
    intro k hk i hi
    rw [← nk k hk] at hi
    obtain ⟨a, b, c⟩ := h5.2.1 k hk i hi
    exact ((h6.2.1 k hk).2.2 i hi).2.g f (no1 _ a) (no1 _ b) (no1 _ c)
  -- a place is the new one or an old one
  have two : ∀ k i, k < 4 → i < (if k = so then vN V so + 1 else vN V k) → (k = so ∧ i = vN V so) ∨ (i < vN V k ∧ ¬ (k = so ∧ i = vN V so)) := by
    intro k i hk hi
    by_cases z : k = so
    · subst z
      rw [if_pos rfl] at hi
      by_cases y : i = vN V k
      · exact Or.inl ⟨rfl, y⟩
      · exact Or.inr ⟨by omega, fun q => y q.2⟩
    · rw [if_neg z] at hi
      exact Or.inr ⟨hi, fun q => z q.1⟩
  refine ⟨h1.g f h3 (fun o k _ _ q => by have := P2 o k q; omega), h2.g f h3 (fun k => ⟨fun q => by have := P2 _ _ q; omega, fun q => by have := P2 _ _ q; omega⟩), by rw [kZ]; exact h3, h4.g f, ⟨h5.1, fun k hk i hi => ?_, by rw [kR]; exact h5.2.2⟩, ⟨?_, ?_, ?_, ?_, ?_, ?_, ?_, ?_, ?_⟩, VOK_addT h7 hs hm hT, b, hb.g f (fun o a c => ⟨by omega, fun k q => by have := P2 o k q; omega⟩)⟩
  · rw [nl k hk] at hi
    rcases two k i hk hi with ⟨rfl, rfl⟩ | ⟨y, _⟩
    · rw [w1, wa0.2.2.1, wa0.2.2.2]; exact o1
    · rw [(w0 k i hk y).2, (wa k hk i y).2.2.1, (wa k hk i y).2.2.2]
      exact h5.2.1 k hk i (by rw [nk k hk]; exact y)
  · have la := h6.1
    unfold LA at la ⊢
    rw [kC, kN, kR]; exact la
  · intro k hk
    rw [nl k hk]
    obtain ⟨g1, g2, g3⟩ := h6.2.1 k hk
    refine ⟨?_, ?_, fun i hi => ?_⟩
    · show aI M4 70 k = _
      rw [e70]
      by_cases z : k = so
      · rw [if_pos z, if_pos z]
      · rw [if_neg z, if_neg z, ← nk k hk]; exact g1
    · by_cases z : k = so
      · rw [if_pos z, z]; omega
      · rw [if_neg z]; exact vk k hk
    · rcases two k i hk hi with ⟨rfl, rfl⟩ | ⟨y, _⟩
      · rw [w1]
        refine ⟨?_, wa0.1⟩
        show aR M4 69 _ = _
        rw [e69, if_pos rfl]
      · rw [(w0 k i hk y).2]
        refine ⟨?_, (wa k hk i y).1⟩
        show aR M4 69 _ = _
        rw [(w0 k i hk y).1]
        exact (g3 i (by rw [nk k hk]; exact y)).1
  · intro k hk; rw [nl k hk, addT_N]
  · intro k hk i hi
    rw [addT_N] at hi
    rw [addT_T]
    rcases two k i hk hi with ⟨rfl, rfl⟩ | ⟨y, y2⟩
    · rw [if_pos ⟨rfl, rfl⟩, w1, wa0.2.1]; exact eT
    · rw [if_neg y2, (w0 k i hk y).2, (wa k hk i y).2.1]; exact h6.2.2.2.1 k hk i y
  · intro m hm'
    rw [addT_N] at hm'
    show aI M4 71 m = (if so = 0 ∧ m = vN V 0 then ((0 : Int32), (2999 : Int32)) else vO V m).1 ∧ aI M4 72 m = (if so = 0 ∧ m = vN V 0 then ((0 : Int32), (2999 : Int32)) else vO V m).2
    rw [e71, e72]
    by_cases z : so = 0 ∧ m = vN V 0
    · have z' : so = 0 ∧ m = vN V so := ⟨z.1, by rw [z.1]; exact z.2⟩
      rw [if_pos z', if_pos z', if_pos z]; exact ⟨rfl, rfl⟩
    · have z' : ¬ (so = 0 ∧ m = vN V so) := fun q => z ⟨q.1, by rw [← q.1]; exact q.2⟩
      rw [if_neg z', if_neg z', if_neg z]
      refine h6.2.2.2.2.1 m ?_
      by_cases y : 0 = so
      · rw [if_pos y] at hm'
        subst y
        have : m ≠ vN V 0 := fun q => z ⟨rfl, q⟩
        omega
      · rw [if_neg y] at hm'; exact hm'
  · rw [kI]; exact h6.2.2.2.2.2.1
  · intro r hr
    show aI M4 73 r = _
    rw [(f.2.2 73 (by omega) r (fun q => by have := P2 _ _ q; omega)).2.2.2.1]
    exact h6.2.2.2.2.2.2.1 r hr
  · have g : ∀ o, 73 ≤ o → o ≤ 78 → aI M4 o = aI M o := fun o a c => (f.all ⟨by omega, fun k q => by have := P2 _ _ q; omega⟩).2.2.2.1
    have rl := h6.2.2.2.2.2.2.2.1
    unfold RlC at rl ⊢
    rw [kI, g (68 + 7) (by omega) (by omega), g (68 + 8) (by omega) (by omega), g (68 + 9) (by omega) (by omega), g (68 + 10) (by omega) (by omega)]
    exact rl
  · have s := h6.2.2.2.2.2.2.2.2
    unfold SrC at s ⊢
    rw [kR, kI]
    refine ⟨?_, s.2⟩
    rcases s.1 with q | ⟨hh, q1, q2⟩
    · exact Or.inl q
    · refine Or.inr ⟨hh, q1, q2.g f (fun o a c => ⟨h4.1 o (by rw [h5.2.2 hh q1 o a c]; decide), fun k q => ?_⟩)⟩
      have := P2 _ _ q
      have b122 := (KC.sr (M := M) (own := own) (V := V) ⟨h1, h2, h3, h4, h5, h6, h7, b, hb⟩ q1).1
      omega
