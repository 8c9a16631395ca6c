/-! text of the reference -/
def txOk (V : View) (x : Int32) : Bool := inB x 0 3 && decide (vN V x.toNatClampNeg < mst x.toNatClampNeg)
def a_text (V : View) (tp : Nat → Nat) (t : Nat) (x : Int32) : Int32 := if txOk V x = true then (match ptx tp t x.toNatClampNeg with
  | .inl g => -2 - nI g
  | .inr _ => nI (vN V x.toNatClampNeg)) else -1
def u_text (V : View) (tp : Nat → Nat) (t : Nat) (x : Int32) : View := if txOk V x = true then (match ptx tp t x.toNatClampNeg with
  | .inl _ => V
  | .inr (_, _, T) => addT V x.toNatClampNeg T) else V
def t_text (V : View) (t : Nat) (x : Int32) : Nat := if txOk V x = true then 0 else t
/-- the frame of a text that was read -/
def Prd1 (sl o k : Nat) : Prop := Pcl sl o k ∨ (o = 90 ∧ (k = 1 ∨ k = 4))
theorem rTx_n {A : Arr} {so sl n : Nat} (hs : so < 2) (hl : sl = (if so = 1 then 40 else 0) + (sl - (if so = 1 then 40 else 0))) (hc : rC A sl = n) : rTx A so (sl - (if so = 1 then 40 else 0)) = rTxn A so sl n := by
  have : so = 0 ∨ so = 1 := by omega
  unfold rTx rTxn
  rcases this with rfl | rfl
  · rw [if_pos rfl, if_neg (by decide), if_neg (by decide)]
    rw [Nat.sub_zero]
    unfold rU rNeed rTurn
    rw [hc]
  · rw [if_neg (by decide), if_pos rfl, if_pos rfl, if_pos rfl]
    have e : 40 + (sl - 40) = sl := by rw [if_pos rfl] at hl; omega
    rw [e]
    unfold rU rBar
    rw [hc]
/-- what the slots of other texts hold stays -/
theorem sl_other {M M' : ej_Mem} {P : Nat → Nat → Prop} {sl sl' : Nat} (f : Fr P M M') (hp : ∀ o k, P o k → Prd1 sl o k ∨ (o = 95 ∧ k = sl) ∨ o = 92 ∨ o = 101 ∨ o = 102) (hne : sl' ≠ sl) : SlAg (aI M) (aI M') sl' := by
  have n : ∀ o k, ¬ (Prd1 sl o k ∨ (o = 95 ∧ k = sl) ∨ o = 92 ∨ o = 101 ∨ o = 102) → aI M' o k = aI M o k := fun o k q => f.a (fun z => q (hp o k z))
  refine ⟨n _ _ (by unfold Prd1 Pcl Pt; omega), fun q l u => ⟨n _ _ (by unfold Prd1 Pcl Pt; omega), n _ _ (by unfold Prd1 Pcl Pt; omega), n _ _ (by unfold Prd1 Pcl Pt; omega), n _ _ (by unfold Prd1 Pcl Pt; omega)⟩, fun e l u => ⟨n _ _ (by unfold Prd1 Pcl Pt; omega), n _ _ (by unfold Prd1 Pcl Pt; omega)⟩⟩
theorem pl_inj {k k' i i' : Nat} (hk : k < 4) (hk' : k' < 4) (hi : i < mst k) (hi' : i' < mst k') (h : pl k + i = pl k' + i') : k = k' ∧ i = i' := by
  have a : k = 0 ∨ k = 1 ∨ k = 2 ∨ k = 3 := by omega
  have b : k' = 0 ∨ k' = 1 ∨ k' = 2 ∨ k' = 3 := by omega
  rcases a with rfl | rfl | rfl | rfl <;> rcases b with rfl | rfl | rfl | rfl <;> simp [pl, mst] at * <;> omega
/-- a view whose texts are the same: a text with a fault -/
theorem KR.rd {M M' : ej_Mem} {V : View} {mk so : Nat} (h : KR M V mk) (hs : so < 4) (hm : vN V so < mst so) (f : Fr (Prd1 (pl so + vN V so)) M M') : KR M' V mk := by
  obtain ⟨h1, h2, h3, h4, h5⟩ := h
  have hp : ∀ o k, Prd1 (pl so + vN V so) o k → Prd1 (pl so + vN V so) o k ∨ (o = 95 ∧ k = pl so + vN V so) ∨ o = 92 ∨ o = 101 ∨ o = 102 := fun o k q => Or.inl q
  have n : ∀ o k, ¬ Prd1 (pl so + vN V so) o k → aI M' o k = aI M o k := fun o k q => f.a q
  have ni : ∀ k, 9 ≤ k → mI M' 90 k = mI M 90 k := fun k hk => f.i (by unfold Prd1 Pcl Pt; omega)
  have other : ∀ o, (o = 92 ∨ (101 ≤ o ∧ o ≤ 103) ∨ (105 ≤ o ∧ o ≤ 118)) → aI M' o = aI M o := fun o ho => f.af (fun k => by unfold Prd1 Pcl Pt; omega)
  refine ⟨f.rw h1, ?_, h3, ⟨by rw [ni 40 (by decide)]; exact h4.1, by rw [ni 41 (by decide)]; exact h4.2.1, by rw [ni 42 (by decide)]; exact h4.2.2⟩, ?_⟩
  · refine h2.new (V' := V) (fun k _ => by rw [other 92 (by omega)]) (fun k hk i hi => sl_other f hp (fun e => ?_)) ⟨rfl, rfl⟩ (fun m hm' => by rw [other 101 (by omega), other 102 (by omega)]; exact h2.2.2.2.1 m hm') (by rw [ni 9 (by decide)]; exact h2.2.2.2.2.1) (fun r hr => by rw [other 103 (by omega)]; exact h2.2.2.2.2.2.1 r hr) ?_ ?_ ?_
    · obtain ⟨a, b⟩ := pl_inj hk hs (Nat.lt_of_lt_of_le hi (h3.1 k hk)) hm e
      subst a; omega
    · have := h2.2.2.2.2.2.2.1
      unfold RlR at this ⊢
      rw [ni 47 (by decide), other 115 (by omega), other 116 (by omega), other 117 (by omega), other 118 (by omega)]
      exact this
    · have := h2.2.2.2.2.2.2.2.1
      unfold RGc at this ⊢
      rw [ni 31 (by decide), ni 32 (by decide), ni 33 (by decide), ni 37 (by decide), other 108 (by omega), other 109 (by omega), other 110 (by omega)]
      exact this
    · rw [ni 34 (by decide), ni 35 (by decide), ni 36 (by decide)]; exact h2.2.2.2.2.2.2.2.2
  · exact h5.fr f (fun k => by unfold Prd1 Pcl Pt; omega) (by unfold Prd1 Pcl Pt; omega)
/-- a text more -/
theorem KR.add {M M' : ej_Mem} {V : View} {mk so : Nat} {T : Txt} (h : KR M V mk) (hs : so < 4) (hm : vN V so < mst so) (hT : TOK T) {P : Nat → Nat → Prop} (f : Fr P M M') (hp : ∀ o k, P o k → Prd1 (pl so + vN V so) o k ∨ (o = 95 ∧ k = pl so + vN V so) ∨ (o = 92 ∧ k = so) ∨ ((o = 101 ∨ o = 102) ∧ so = 0 ∧ k = vN V 0)) (e92 : aI M' 92 so = nI (vN V so + 1)) (sok : slOK (aI M') (pl so + vN V so)) (tx : rTx (aI M') so (vN V so) = T) (ho : so = 0 → aI M' 101 (vN V 0) = 0 ∧ aI M' 102 (vN V 0) = 2999) : KR M' (addT V so T) mk := by
  obtain ⟨h1, h2, h3, h4, h5⟩ := h
  have hp' : ∀ o k, P o k → Prd1 (pl so + vN V so) o k ∨ (o = 95 ∧ k = pl so + vN V so) ∨ o = 92 ∨ o = 101 ∨ o = 102 := fun o k q => by
    rcases hp o k q with z | z | z | z
    · exact Or.inl z
    · exact Or.inr (Or.inl z)
    · exact Or.inr (Or.inr (Or.inl z.1))
    · exact Or.inr (Or.inr (Or.inr z.1))
  have n : ∀ o k, ¬ (Prd1 (pl so + vN V so) o k ∨ (o = 95 ∧ k = pl so + vN V so) ∨ (o = 92 ∧ k = so) ∨ ((o = 101 ∨ o = 102) ∧ so = 0 ∧ k = vN V 0)) → ¬ P o k := fun o k q z => q (hp o k z)
  have ni : ∀ k, 9 ≤ k → mI M' 90 k = mI M 90 k := fun k hk => f.i (n _ _ (by unfold Prd1 Pcl Pt; omega))
  have other : ∀ o, (o = 103 ∨ (105 ≤ o ∧ o ≤ 118)) → aI M' o = aI M o := fun o ho => f.af (fun k => n _ _ (by unfold Prd1 Pcl Pt; omega))
  have e92' : ∀ k, k ≠ so → aI M' 92 k = aI M 92 k := fun k hk => f.a (n _ _ (by unfold Prd1 Pcl Pt; omega))
  have V' := VOK_addT h3 hs hm hT
  have mle := mst_le (k := so)
  have eN : ∀ k, k < 4 → rN (aI M') k = vN (addT V so T) k := by
    intro k hk
    rw [addT_N]
    unfold rN
    split
    · rename_i z; rw [z, e92, nI_clamp (by omega)]
    · rename_i z; rw [e92' k z]; exact h2.2.1 k hk
  have old : ∀ k i, k < 4 → i < vN (addT V so T) k → ¬ (k = so ∧ i = vN V so) → i < vN V k ∧ SlAg (aI M) (aI M') (pl k + i) := by
    intro k i hk hi q
    have lt : i < vN V k := by
      rw [addT_N] at hi
      split at hi
      · rename_i z
        rw [z]
        have : i ≠ vN V so := fun y => q ⟨z, y⟩
        omega
      · exact hi
    refine ⟨lt, sl_other f hp' (fun e => ?_)⟩
    obtain ⟨a, b⟩ := pl_inj hk hs (Nat.lt_of_lt_of_le lt (h3.1 k hk)) hm e
    exact q ⟨a, b⟩
  refine ⟨f.rw h1, ⟨fun k hk => ⟨?_, ?_, fun i hi => ?_⟩, eN, fun k hk i hi => ?_, fun m hm' => ?_, ?_, ?_, ?_, ?_, ?_⟩, V', ⟨by rw [ni 40 (by decide)]; exact h4.1, by rw [ni 41 (by decide)]; exact h4.2.1, by rw [ni 42 (by decide)]; exact h4.2.2⟩, ?_⟩
  · rw [eN k hk, addT_N]
    split
    · rename_i z; rw [z]; exact e92
    · rename_i z; rw [e92' k z, ← h2.2.1 k hk]; exact (h2.1 k hk).1
  · rw [eN k hk]; exact V'.1 k hk
  · rw [eN k hk] at hi
    by_cases q : k = so ∧ i = vN V so
    · rw [q.1, q.2]; exact sok
    · obtain ⟨a, b⟩ := old k i hk hi q
      exact slOK_cg b ((h2.1 k hk).2.2 i (by rw [h2.2.1 k hk]; exact a))
  · rw [addT_T]
    by_cases q : k = so ∧ i = vN V so
    · rw [if_pos q, q.1, q.2]; exact tx
    · rw [if_neg q]
      obtain ⟨a, b⟩ := old k i hk hi q
      rw [rTx_cg hk b ((h2.1 k hk).2.2 i (by rw [h2.2.1 k hk]; exact a))]
      exact h2.2.2.1 k hk i a
  · show aI M' 101 m = (if so = 0 ∧ m = vN V 0 then ((0, 2999) : Int32 × Int32) else vO V m).1 ∧ aI M' 102 m = (if so = 0 ∧ m = vN V 0 then ((0, 2999) : Int32 × Int32) else vO V m).2
    by_cases q : so = 0 ∧ m = vN V 0
    · rw [if_pos q, q.2]; exact ho q.1
    · rw [if_neg q]
      have lt : m < vN V 0 := by
        rw [addT_N] at hm'
        split at hm'
        · rename_i z
          have : m ≠ vN V 0 := fun y => q ⟨z.symm, y⟩
          rw [← z] at hm'
          omega
        · exact hm'
      rw [f.a (n _ _ (by unfold Prd1 Pcl Pt; omega)), f.a (n _ _ (by unfold Prd1 Pcl Pt; omega))]
      exact h2.2.2.2.1 m lt
  · rw [ni 9 (by decide)]; exact h2.2.2.2.2.1
  · intro r hr; rw [other 103 (by omega)]; exact h2.2.2.2.2.2.1 r hr
  · have := h2.2.2.2.2.2.2.1
    unfold RlR at this ⊢
    rw [ni 47 (by decide), other 115 (by omega), other 116 (by omega), other 117 (by omega), other 118 (by omega)]
    exact this
  · have := h2.2.2.2.2.2.2.2.1
    unfold RGc at this ⊢
    rw [ni 31 (by decide), ni 32 (by decide), ni 33 (by decide), ni 37 (by decide), other 108 (by omega), other 109 (by omega), other 110 (by omega)]
    exact this
  · rw [ni 34 (by decide), ni 35 (by decide), ni 36 (by decide)]; exact h2.2.2.2.2.2.2.2.2
  · exact h5.fr f (fun k => n _ _ (by unfold Prd1 Pcl Pt; omega)) (n _ _ (by unfold Prd1 Pcl Pt; omega))
