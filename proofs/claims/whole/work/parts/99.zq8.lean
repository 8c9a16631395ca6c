/-! the class: a text is set down in the land -/
def Pz (o k : Nat) : Prop := Prx o k ∨ (o = 59 ∧ k = 1)
theorem KC.prx {M M' : ej_Mem} {own own' : Nat → Nat} {V : View} (h : KC M own V) (f : FrG Pz M M') (ho : ∀ o, o < mZ M → own' o = own o) (ho' : ∀ o, own' o ≠ 0 → o < mZ M') : KC M' own' V := by
  obtain ⟨h1, h2, h3, h4, h5, h6, h7, b, hb⟩ := h
  have n7 : ∀ o k, Pz o k → own o = 7 := fun o k q => h4.2.2.1 o (by unfold Pz Prx at q; omega) (by unfold Pz Prx at q; omega)
  have s := h5.sup (P := Pz) h4 (by decide) (fun o k q => by rw [n7 o k q]; decide)
  have ne : ∀ o, own o ≠ 0 → own' o = own o := fun o q => ho o (h4.1 o q)
  refine ⟨h1.g f h3 (fun o k a b q => by unfold Pz Prx at q; omega), h2.g f h3 (fun k => ⟨fun q => by unfold Pz Prx at q; omega, fun q => by unfold Pz Prx at q; omega⟩), Nat.le_trans h3 f.1, ⟨ho', fun o q => ?_, fun o q r => ?_, fun o q r => ?_, fun o q r => ?_, fun o q r => ?_⟩, (h5.g f s h6.2.1).own (by decide) ne, h6.g f s, h7, b, hb.g f (fun o q r => ⟨by omega, fun k z => by unfold Pz Prx at z; omega⟩)⟩
  · rw [ho o (by omega)]; exact h4.2.1 o q
  · rw [ho o (by omega)]; exact h4.2.2.1 o q r
  · rw [ho o (by omega)]; exact h4.2.2.2.1 o q r
  · rw [ho o (by omega)]; exact h4.2.2.2.2.1 o q r
  · rw [ho o (by omega)]; exact h4.2.2.2.2.2 o q r
theorem c_room {D : Nat} (hD : 1 ≤ D) {M : ej_Mem} (W : SW M) (S : ST M) {so n : Nat} (hs : so < 4) (hn : aI M 70 so = nI n) (hb : n ≤ 40) : cal D jm_Land_hasRoom [.ref 68, .int (nI so)] M = some (some (.int (b2i (decide (n < mst so)))), M) := by
  obtain ⟨d, rfl⟩ : ∃ d, D = d + 1 := ⟨D - 1, by omega⟩
  obtain ⟨⟨s1, s2, s3, s4⟩, ⟨a0, a1, a2, a3⟩, _⟩ := S
  rw [ca_Land_hasRoom, eq_Land_hasRoom_0]
  simp only [SW.all W, s1, s2, MR, ckk_T, deR_s, deQ_s, deQ_n, bkV_s, bkI_s, bkJ_s, bkQ_s, bkQ_n, ckb0, ckb1, ckb2, ckb3, eq_self, Nat.reduceEqDiff, Nat.reduceLeDiff, Nat.reduceLT, reduceIte, true_or, or_true, not_false_eq_true, not_true_eq_false, and_self, and_true, true_and, LIT, Int32.reduceLT, Int32.reduceLE, Int32.reduceToNatClampNeg]
  rw [ckb_n hs (by decide), ckb_n hs (by decide), nI_clamp (by omega), hn]
  have key : ∀ m, aI M 1 so = nI m → mst so = m → m ≤ 40 → (if aI M 1 so ≤ nI n then ckk ((0 : Int32) = 0 ∨ (0 : Int32) = 1) (some (some (.int (0 : Int32)), M)) else ckk ((1 : Int32) = 0 ∨ (1 : Int32) = 1) (some (some (.int (1 : Int32)), M))) = some (some (.int (b2i (decide (n < mst so)))), M) := by
    intro m e1 e2 hm
    rw [e1, e2]
    by_cases z : n < m
    · rw [if_neg (nI_ge z (by omega)), decide_eq_true z]; rfl
    · rw [if_pos (nI_le (by omega) (by omega)), decide_eq_false z]; rfl
  have s4 : so = 0 ∨ so = 1 ∨ so = 2 ∨ so = 3 := by omega
  rcases s4 with rfl | rfl | rfl | rfl
  · exact key 40 a0 rfl (by decide)
  · exact key 8 a1 rfl (by decide)
  · exact key 16 a2 rfl (by decide)
  · exact key 8 a3 rfl (by decide)
def laM (M : ej_Mem) (so n w : Nat) : ej_Mem := if so = 0 then setA (setA (setA (setP M 69 (pl so + n) (some w)) 70 so (nI (n + 1))) 71 n 0) 72 n 2999 else setA (setP M 69 (pl so + n) (some w)) 70 so (nI (n + 1))
theorem c_ladd {D : Nat} (hD : 1 ≤ D) {M : ej_Mem} (W : SW M) (S : ST M) {so n w : Nat} (hs : so < 4) (hn : aI M 70 so = nI n) (hb : n < mst so) (hw : mC M w = 7) : cal D jm_Land_add [.ref 68, .int (nI so), .ref w] M = some (some (.int (nI n)), laM M so n w) := by
  obtain ⟨d, rfl⟩ : ∃ d, D = d + 1 := ⟨D - 1, by omega⟩
  obtain ⟨⟨s1, s2, s3, s4⟩, _, ⟨a0, a1, a2, a3⟩⟩ := S
  have b40 : mst so ≤ 40 := mst_le
  have p72 : pl so + n < 72 := pl_mst hs hb
  have ep : aI M 2 so = nI (pl so) := by
    have s4 : so = 0 ∨ so = 1 ∨ so = 2 ∨ so = 3 := by omega
    rcases s4 with rfl | rfl | rfl | rfl
    · exact a0
    · exact a1
    · exact a2
    · exact a3
  rw [ca_Land_add, eq_Land_add_0]
  simp only [SW.all W, s3, s4, hw, MR, ckk_T, deR_s, deQ_s, deQ_n, bkV_s, bkI_s, bkJ_s, bkQ_s, bkQ_n, ckb0, ckb1, ckb2, ckb3, eq_self, Nat.reduceEqDiff, Nat.reduceLeDiff, Nat.reduceLT, reduceIte, true_or, or_true, not_false_eq_true, not_true_eq_false, and_self, and_true, true_and, LIT, Int32.reduceLT, Int32.reduceLE, Int32.reduceToNatClampNeg]
  simp only [ckb_n hs (show 4 < 2 ^ 31 by decide), nI_clamp (show so < 2 ^ 31 by omega), hn, ep]
  rw [show nI (pl so) + nI n = nI (pl so + n) from nI_add _ _, ckb_n p72 (by decide), nI_clamp (by omega), nI_clamp (by omega), nI_1]
  unfold laM
  by_cases z : so = 0
  · subst z
    have n40 : n < 40 := hb
    rw [if_pos (by rfl), if_pos rfl]
    simp only [ckb_n n40 (show 40 < 2 ^ 31 by decide)]
  · rw [if_neg (show ¬ nI so = 0 from nI_ne0 (by omega) (by omega)), if_neg z]
