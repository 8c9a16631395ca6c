/-! what was fed -/
def TC (M : ej_Mem) (t : Nat) (tp : Nat → Nat) : Prop := t ≤ 400 ∧ (∀ k, k < t → tp k < 256) ∧ mI M 59 1 = nI t ∧ ∀ k, k < t → aI M 60 k = nI (tp k)
def TR (M : ej_Mem) (t : Nat) (tp : Nat → Nat) : Prop := t ≤ 400 ∧ mI M 90 1 = nI t ∧ ∀ k, k < t → aI M 91 k = (nI (tp k)).toInt8.toInt32
/-- the bytes of a number, the highest first -/
def byN (x : Int32) (s : Nat) : Nat := (x >>> (nI s &&& 31)).toBitVec.toNat % 256
theorem and255 (v : Int32) : v &&& 255 = nI (v.toBitVec.toNat % 256) := by
  apply Int32.toBitVec_inj.mp
  apply BitVec.eq_of_toNat_eq
  rw [Int32.toBitVec_and, BitVec.toNat_and, show (255 : Int32).toBitVec.toNat = 2 ^ 8 - 1 from by decide, Nat.and_two_pow_sub_one_eq_mod]
  exact (pk_tn (Nat.lt_of_lt_of_le (Nat.mod_lt _ (by decide)) (by decide))).symm
theorem byte_eq (v : Int32) : v.toInt8.toInt32 = (nI (v.toBitVec.toNat % 256)).toInt8.toInt32 := by
  rw [← and255]
  congr 1
  apply Int8.toBitVec_inj.mp
  rw [Int32.toBitVec_toInt8, Int32.toBitVec_toInt8, Int32.toBitVec_and]
  apply BitVec.eq_of_toNat_eq
  rw [BitVec.signExtend_eq_setWidth_of_le _ (by decide), BitVec.signExtend_eq_setWidth_of_le _ (by decide), BitVec.toNat_setWidth, BitVec.toNat_setWidth, BitVec.toNat_and, show (255 : Int32).toBitVec.toNat = 2 ^ 8 - 1 from by decide, Nat.and_two_pow_sub_one_eq_mod, Nat.mod_mod]
theorem nar_byte (v : Int32) : vp_nar .byte v.toInt8.toInt32 = v.toInt8.toInt32 := by
  show (v.toInt8.toInt32).toInt8.toInt32 = _
  rw [Int8.toInt8_toInt32]
def P59 (o k : Nat) : Prop := o = 60 ∨ (o = 59 ∧ k = 1)
theorem K59 {own : Nat → Nat} {M M' : ej_Mem} {V : View} (h : KC M own V) (f : FrG P59 M M') : KC M' own V := by
  obtain ⟨h1, h2, h3, h4, h5, h6, h7, b, hb⟩ := h
  have s := h5.sup (P := P59) h4 (by decide) (fun o k q => by
    have : own o = 7 := h4.2.2.1 o (by unfold P59 at q; omega) (by unfold P59 at q; omega)
    rw [this]; decide)
  exact ⟨h1.g f h3 (fun o k a b q => by unfold P59 at q; omega), h2.g f h3 (fun k => by unfold P59; omega), Nat.le_trans h3 f.1, h4.g f, h5.g f s h6.2.1, h6.g f s, h7, b, hb.g f (fun o h1 h2 => ⟨by omega, fun k q => by unfold P59 at q; omega⟩)⟩
def pu1 (tp : Nat → Nat) (t : Nat) (x : Int32) (s : Nat) : Nat → Nat := va_up tp t (byN x s)
theorem byN_lt (x : Int32) (s : Nat) : byN x s < 256 := Nat.mod_lt _ (by decide)
theorem TC.put {M : ej_Mem} {t : Nat} {tp : Nat → Nat} (h : TC M t tp) (ht : t < 400) (x : Int32) (s : Nat) : TC (setI (setA M 60 t (nI (byN x s))) 59 1 (nI (t + 1))) (t + 1) (pu1 tp t x s) := by
  refine ⟨by omega, fun k hk => ?_, rfl, fun k hk => ?_⟩
  · unfold pu1
    by_cases q : k = t
    · subst q; rw [up_s]; exact byN_lt x s
    · rw [up_n q]; exact h.2.1 k (by omega)
  · show va_up (aI M 60) t (nI (byN x s)) k = nI (va_up tp t (byN x s) k)
    by_cases q : k = t
    · subst q; rw [up_s, up_s]
    · rw [up_n q, up_n q]; exact h.2.2.2 k (by omega)
theorem TR.put {M : ej_Mem} {t : Nat} {tp : Nat → Nat} (h : TR M t tp) (ht : t < 400) (x : Int32) (s : Nat) : TR (setI (setA M 91 t (nI (byN x s)).toInt8.toInt32) 90 1 (nI (t + 1))) (t + 1) (pu1 tp t x s) := by
  refine ⟨by omega, rfl, fun k hk => ?_⟩
  show va_up (aI M 91) t (nI (byN x s)).toInt8.toInt32 k = (nI (va_up tp t (byN x s) k)).toInt8.toInt32
  by_cases q : k = t
  · subst q; rw [up_s, up_s]
  · rw [up_n q, up_n q]; exact h.2.2 k (by omega)
theorem feed_step (cl : Nat → List Value → ej_Mem → Option ej_R) {M : ej_Mem} {own : Nat → Nat} {V : View} (h : KC M own V) {t : Nat} {tp : Nat → Nat} (T : TC M t tp) (ht : t < 400) (x : Int32) {s : Nat} (hs : s < 32) :
    rn jm_Suit_feedNumber cl 3 [some (.ref 59), some (.int x), some (.int (nI s))] [] M = rn jm_Suit_feedNumber cl 3 [some (.ref 59), some (.int x), some (.int (nI s + -8))] [] (setI (setA M 60 t (nI (byN x s))) 59 1 (nI (t + 1))) := by
  rw [eq_Suit_feedNumber_3, if_neg (nI_pos (by omega))]
  simp only [SW.all h.1, T.2.2.1, MR, ckk_T, deR_s, deQ_s, deQ_n, bkV_s, bkI_s, bkJ_s, bkQ_s, bkQ_n, ckb0, ckb1, ckb2, ckb3, eq_self, Nat.reduceEqDiff, Nat.reduceLeDiff, Nat.reduceLT, reduceIte, true_or, or_true, not_false_eq_true, not_true_eq_false, and_self, and_true, true_and, LIT, Int32.reduceLT, Int32.reduceLE, Int32.reduceToNatClampNeg]
  have e4 : ¬ (400 : Int32) ≤ nI t := nI_ge (b := 400) ht (by decide)
  rw [if_neg e4, ckb_n ht (by decide), nI_clamp (by omega), and255, nI_1]
  rfl
theorem g59 {own : Nat → Nat} (M : ej_Mem) (t : Nat) (a b : Int32) : FrG P59 M (setI (setA M 60 t a) 59 1 b) := (FrG.setA (P := P59) M a (Or.inl rfl)).trans (FrG.setI (P := P59) _ b (Or.inr ⟨rfl, rfl⟩))
def pu4 (tp : Nat → Nat) (t : Nat) (x : Int32) : Nat → Nat := pu1 (pu1 (pu1 (pu1 tp t x 24) (t + 1) x 16) (t + 2) x 8) (t + 3) x 0
theorem p_feedNumber {D : Nat} (hD : 1 ≤ D) {M : ej_Mem} {own : Nat → Nat} {V : View} (h : KC M own V) {t : Nat} {tp : Nat → Nat} (T : TC M t tp) (ht : t + 4 ≤ 400) (x : Int32) : ∃ M', cal D jm_Suit_feedNumber [.ref 59, .int x] M = some (none, M') ∧ FrG P59 M M' ∧ KC M' own V ∧ TC M' (t + 4) (pu4 tp t x) := by
  obtain ⟨d, rfl⟩ : ∃ d, D = d + 1 := ⟨D - 1, by omega⟩
  rw [ca_Suit_feedNumber, eq_Suit_feedNumber_0]
  have T1 := T.put (by omega) x 24
  have G1 := g59 (own := own) M t (nI (byN x 24)) (nI (t + 1))
  have K1 := K59 h G1
  have T2 := T1.put (by omega) x 16
  have G2 := g59 (own := own) (setI (setA M 60 t (nI (byN x 24))) 59 1 (nI (t + 1))) (t + 1) (nI (byN x 16)) (nI (t + 1 + 1))
  have K2 := K59 K1 G2
  have T3 := T2.put (by omega) x 8
  have G3 := g59 (own := own) (setI (setA (setI (setA M 60 t (nI (byN x 24))) 59 1 (nI (t + 1))) 60 (t + 1) (nI (byN x 16))) 59 1 (nI (t + 1 + 1))) (t + 1 + 1) (nI (byN x 8)) (nI (t + 1 + 1 + 1))
  have K3 := K59 K2 G3
  have T4 := T3.put (by omega) x 0
  have G4 := g59 (own := own) (setI (setA (setI (setA (setI (setA M 60 t (nI (byN x 24))) 59 1 (nI (t + 1))) 60 (t + 1) (nI (byN x 16))) 59 1 (nI (t + 1 + 1))) 60 (t + 1 + 1) (nI (byN x 8))) 59 1 (nI (t + 1 + 1 + 1))) (t + 1 + 1 + 1) (nI (byN x 0)) (nI (t + 1 + 1 + 1 + 1))
  have K4 := K59 K3 G4
  have e1 := feed_step (cal d) h T (by omega) x (s := 24) (by decide)
  have e2 := feed_step (cal d) K1 T1 (by omega) x (s := 16) (by decide)
  have e3 := feed_step (cal d) K2 T2 (by omega) x (s := 8) (by decide)
  have e4 := feed_step (cal d) K3 T3 (by omega) x (s := 0) (by decide)
  rw [show nI 24 + -8 = nI 16 from by decide] at e1
  rw [show nI 16 + -8 = nI 8 from by decide] at e2
  rw [show nI 8 + -8 = nI 0 from by decide] at e3
  refine ⟨_, ?_, ((G1.trans G2).trans G3).trans G4, K4, T4⟩
  rw [show (24 : Int32) = nI 24 from rfl, e1, e2, e3, e4, eq_Suit_feedNumber_3, if_pos (by decide)]
def P91 (o k : Nat) : Prop := o = 91 ∨ (o = 90 ∧ k = 1)
theorem K91 {M M' : ej_Mem} {V : View} {mk : Nat} (h : KR M V mk) (f : Fr P91 M M') : KR M' V mk := by
  obtain ⟨h1, h2, h3, h4, h5⟩ := h
  exact ⟨f.rw h1, h2.fr h3 f (fun o k q z => by unfold P91 at z; omega) (fun k q z => by unfold P91 at z; omega), h3, ⟨by rw [f.i (by unfold P91; omega)]; exact h4.1, by rw [f.i (by unfold P91; omega)]; exact h4.2.1, by rw [f.i (by unfold P91; omega)]; exact h4.2.2⟩, h5.fr f (fun j => by unfold P91; omega) (by unfold P91; omega)⟩
theorem put_step (cl : Nat → List Value → ej_Mem → Option ej_R) {M : ej_Mem} (h : RW M) {t : Nat} {tp : Nat → Nat} (T : TR M t tp) (ht : t < 400) (x : Int32) {s : Nat} (hs : s < 32) :
    rn jm_Ref_put cl 3 [some (.ref 90), some (.int x), some (.int (nI s))] [] M = rn jm_Ref_put cl 3 [some (.ref 90), some (.int x), some (.int (nI s + -8))] [] (setI (setA M 91 t (nI (byN x s)).toInt8.toInt32) 90 1 (nI (t + 1))) := by
  rw [eq_Ref_put_3, if_neg (nI_pos (by omega))]
  simp only [RW.all h, T.2.1, MR, ckk_T, deR_s, deQ_s, deQ_n, bkV_s, bkI_s, bkJ_s, bkQ_s, bkQ_n, ckb0, ckb1, ckb2, ckb3, eq_self, Nat.reduceEqDiff, Nat.reduceLeDiff, Nat.reduceLT, reduceIte, true_or, or_true, not_false_eq_true, not_true_eq_false, and_self, and_true, true_and, LIT, Int32.reduceLT, Int32.reduceLE, Int32.reduceToNatClampNeg]
  rw [ckb_n ht (by decide), nI_clamp (by omega), nar_byte, byte_eq, nI_1]
  rfl
theorem g91 (M : ej_Mem) (t : Nat) (a b : Int32) : Fr P91 M (setI (setA M 91 t a) 90 1 b) := (Fr.setA (P := P91) M a (Or.inl rfl)).trans (Fr.setI (P := P91) _ b (Or.inr ⟨rfl, rfl⟩))
theorem p_put {D : Nat} (hD : 1 ≤ D) {M : ej_Mem} {V : View} {mk : Nat} (h : KR M V mk) {t : Nat} {tp : Nat → Nat} (T : TR M t tp) (ht : t + 4 ≤ 400) (x : Int32) : ∃ M', cal D jm_Ref_put [.ref 90, .int x] M = some (none, M') ∧ Fr P91 M M' ∧ KR M' V mk ∧ TR M' (t + 4) (pu4 tp t x) := by
  obtain ⟨d, rfl⟩ : ∃ d, D = d + 1 := ⟨D - 1, by omega⟩
  rw [ca_Ref_put, eq_Ref_put_0]
  have T1 := T.put (by omega) x 24
  have G1 := g91 M t (nI (byN x 24)).toInt8.toInt32 (nI (t + 1))
  have T2 := T1.put (by omega) x 16
  have G2 := g91 (setI (setA M 91 t (nI (byN x 24)).toInt8.toInt32) 90 1 (nI (t + 1))) (t + 1) (nI (byN x 16)).toInt8.toInt32 (nI (t + 1 + 1))
  have T3 := T2.put (by omega) x 8
  have G3 := g91 (setI (setA (setI (setA M 91 t (nI (byN x 24)).toInt8.toInt32) 90 1 (nI (t + 1))) 91 (t + 1) (nI (byN x 16)).toInt8.toInt32) 90 1 (nI (t + 1 + 1))) (t + 1 + 1) (nI (byN x 8)).toInt8.toInt32 (nI (t + 1 + 1 + 1))
  have T4 := T3.put (by omega) x 0
  have G4 := g91 (setI (setA (setI (setA (setI (setA M 91 t (nI (byN x 24)).toInt8.toInt32) 90 1 (nI (t + 1))) 91 (t + 1) (nI (byN x 16)).toInt8.toInt32) 90 1 (nI (t + 1 + 1))) 91 (t + 1 + 1) (nI (byN x 8)).toInt8.toInt32) 90 1 (nI (t + 1 + 1 + 1))) (t + 1 + 1 + 1) (nI (byN x 0)).toInt8.toInt32 (nI (t + 1 + 1 + 1 + 1))
  have R1 := G1.rw h.1
  have R2 := G2.rw R1
  have R3 := G3.rw R2
  have e1 := put_step (cal d) h.1 T (by omega) x (s := 24) (by decide)
  have e2 := put_step (cal d) R1 T1 (by omega) x (s := 16) (by decide)
  have e3 := put_step (cal d) R2 T2 (by omega) x (s := 8) (by decide)
  have e4 := put_step (cal d) R3 T3 (by omega) x (s := 0) (by decide)
  rw [show nI 24 + -8 = nI 16 from by decide] at e1
  rw [show nI 16 + -8 = nI 8 from by decide] at e2
  rw [show nI 8 + -8 = nI 0 from by decide] at e3
  have G := ((G1.trans G2).trans G3).trans G4
  refine ⟨_, ?_, G, K91 h G, T4⟩
  rw [show (24 : Int32) = nI 24 from rfl, e1, e2, e3, e4, eq_Ref_put_3, if_pos (by decide)]
