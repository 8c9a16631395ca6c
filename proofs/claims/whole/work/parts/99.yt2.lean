/-! the class reads facts, on -/
theorem c_addFact {D : Nat} (hD : 2 ≤ D) {M : ej_Mem} {t : Nat} {tp : Nat → Nat} {p dp br c lo0 j : Nat} {xs : List Nat} {ps : List Prd} (h : CXk M t tp p (dp + j) br c (List.replicate j 3 ++ xs) ps lo0) (hx : xs.head? ≠ some 3) (hxl : ∀ x, x ∈ xs → x ≤ 3) (hl : j + xs.length ≤ 40) (hc : c < 60) (hp : ps.length < 40) (set lo hi : Int32) : ∃ M', cal D jm_Clerk_addFact [.ref 61, .int set, .int lo, .int hi] M = some (none, M') ∧ Fr (Pk lo0) M M' ∧ CXk M' t tp p dp br (c + 1) xs (negs j (fP set lo hi) :: ps) lo0 := by
  obtain ⟨d, rfl⟩ : ∃ d, D = d + 1 := ⟨D - 1, by omega⟩
  rw [c_addFact_eq h hc hp]
  obtain ⟨F1, X1⟩ := h.af hc set lo hi
  obtain ⟨M2, e2, f2, X2⟩ := c_turnByNots (by omega : 1 ≤ d) hx hxl hp X1 hl
  exact ⟨M2, by rw [e2, bkV_s], F1.trans f2, X2⟩
theorem c_addFact_no {D : Nat} (hD : 1 ≤ D) {M : ej_Mem} {t : Nat} {tp : Nat → Nat} {p f : Nat} (h : CLk M t tp p f) (hf : f ≠ 0) (hf2 : f < 2 ^ 30) (set lo hi : Int32) : cal D jm_Clerk_addFact [.ref 61, .int set, .int lo, .int hi] M = some (none, M) := by
  obtain ⟨d, rfl⟩ : ∃ d, D = d + 1 := ⟨D - 1, by omega⟩
  rw [ca_Clerk_addFact, eq_Clerk_addFact_0]
  simp only [SW.all h.1, h.2.2.2.2, MR, ckk_T, deR_s, deQ_s, deQ_n, bkV_s, bkI_s, bkJ_s, bkQ_s, bkQ_n, ckb0, ckb1, ckb2, ckb3, eq_self, Nat.reduceEqDiff, Nat.reduceLeDiff, Nat.reduceLT, reduceIte, true_or, or_true, not_false_eq_true, not_true_eq_false, and_self, and_true, true_and, LIT, Int32.reduceLT, Int32.reduceLE, Int32.reduceToNatClampNeg]
  rw [if_neg (nI_ne0 (by omega) (by omega))]
def CDd (M : ej_Mem) (t : Nat) (tp : Nat → Nat) (g : Nat) : Prop := g ≠ 0 ∧ g < 2 ^ 30 ∧ ∃ p, p ≤ t ∧ CLk M t tp p g
/-- a sign is there: what is compared -/
theorem c_cnt34 {D : Nat} (hD : 2 ≤ D) {M : ej_Mem} {t : Nat} {tp : Nat → Nat} {r f : Nat} (h : CLk M t tp r f) (hf : f < 2 ^ 30) (hs : sg tp t r = 60 ∨ sg tp t r = 61 ∨ sg tp t r = 62) (set : Int32) :
    ∃ p' v lo hi, rn jm_Clerk_readCounted (cal D) 34 [some (.ref 61), some (.int set), some (.int (sI (sg tp t r))), none, none, none] [] M = bkV (cal D jm_Clerk_addFact [.ref 61, .int set, .int lo, .int hi] (pf 61 M p' (nmF tp t 24 (cmN tp t r) f))) (fun M1 => some (none, M1)) ∧ p' ≤ t ∧ lo = loI (sg tp t r) (cmQ tp t r) v ∧ hi = hiI (sg tp t r) (cmQ tp t r) v ∧ (nmF tp t 24 (cmN tp t r) 0 = 0 → p' = blk tp t (cmN tp t r) + (num tp t (blk tp t (cmN tp t r))).1 ∧ v = (num tp t (blk tp t (cmN tp t r))).2) := by
  obtain ⟨rt, n1, n2⟩ := cmN_le hs
  have TP := h.2.2.1.1
  have t4 := TP.1
  have tc := h.2.2.1.2.1
  have key : ∀ (m : Nat) (eq : Bool) (l3 : Int32), m ≤ t → l3 = b2i eq → ∃ p' v lo hi, rn jm_Clerk_readCounted (cal D) 99 [some (.ref 61), some (.int set), some (.int (sI (sg tp t r))), some (.int l3), none, none] [] (pf 61 M m f) = bkV (cal D jm_Clerk_addFact [.ref 61, .int set, .int lo, .int hi] (pf 61 M p' (nmF tp t 24 m f))) (fun M1 => some (none, M1)) ∧ p' ≤ t ∧ lo = loI (sg tp t r) eq v ∧ hi = hiI (sg tp t r) eq v ∧ (nmF tp t 24 m 0 = 0 → p' = blk tp t m + (num tp t (blk tp t m)).1 ∧ v = (num tp t (blk tp t m)).2) := by
    intro m eq l3 hm h3
    subst h3
    have H := h.pf m f
    obtain ⟨p', v, e1, c1, c2, c3, c4⟩ := c_readNumber hD H hf hm (x := 24) (most := 24) rfl (by decide)
    rw [pf_pf] at e1
    have H2 := h.pf p' (nmF tp t 24 m f)
    refine ⟨p', v, loI (sg tp t r) eq v, hiI (sg tp t r) eq v, ?_, c2, rfl, rfl, fun z => c4 (nmF_0 z).2⟩
    rw [eq_Clerk_readCounted_99]
    simp only [SW.all H.1, MR, ckk_T, deR_s, deQ_s, deQ_n, bkV_s, bkI_s, bkJ_s, bkQ_s, bkQ_n, ckb0, ckb1, ckb2, ckb3, eq_self, Nat.reduceEqDiff, Nat.reduceLeDiff, Nat.reduceLT, reduceIte, true_or, or_true, not_false_eq_true, not_true_eq_false, and_self, and_true, true_and, LIT, Int32.reduceLT, Int32.reduceLE, Int32.reduceToNatClampNeg]
    rw [e1, bkI_s]
    have fin : ∀ b : Int32, b = (if eq = true then 0 else 1) → rn jm_Clerk_readCounted (cal D) 116 [some (.ref 61), some (.int set), some (.int (sI (sg tp t r))), some (.int (b2i eq)), some (.int (nI v)), none] [.int b] (pf 61 M p' (nmF tp t 24 m f)) = bkV (cal D jm_Clerk_addFact [.ref 61, .int set, .int (loI (sg tp t r) eq v), .int (hiI (sg tp t r) eq v)] (pf 61 M p' (nmF tp t 24 m f))) (fun M1 => some (none, M1)) := by
      intro b hb
      unfold loI hiI
      rw [← hb, eq_Clerk_readCounted_116]
      rcases hs with hs | hs | hs
      · rw [hs, if_pos (show sI 60 = 60 from rfl), eq_Clerk_readCounted_135, if_neg (show ¬ sI 60 = 62 by decide), eq_Clerk_readCounted_151, if_pos rfl, if_neg (by decide)]
        simp only [SW.all H2.1, MR, ckk_T, deR_s, deQ_s, deQ_n, bkV_s, bkI_s, bkJ_s, bkQ_s, bkQ_n, ckb0, ckb1, ckb2, ckb3, eq_self, Nat.reduceEqDiff, Nat.reduceLeDiff, Nat.reduceLT, reduceIte, true_or, or_true, not_false_eq_true, not_true_eq_false, and_self, and_true, true_and, LIT, Int32.reduceLT, Int32.reduceLE, Int32.reduceToNatClampNeg]
      · rw [hs, if_neg (show ¬ sI 61 = 60 by decide), eq_Clerk_readCounted_135, if_neg (show ¬ sI 61 = 62 by decide), eq_Clerk_readCounted_151, if_neg (by decide), if_neg (by decide)]
        simp only [SW.all H2.1, MR, ckk_T, deR_s, deQ_s, deQ_n, bkV_s, bkI_s, bkJ_s, bkQ_s, bkQ_n, ckb0, ckb1, ckb2, ckb3, eq_self, Nat.reduceEqDiff, Nat.reduceLeDiff, Nat.reduceLT, reduceIte, true_or, or_true, not_false_eq_true, not_true_eq_false, and_self, and_true, true_and, LIT, Int32.reduceLT, Int32.reduceLE, Int32.reduceToNatClampNeg]
      · rw [hs, if_neg (show ¬ sI 62 = 60 by decide), eq_Clerk_readCounted_135, if_pos (show sI 62 = 62 from rfl), eq_Clerk_readCounted_151, if_neg (by decide), if_pos rfl]
        simp only [SW.all H2.1, MR, ckk_T, deR_s, deQ_s, deQ_n, bkV_s, bkI_s, bkJ_s, bkQ_s, bkQ_n, ckb0, ckb1, ckb2, ckb3, eq_self, Nat.reduceEqDiff, Nat.reduceLeDiff, Nat.reduceLT, reduceIte, true_or, or_true, not_false_eq_true, not_true_eq_false, and_self, and_true, true_and, LIT, Int32.reduceLT, Int32.reduceLE, Int32.reduceToNatClampNeg]
    cases eq
    · rw [if_pos (show b2i false = 0 from rfl)]; exact fin 1 rfl
    · rw [if_neg (show ¬ b2i true = 0 by decide)]; exact fin 0 rfl
  rw [eq_Clerk_readCounted_34]
  simp only [SW.all h.1, h.2.2.2.1, nI_1, MR, ckk_T, deR_s, deQ_s, deQ_n, bkV_s, bkI_s, bkJ_s, bkQ_s, bkQ_n, ckb0, ckb1, ckb2, ckb3, eq_self, Nat.reduceEqDiff, Nat.reduceLeDiff, Nat.reduceLT, reduceIte, true_or, or_true, not_false_eq_true, not_true_eq_false, and_self, and_true, true_and, LIT, Int32.reduceLT, Int32.reduceLE, Int32.reduceToNatClampNeg]
  rw [pf_q h.2.2.2.2]
  have H1 := h.pf (r + 1) f
  by_cases q61 : sg tp t r = 61
  · have hE : cmE tp t r = false := by unfold cmE; rw [decide_eq_false (fun z => z.1 q61)]
    have eN : cmN tp t r = r + 1 := by unfold cmN; rw [hE, if_neg Bool.false_ne_true]
    have eQ : cmQ tp t r = true := by unfold cmQ; rw [decide_eq_true q61]; rfl
    rw [if_pos (by rw [q61]; rfl), eq_Clerk_readCounted_55, if_pos (by rw [q61]; rfl), eN, eQ]
    rw [eN] at n2
    exact key (r + 1) true 1 n2 rfl
  · have n61 : ¬ sI (sg tp t r) = 61 := fun z => q61 ((sI_eq (sg_le TP r) (by decide : 61 < 256)).mp z)
    rw [if_neg n61, eq_Clerk_readCounted_55, if_neg n61]
    simp only [SW.all H1.1, H1.2.2.1.2.2, H1.2.2.2.1, nI_1, MR, ckk_T, deR_s, deQ_s, deQ_n, bkV_s, bkI_s, bkJ_s, bkQ_s, bkQ_n, ckb0, ckb1, ckb2, ckb3, eq_self, Nat.reduceEqDiff, Nat.reduceLeDiff, Nat.reduceLT, reduceIte, true_or, or_true, not_false_eq_true, not_true_eq_false, and_self, and_true, true_and, LIT, Int32.reduceLT, Int32.reduceLE, Int32.reduceToNatClampNeg]
    have no : cmE tp t r = false → ∃ p' v lo hi, rn jm_Clerk_readCounted (cal D) 99 [some (.ref 61), some (.int set), some (.int (sI (sg tp t r))), some (.int 0), none, none] [] (pf 61 M (r + 1) f) = bkV (cal D jm_Clerk_addFact [.ref 61, .int set, .int lo, .int hi] (pf 61 M p' (nmF tp t 24 (cmN tp t r) f))) (fun M1 => some (none, M1)) ∧ p' ≤ t ∧ lo = loI (sg tp t r) (cmQ tp t r) v ∧ hi = hiI (sg tp t r) (cmQ tp t r) v ∧ (nmF tp t 24 (cmN tp t r) 0 = 0 → p' = blk tp t (cmN tp t r) + (num tp t (blk tp t (cmN tp t r))).1 ∧ v = (num tp t (blk tp t (cmN tp t r))).2) := by
      intro hE
      have eN : cmN tp t r = r + 1 := by unfold cmN; rw [hE, if_neg Bool.false_ne_true]
      have eQ : cmQ tp t r = false := by unfold cmQ; rw [decide_eq_false q61, hE]; rfl
      rw [eN] at n2
      rw [eN, eQ]
      exact key (r + 1) false 0 n2 rfl
    by_cases lt : r + 1 < t
    · have tc1 := H1.2.2.1.2.1
      rw [if_neg (nI_ge lt (by omega)), ckb_n (by omega) (by decide), nI_clamp (by omega), tc1.2.2.2 _ lt]
      by_cases q2 : sg tp t (r + 1) = 61
      · have hE : cmE tp t r = true := by unfold cmE; rw [decide_eq_true ⟨q61, q2⟩]
        have eN : cmN tp t r = r + 2 := by unfold cmN; rw [hE, if_pos rfl]
        have eQ : cmQ tp t r = true := by unfold cmQ; rw [hE, Bool.or_true]
        rw [if_pos (by rw [← sgb TP lt, q2]; rfl), pf_s2, eN, eQ]
        rw [eN] at n2
        exact key (r + 2) true 1 n2 rfl
      · have hE : cmE tp t r = false := by unfold cmE; rw [decide_eq_false (fun z => q2 z.2)]
        rw [if_neg (show ¬ nI (tp (r + 1)) = 61 from fun z => q2 (by rw [← sgb TP lt] at z; exact (sI_eq (sg_le TP _) (by decide : 61 < 256)).mp z))]
        exact no hE
    · have q2 : sg tp t (r + 1) ≠ 61 := fun z => by have := sg_lt z (by decide); omega
      have hE : cmE tp t r = false := by unfold cmE; rw [decide_eq_false (fun z => q2 z.2)]
      rw [if_pos (nI_le (by omega) (by omega))]
      exact no hE
