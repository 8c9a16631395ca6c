/-! least: the class's scales -/
def Psc (o k : Nat) : Prop := Ph 81 o k ∨ o = 86 ∨ o = 87
theorem KC.sc {M M' : ej_Mem} {own : Nat → Nat} {V : View} {b : BS} (h : KC M own V) (f : Fr Psc M M') (hb : HR M' 81 500 1024 22 b) : KC M' own V := by
  obtain ⟨h1, h2, h3, h4, h5, h6, h7, _⟩ := h
  have s := h5.sup (P := Psc) h4 (by decide) (fun o k q => by
    have : own o = 7 := h4.2.2.2.2.1 o (by unfold Psc Ph at q; omega) (by unfold Psc Ph at q; omega)
    rw [this]; decide)
  exact ⟨f.sw h1, h2.g f.g h3 (fun k => by unfold Psc Ph; omega), by rw [f.z]; exact h3, h4.g f.g, h5.g f.g s h6.2.1, h6.g f.g s, h7, b, hb⟩
/-- all that a query of the class rests on -/
def QC (M : ej_Mem) (own : Nat → Nat) (V : View) (gi wi : Nat) (y : Int32) : Prop := KC M own V ∧ gi < vN V 1 ∧ wi < vN V 2 ∧ TS M gi wi (vF V) ∧ ∀ m, m < vN V 0 → bJ (mL M 80 2) m = vOp V y m
theorem QC.sc {M M' : ej_Mem} {own : Nat → Nat} {V : View} {gi wi : Nat} {y : Int32} {b : BS} (h : QC M own V gi wi y) (f : Fr Psc M M') (hb : HR M' 81 500 1024 22 b) : QC M' own V gi wi y := by
  obtain ⟨h1, h2, h3, h4, h5⟩ := h
  refine ⟨h1.sc f hb, h2, h3, ?_, fun m hm => by rw [f.l]; exact h5 m hm⟩
  unfold TS wL
  rw [f.r, f.ar, f.i (by unfold Psc Ph; omega)]
  exact h4
def SC (M : ej_Mem) (b : BS) (wt : Nat → Option Nat) (dn : Nat → Bool) (B : Nat) : Prop := HR M 81 500 1024 22 b ∧ (∀ i, i < b.1.length → ∃ v, wt i = some v ∧ aI M 86 i = nI v ∧ v ≤ B) ∧ (∀ i, i < b.1.length → aI M 87 i = b2i (dn i)) ∧ ∀ i, b.1.length ≤ i → dn i = false
theorem SC.mono {M : ej_Mem} {b : BS} {wt : Nat → Option Nat} {dn : Nat → Bool} {B B' : Nat} (h : SC M b wt dn B) (hB : B ≤ B') : SC M b wt dn B' := ⟨h.1, fun i hi => by obtain ⟨v, a, c, e⟩ := h.2.1 i hi; exact ⟨v, a, c, by omega⟩, h.2.2⟩
theorem nI_nm {p : Nat} (h : p < 2 ^ 31) : ¬ nI p = -1 := fun e => nI_pos h (by rw [e]; decide)
/-- the lightest that is not gone through -/
def lo (wt : Nat → Option Nat) (dn : Nat → Bool) (k : Nat) (r : Int32) : Prop := (r = -1 ∧ ∀ i, i < k → dn i = true) ∨ ∃ p, p < k ∧ r = nI p ∧ dn p = false ∧ ∀ j a b, j < k → dn j = false → wt p = some a → wt j = some b → a ≤ b
theorem lo_loop (cl : Nat → List Value → ej_Mem → Option ej_R) {M : ej_Mem} (hS : SW M) {b : BS} {wt : Nat → Option Nat} {dn : Nat → Bool} {B : Nat} (hB : B < 2 ^ 31) (h : SC M b wt dn B) : ∀ (n k : Nat) (r : Int32), k + n = b.1.length → lo wt dn k r → ∃ r', rn jm_Scal_lightestOpen cl 4 [some (.ref 85), some (.int (nI b.1.length)), some (.int r), some (.int (nI k))] [] M = some (some (.int r'), M) ∧ lo wt dn b.1.length r'
  | 0, k, r, hk, hl => by
    have := h.1.2.2.1
    rw [eq_Scal_lightestOpen_4, if_pos (nI_le (by omega) (by omega))]
    exact ⟨r, rfl, by rw [← hk, Nat.add_zero]; exact hl⟩
  | n + 1, k, r, hk, hl => by
    have h500 := h.1.2.2.1
    obtain ⟨vk, wk, ak, bk⟩ := h.2.1 k (by omega)
    rw [eq_Scal_lightestOpen_4, if_neg (nI_ge (by omega) (by omega)), if_neg (show ¬ (500 : Int32) ≤ nI k from nI_ge (a := k) (b := 500) (by omega) (by decide))]
    simp only [SW.all hS, MR, ckk_T, deR_s, deQ_s, deQ_n, bkV_s, bkI_s, bkJ_s, bkQ_s, bkQ_n, ckb0, ckb1, ckb2, ckb3, eq_self, Nat.reduceEqDiff, Nat.reduceLeDiff, Nat.reduceLT, reduceIte, true_or, or_true, not_false_eq_true, not_true_eq_false, and_self, and_true, true_and, LIT, Int32.reduceLT, Int32.reduceLE, Int32.reduceToNatClampNeg]
    rw [ckb_n (by omega) (by decide), nI_clamp (by omega), h.2.2.1 k (by omega), nI_1]
    cases hd : dn k with
    | true =>
      rw [if_neg (by decide)]
      refine lo_loop cl hS hB h n (k + 1) r (by omega) ?_
      rcases hl with ⟨e, a⟩ | ⟨p, p1, p2, p3, p4⟩
      · exact Or.inl ⟨e, fun i hi => by
          by_cases q : i = k
          · rw [q]; exact hd
          · exact a i (by omega)⟩
      · exact Or.inr ⟨p, by omega, p2, p3, fun j x z hj q => by
          by_cases e : j = k
          · rw [e, hd] at q; cases q
          · exact p4 j x z (by omega) q⟩
    | false =>
      rw [if_pos (by rfl)]
      rcases hl with ⟨e, a⟩ | ⟨p, p1, p2, p3, p4⟩
      · rw [if_pos e]
        refine lo_loop cl hS hB h n (k + 1) _ (by omega) (Or.inr ⟨k, by omega, rfl, hd, fun j x z hj q u v => ?_⟩)
        by_cases e : j = k
        · rw [e, u] at v; cases v; exact Nat.le_refl _
        · rw [a j (by omega)] at q; cases q
      · obtain ⟨vp, wp, ap, bp⟩ := h.2.1 p (by omega)
        subst p2
        rw [if_neg (nI_nm (by omega)), ckb_n (by omega) (by decide), ckb_n (by omega) (by decide), nI_clamp (by omega), ak, ap]
        by_cases q : vp ≤ vk
        · rw [if_pos (nI_le q (by omega))]
          refine lo_loop cl hS hB h n (k + 1) _ (by omega) (Or.inr ⟨p, by omega, rfl, p3, fun j x z hj q' u v => ?_⟩)
          by_cases e : j = k
          · rw [e, wk] at v; rw [wp] at u; cases u; cases v; exact q
          · exact p4 j x z (by omega) q' u v
        · rw [if_neg (nI_ge (by omega) (by omega))]
          refine lo_loop cl hS hB h n (k + 1) _ (by omega) (Or.inr ⟨k, by omega, rfl, hd, fun j x z hj q' u v => ?_⟩)
          by_cases e : j = k
          · rw [e, u] at v; cases v; exact Nat.le_refl _
          · have := p4 j vp z (by omega) q' wp v
            rw [wk] at u; cases u; omega
