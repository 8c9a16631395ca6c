/-! frames: what a method leaves as it was (ints and rows of ints alone may change, and where 'P' allows it) -/
def Fr (P : Nat → Nat → Prop) (M M' : ej_Mem) : Prop := mC M' = mC M ∧ mN M' = mN M ∧ mL M' = mL M ∧ mR M' = mR M ∧ aR M' = aR M ∧ mZ M' = mZ M ∧ mS M' = mS M ∧ (∀ o k, ¬ P o k → mI M' o k = mI M o k) ∧ (∀ o k, ¬ P o k → aI M' o k = aI M o k)
theorem Fr.refl (P : Nat → Nat → Prop) (M : ej_Mem) : Fr P M M := ⟨rfl, rfl, rfl, rfl, rfl, rfl, rfl, fun _ _ _ => rfl, fun _ _ _ => rfl⟩
theorem Fr.trans {P : Nat → Nat → Prop} {M M' M'' : ej_Mem} (h : Fr P M M') (h' : Fr P M' M'') : Fr P M M'' := by
  obtain ⟨a1, a2, a3, a4, a5, a6, a7, a8, a9⟩ := h
  obtain ⟨b1, b2, b3, b4, b5, b6, b7, b8, b9⟩ := h'
  exact ⟨b1.trans a1, b2.trans a2, b3.trans a3, b4.trans a4, b5.trans a5, b6.trans a6, b7.trans a7, fun o k hp => (b8 o k hp).trans (a8 o k hp), fun o k hp => (b9 o k hp).trans (a9 o k hp)⟩
theorem Fr.mono {P Q : Nat → Nat → Prop} {M M' : ej_Mem} (h : Fr P M M') (hq : ∀ o k, P o k → Q o k) : Fr Q M M' := by
  obtain ⟨a1, a2, a3, a4, a5, a6, a7, a8, a9⟩ := h
  exact ⟨a1, a2, a3, a4, a5, a6, a7, fun o k hp => a8 o k (fun x => hp (hq o k x)), fun o k hp => a9 o k (fun x => hp (hq o k x))⟩
theorem Fr.c {P : Nat → Nat → Prop} {M M' : ej_Mem} (h : Fr P M M') : mC M' = mC M := h.1
theorem Fr.n {P : Nat → Nat → Prop} {M M' : ej_Mem} (h : Fr P M M') : mN M' = mN M := h.2.1
theorem Fr.l {P : Nat → Nat → Prop} {M M' : ej_Mem} (h : Fr P M M') : mL M' = mL M := h.2.2.1
theorem Fr.r {P : Nat → Nat → Prop} {M M' : ej_Mem} (h : Fr P M M') : mR M' = mR M := h.2.2.2.1
theorem Fr.ar {P : Nat → Nat → Prop} {M M' : ej_Mem} (h : Fr P M M') : aR M' = aR M := h.2.2.2.2.1
theorem Fr.z {P : Nat → Nat → Prop} {M M' : ej_Mem} (h : Fr P M M') : mZ M' = mZ M := h.2.2.2.2.2.1
theorem Fr.s {P : Nat → Nat → Prop} {M M' : ej_Mem} (h : Fr P M M') : mS M' = mS M := h.2.2.2.2.2.2.1
theorem Fr.i {P : Nat → Nat → Prop} {M M' : ej_Mem} (h : Fr P M M') {o k : Nat} (hp : ¬ P o k) : mI M' o k = mI M o k := h.2.2.2.2.2.2.2.1 o k hp
theorem Fr.a {P : Nat → Nat → Prop} {M M' : ej_Mem} (h : Fr P M M') {o k : Nat} (hp : ¬ P o k) : aI M' o k = aI M o k := h.2.2.2.2.2.2.2.2 o k hp
theorem Fr.af {P : Nat → Nat → Prop} {M M' : ej_Mem} (h : Fr P M M') {o : Nat} (hp : ∀ k, ¬ P o k) : aI M' o = aI M o := by
  funext k; exact h.a (hp k)
theorem Fr.if {P : Nat → Nat → Prop} {M M' : ej_Mem} (h : Fr P M M') {o : Nat} (hp : ∀ k, ¬ P o k) : mI M' o = mI M o := by
  funext k; exact h.i (hp k)
theorem Fr.setI {P : Nat → Nat → Prop} (M : ej_Mem) {o k : Nat} (v : Int32) (hp : P o k) : Fr P M (setI M o k v) := by
  refine ⟨rfl, rfl, rfl, rfl, rfl, rfl, rfl, ?_, fun _ _ _ => rfl⟩
  intro o' k' h
  show (if o' = o then va_up (mI M o) k v else mI M o') k' = mI M o' k'
  by_cases e : o' = o
  · subst e
    rw [if_pos rfl]
    by_cases e2 : k' = k
    · subst e2; exact absurd hp h
    · exact up_n e2
  · rw [if_neg e]
theorem Fr.setA {P : Nat → Nat → Prop} (M : ej_Mem) {o k : Nat} (v : Int32) (hp : P o k) : Fr P M (setA M o k v) := by
  refine ⟨rfl, rfl, rfl, rfl, rfl, rfl, rfl, fun _ _ _ => rfl, ?_⟩
  intro o' k' h
  show (if o' = o then va_up (aI M o) k v else aI M o') k' = aI M o' k'
  by_cases e : o' = o
  · subst e
    rw [if_pos rfl]
    by_cases e2 : k' = k
    · subst e2; exact absurd hp h
    · exact up_n e2
  · rw [if_neg e]
theorem Fr.setF {P : Nat → Nat → Prop} (M : ej_Mem) {o : Nat} (f : Nat → Int32) (hp : ∀ k, P o k) : Fr P M (setF M o f) := by
  refine ⟨rfl, rfl, rfl, rfl, rfl, rfl, rfl, fun _ _ _ => rfl, ?_⟩
  intro o' k' h
  show (if o' = o then f else aI M o') k' = aI M o' k'
  by_cases e : o' = o
  · subst e; exact absurd (hp k') h
  · rw [if_neg e]
theorem Fr.rw {P : Nat → Nat → Prop} {M M' : ej_Mem} (h : Fr P M M') (hw : RW M) : RW M' := by
  unfold RW; rw [h.c, h.n, h.r]; exact hw
theorem Fr.sw {P : Nat → Nat → Prop} {M M' : ej_Mem} (h : Fr P M M') (hw : SW M) : SW M' := by
  unfold SW; rw [h.c, h.n, h.r]; exact hw
/-- reading one int after one was written -/
theorem gI_s (M : ej_Mem) (o k : Nat) (v : Int32) : mI (setI M o k v) o k = v := by
  show (if o = o then va_up (mI M o) k v else mI M o) k = v
  rw [if_pos rfl, up_s]
theorem gI_n {M : ej_Mem} {o k o' k' : Nat} {v : Int32} (h : ¬ (o' = o ∧ k' = k)) : mI (setI M o k v) o' k' = mI M o' k' := by
  show (if o' = o then va_up (mI M o) k v else mI M o') k' = _
  by_cases e : o' = o
  · subst e; rw [if_pos rfl, up_n (fun e2 => h ⟨rfl, e2⟩)]
  · rw [if_neg e]
theorem gA_s (M : ej_Mem) (o k : Nat) (v : Int32) : aI (setA M o k v) o k = v := by
  show (if o = o then va_up (aI M o) k v else aI M o) k = v
  rw [if_pos rfl, up_s]
theorem gA_n {M : ej_Mem} {o k o' k' : Nat} {v : Int32} (h : ¬ (o' = o ∧ k' = k)) : aI (setA M o k v) o' k' = aI M o' k' := by
  show (if o' = o then va_up (aI M o) k v else aI M o') k' = _
  by_cases e : o' = o
  · subst e; rw [if_pos rfl, up_n (fun e2 => h ⟨rfl, e2⟩)]
  · rw [if_neg e]
theorem gA_o {M : ej_Mem} {o k o' : Nat} {v : Int32} (h : ¬ o' = o) : aI (setA M o k v) o' = aI M o' := by
  show (if o' = o then va_up (aI M o) k v else aI M o') = _
  rw [if_neg h]
theorem gA_u (M : ej_Mem) (o k : Nat) (v : Int32) : aI (setA M o k v) o = va_up (aI M o) k v := by
  show (if o = o then va_up (aI M o) k v else aI M o) = _
  rw [if_pos rfl]
